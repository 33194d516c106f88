/-! the class's chart: one stretch -/
def CEnv (R_size : Nat → Int32) (R_elements : Nat → Int64) (F Lt : Nat → Int32) (no : Nat) (sz : Nat → Nat) (el : Nat → Nat → Int64) (w : Nat → Int64) (at0 : Nat → Nat) (tk : Nat → Nat → Nat → Bool) (n : Nat) (C_words : Nat → Int64) (C_atom : Nat → Int32) (nA nT nF nW : Nat) : Prop :=
  RG R_size R_elements (nI no) no sz el ∧ n ≤ 40 ∧ (∀ k, k < n → C_words k = w k) ∧ (∀ k, k < n → C_atom k = nI (at0 k)) ∧ (∀ k, at0 k ≤ 1) ∧ (tri (n + 1) ≤ nA ∧ nA ≤ 65536) ∧ (tri (n + 1) * no ≤ nT ∧ nT ≤ 65536) ∧ (tri (n + 1) * no ≤ nF ∧ nF ≤ 65536) ∧ (no * 10 * (n + 1) ≤ nW ∧ nW ≤ 65536) ∧ (∀ o, o < no → (el o 0 = 95 → 2 ≤ sz o) ∧ (el o (sz o - 1) = 95 → 2 ≤ sz o)) ∧ (∀ o, o < no → ∀ e, e < sz o → e ≠ 0 → e + 1 ≠ sz o → ∀ p, p < no → tk o e p = true) ∧ (∀ o, o < no → mkB (F o) no (tk o 0)) ∧ (∀ o, o < no → 2 ≤ sz o → mkB (Lt o) no (tk o (sz o - 1)))
section SPAN
variable {R_size : Nat → Int32} {R_elements : Nat → Int64} {F Lt : Nat → Int32} {no : Nat} {sz : Nat → Nat} {el : Nat → Nat → Int64} {w : Nat → Int64} {at0 : Nat → Nat} {tk : Nat → Nat → Nat → Bool} {n : Nat} {C_words : Nat → Int64} {C_atom : Nat → Int32} {nA nT nF nW : Nat}
theorem CEnv.hs (E : CEnv R_size R_elements F Lt no sz el w at0 tk n C_words C_atom nA nT nF nW) : ∀ o, o < no → 1 ≤ sz o ∧ (el o 0 = 95 → 2 ≤ sz o) := fun o ho => ⟨(E.1.2.2 o ho).2.1, (E.2.2.2.2.2.2.2.2.2.1 o ho).1⟩
theorem TT_le {o i j : Nat} : TT no sz el w at0 tk o i j ≤ 1000000000 := by
  unfold TT
  cases j - i with
  | zero => exact Nat.zero_le _
  | succ L => exact cap_le _
/-- a masked sum is what the hole takes, if what lives is in the mask -/
theorem HV_mask {x y : Int32} {T : Nat → Nat → Nat → Nat} {o e i j : Nat} (hno : no ≤ 30) (hx : mkB x no (tk o e)) (hy : ∀ p, p < no → bt' y p = false → T p i j = 0) : cap (at1 at0 i j + sm (fun p => if bt' (x &&& y) p = true then T p i j else 0) 0 no) = HV no at0 tk T o e i j := by
  unfold HV
  rw [sm_congr (g := fun p => if tk o e p = true then T p i j else 0)]
  intro p h1 h2
  have hp : p < no := by omega
  rw [and_bit, hx p (by omega)]
  simp only [hp, decide_true, Bool.true_and]
  cases h3 : tk o e p with
  | false => simp
  | true =>
    cases h4 : bt' y p with
    | true => simp
    | false => simp [hy p hp h4]
theorem coverLast_ok (E : CEnv R_size R_elements F Lt no sz el w at0 tk n C_words C_atom nA nT nF nW) {C_topped C_ways : Nat → Int32} {T : Nat → Nat → Nat → Nat} {o i j : Nat} (ho : o < no) (hij : i < j) (hj : j ≤ n) (ht : ∀ p, p < no → C_topped (tpN no p i j) = nI (T p i j) ∧ T p i j ≤ 1000000000) {y : Int32} (hy : ∀ p, p < no → bt' y p = false → T p i j = 0) :
    m_X0_coverLast C_atom nT C_topped nW C_ways (nI n) (nI no) R_size F Lt R_elements (nI o) (nI i) (nI j) y = some (if el o (sz o - 1) = 95 then upd C_ways (wyN n o (sz o - 1) i) (nI (HV no at0 tk T o (sz o - 1) i j)) else C_ways) := by
  obtain ⟨G, hn, hw, ha, ha1, hA, hT, hF, hW, hp, hin, hmF, hmL⟩ := E
  have hno : no ≤ 30 := G.2.1
  obtain ⟨g1, g2, g3, g4⟩ := G.2.2 o ho
  unfold m_X0_coverLast
  rw [size_ok (by omega), ob_i, g1, i_1, pk_sub (by omega), isHole_ok' G ho (by omega), ob_i]
  by_cases hl : el o (sz o - 1) = 95
  · have h2 := (hp o ho).2 hl
    have hwl := wyN_lt (n := n) (no := no) ho (show sz o - 1 ≤ 9 by omega) (show i ≤ n by omega)
    rw [if_neg (by rw [bi_eq0]; simpa using hl), if_pos hl, way_ok hn (by omega) (by omega) (by omega), ob_i, takes_ok G ho (by omega), ob_i, if_neg (by omega), if_pos (by omega)]
    rw [fitting_ok hn hno ha ha1 hij hj hT.1 hT.2 ht, ob_i, gd_nI (by omega) (by omega), nI_cl (by omega)]
    rw [HV_mask hno (hmL o ho h2) hy]
  · rw [if_pos (by rw [bi_eq0]; exact hl), if_neg hl]
/-- what must stand before a stretch is filled, and what stands behind it -/
def spPre (no : Nat) (sz : Nat → Nat) (el : Nat → Nat → Int64) (w : Nat → Int64) (at0 : Nat → Nat) (tk : Nat → Nat → Nat → Bool) (n : Nat) (C_all C_firsts C_ways : Nat → Int32) (i j : Nat) : Prop :=
  (∀ m, i < m → m < j → C_all (spN i m) = nI (AL no at0 (TT no sz el w at0 tk) i m) ∧ ∀ o, o < no → el o 0 = 95 → C_firsts (tpN no o i m) = nI (HV no at0 tk (TT no sz el w at0 tk) o 0 i m)) ∧ (∀ o, o < no → (∀ s, i < s → s ≤ j → wyOK no sz el w at0 tk (TT no sz el w at0 tk) n C_ways o s j) ∧ C_ways (wyN n o (sz o) i) = nI 0)
set_option maxHeartbeats 2000000 in
theorem fillSpan_ok (E : CEnv R_size R_elements F Lt no sz el w at0 tk n C_words C_atom nA nT nF nW) {C_all C_topped C_firsts C_ways : Nat → Int32} {i j : Nat} (hij : i < j) (hj : j ≤ n) (hpre : spPre no sz el w at0 tk n C_all C_firsts C_ways i j) :
    ∃ C_topped' C_firsts' C_ways', m_X0_fillSpan C_words C_atom nA C_all nT C_topped nF C_firsts nW C_ways (nI n) (nI no) R_size F Lt R_elements (nI i) (nI j) = some (upd C_all (spN i j) (nI (AL no at0 (TT no sz el w at0 tk) i j)), C_topped', C_firsts', C_ways') ∧
      (∀ o, o < no → C_topped' (tpN no o i j) = nI (TT no sz el w at0 tk o i j) ∧ (el o 0 = 95 → C_firsts' (tpN no o i j) = nI (HV no at0 tk (TT no sz el w at0 tk) o 0 i j)) ∧ wyOK no sz el w at0 tk (TT no sz el w at0 tk) n C_ways' o i j) ∧
      (∀ q, (∀ o, o < no → q ≠ tpN no o i j) → C_topped' q = C_topped q ∧ C_firsts' q = C_firsts q) ∧ (∀ q, (∀ o e, o < no → e ≤ 9 → q ≠ wyN n o e i) → C_ways' q = C_ways q) := by
  have E0 := E
  obtain ⟨G, hn, hw, ha, ha1, hA, hT, hF, hW, hp, hin, hmF, hmL⟩ := E
  have hno : no ≤ 30 := G.2.1
  obtain ⟨hp1, hp2⟩ := hpre
  have hsp := spN_lt hij hj
  have htp : ∀ o, o < no → tpN no o i j < tri (n + 1) * no := fun o ho => tpN_lt hij hj ho
  have hat := at1_le ha1 i j
  -- the second loop: firsts, and last holes
  have loop2 : ∀ (A tp fs W : Nat → Int32) (y : Int32), (∀ p, p < no → tp (tpN no p i j) = nI (TT no sz el w at0 tk p i j)) → (∀ p, p < no → bt' y p = false → TT no sz el w at0 tk p i j = 0) → (∀ o, o < no → ∀ e, e ≤ sz o → (e + 1 = sz o → ¬ el o e = 95) → W (wyN n o e i) = nI (cap (Wx no sz el w at0 tk (TT no sz el w at0 tk) o (sz o - e) i j))) →
      ∃ fs' W', m_X0_fillSpan_99 (nI n) (nI no) C_words C_atom nA nT nF nW R_size F Lt R_elements FU A tp fs W (nI i) (nI j) (nI (spN i j)) y 0 = some (A, tp, fs', W') ∧ (∀ o, o < no → (el o 0 = 95 → fs' (tpN no o i j) = nI (HV no at0 tk (TT no sz el w at0 tk) o 0 i j)) ∧ wyOK no sz el w at0 tk (TT no sz el w at0 tk) n W' o i j) ∧ (∀ q, (∀ o, o < no → q ≠ tpN no o i j) → fs' q = fs q) ∧ (∀ q, (∀ o e, o < no → e ≤ 9 → q ≠ wyN n o e i) → W' q = W q) := by
    intro A tp fs0 W0 y htp1 hy hW0
    have ht : ∀ p, p < no → tp (tpN no p i j) = nI (TT no sz el w at0 tk p i j) ∧ TT no sz el w at0 tk p i j ≤ 1000000000 := fun p hp => ⟨htp1 p hp, TT_le⟩
    refine lpP (fun k o (s : (Nat → Int32) × (Nat → Int32)) => m_X0_fillSpan_99 (nI n) (nI no) C_words C_atom nA nT nF nW R_size F Lt R_elements k A tp s.1 s.2 (nI i) (nI j) (nI (spN i j)) y (nI o)) (fun r => ∃ fs' W', r = some (A, tp, fs', W') ∧ (∀ o, o < no → (el o 0 = 95 → fs' (tpN no o i j) = nI (HV no at0 tk (TT no sz el w at0 tk) o 0 i j)) ∧ wyOK no sz el w at0 tk (TT no sz el w at0 tk) n W' o i j) ∧ (∀ q, (∀ o, o < no → q ≠ tpN no o i j) → fs' q = fs0 q) ∧ (∀ q, (∀ o e, o < no → e ≤ 9 → q ≠ wyN n o e i) → W' q = W0 q)) no
      (fun o s => (∀ p, p < o → (el p 0 = 95 → s.1 (tpN no p i j) = nI (HV no at0 tk (TT no sz el w at0 tk) p 0 i j)) ∧ wyOK no sz el w at0 tk (TT no sz el w at0 tk) n s.2 p i j) ∧ (∀ q, (∀ o, o < no → q ≠ tpN no o i j) → s.1 q = fs0 q) ∧ (∀ q, (∀ p e, p < o → e ≤ 9 → q ≠ wyN n p e i) → s.2 q = W0 q)) ?_ ?_ no FU 0 (fs0, W0) (by omega) (by rw [FU_v]; omega) ⟨fun p h => by omega, fun _ _ => rfl, fun _ _ => rfl⟩
    · intro k s ⟨s1, s2, s3⟩
      refine ⟨s.1, s.2, ?_, s1, s2, s3⟩
      show (if nI no ≤ nI no then _ else _) = _
      rw [if_pos (by rw [nI_le' (by omega) (by omega)]; omega)]
    · intro k o s ho ⟨s1, s2, s3⟩
      obtain ⟨fs, W⟩ := s
      dsimp only at s1 s2 s3 ⊢
      right
      obtain ⟨g1, g2, g3, g4⟩ := G.2.2 o ho
      have hto := htp o ho
      have e0 : spN i j * no + o = tpN no o i j := rfl
      -- one operator: v comes into firsts
      have one : ∀ v : Nat, (el o 0 = 95 → v = HV no at0 tk (TT no sz el w at0 tk) o 0 i j) → ∃ s' : (Nat → Int32) × (Nat → Int32), m_X0_fillSpan_157 (nI n) (nI no) C_words C_atom nA nT nF nW R_size F Lt R_elements (m_X0_fillSpan_99 (nI n) (nI no) C_words C_atom nA nT nF nW R_size F Lt R_elements k) A tp fs W (nI i) (nI j) (nI (spN i j)) y (nI o) (nI v) ((nI (spN i j) * nI no) + nI o) = m_X0_fillSpan_99 (nI n) (nI no) C_words C_atom nA nT nF nW R_size F Lt R_elements k A tp s'.1 s'.2 (nI i) (nI j) (nI (spN i j)) y (nI (o + 1)) ∧ (∀ p, p < o + 1 → (el p 0 = 95 → s'.1 (tpN no p i j) = nI (HV no at0 tk (TT no sz el w at0 tk) p 0 i j)) ∧ wyOK no sz el w at0 tk (TT no sz el w at0 tk) n s'.2 p i j) ∧ (∀ q, (∀ o, o < no → q ≠ tpN no o i j) → s'.1 q = fs0 q) ∧ (∀ q, (∀ p e, p < o + 1 → e ≤ 9 → q ≠ wyN n p e i) → s'.2 q = W0 q) := by
        intro v hv
        refine ⟨(upd fs (tpN no o i j) (nI v), if el o (sz o - 1) = 95 then upd W (wyN n o (sz o - 1) i) (nI (HV no at0 tk (TT no sz el w at0 tk) o (sz o - 1) i j)) else W), ?_, ?_, ?_, ?_⟩
        · unfold m_X0_fillSpan_157
          rw [pk_mul, nI_add, e0, gd_nI (by omega) (by omega), coverLast_ok E0 ho hij hj ht hy, ob_i, nI_cl (by omega), nI_1]
        · intro p hpo
          constructor
          · intro hp0
            by_cases q : p = o
            · subst q
              show upd fs (tpN no p i j) (nI v) (tpN no p i j) = _
              rw [pk_us, hv hp0]
            · show upd fs (tpN no o i j) (nI v) (tpN no p i j) = _
              rw [pk_un (fun z => q (tpN_inj hij hij (by omega) ho z).1)]
              exact (s1 p (by omega)).1 hp0
          · intro e he
            by_cases q : p = o
            · subst q
              by_cases hl : el p (sz p - 1) = 95
              · show ((if el p (sz p - 1) = 95 then _ else _ : Nat → Int32)) (wyN n p e i) = _
                rw [if_pos hl]
                by_cases q2 : e = sz p - 1
                · subst q2
                  rw [pk_us, show sz p - (sz p - 1) = 1 by omega, Wx_1 g2 hl hij]
                  rw [show cap (HV no at0 tk (TT no sz el w at0 tk) p (sz p - 1) i j) = HV no at0 tk (TT no sz el w at0 tk) p (sz p - 1) i j by unfold HV; exact cap_cap _]
                · rw [pk_un (fun z => q2 (wyN_inj (by omega) (by omega) (by omega) (by omega) z).2.1)]
                  rw [s3 _ (fun p' e' hp' he' z => by have := (wyN_inj (by omega) (by omega) he' (by omega) z).1; omega)]
                  exact hW0 p ho e he (fun z => by omega)
              · show ((if el p (sz p - 1) = 95 then _ else _ : Nat → Int32)) (wyN n p e i) = _
                rw [if_neg hl]
                rw [s3 _ (fun p' e' hp' he' z => by have := (wyN_inj (by omega) (by omega) he' (by omega) z).1; omega)]
                exact hW0 p ho e he (fun z z2 => hl (by rw [show sz p - 1 = e by omega]; exact z2))
            · have hpn : sz p ≤ 9 := (G.2.2 p (by omega)).2.2.1
              have hk := (s1 p (by omega)).2 e he
              show ((if el o (sz o - 1) = 95 then _ else _ : Nat → Int32)) (wyN n p e i) = _
              by_cases hl : el o (sz o - 1) = 95
              · rw [if_pos hl, pk_un (fun z => q (wyN_inj (by omega) (by omega) (by omega) (by omega) z).1)]
                exact hk
              · rw [if_neg hl]; exact hk
        · intro q hq
          show upd fs (tpN no o i j) (nI v) q = _
          rw [pk_un (hq o ho)]
          exact s2 q hq
        · intro q hq
          show ((if el o (sz o - 1) = 95 then _ else _ : Nat → Int32)) q = _
          by_cases hl : el o (sz o - 1) = 95
          · rw [if_pos hl, pk_un (hq o (sz o - 1) (by omega) (by omega))]
            exact s3 q (fun p e hp he => hq p e (by omega) he)
          · rw [if_neg hl]
            exact s3 q (fun p e hp he => hq p e (by omega) he)
      have e99 : m_X0_fillSpan_99 (nI n) (nI no) C_words C_atom nA nT nF nW R_size F Lt R_elements (k + 1) A tp fs W (nI i) (nI j) (nI (spN i j)) y (nI o) = m_X0_fillSpan_99 (nI n) (nI no) C_words C_atom nA nT nF nW R_size F Lt R_elements (k + 1) A tp fs W (nI i) (nI j) (nI (spN i j)) y (nI o) := rfl
      conv at e99 => rhs; unfold m_X0_fillSpan_99
      rw [if_neg (by rw [nI_le' (by omega) (by omega)]; omega), i_0, isHole_ok' G ho (by omega), ob_i] at e99
      by_cases hf : el o 0 = 95
      · rw [if_neg (by rw [show (nI 0 : Int32) = 0 from rfl, bi_eq0]; simpa using hf), takes_ok G ho (by omega), ob_i, if_pos rfl, fitting_ok hn hno ha ha1 hij hj hT.1 hT.2 ht, ob_i, HV_mask hno (hmF o ho) hy] at e99
        obtain ⟨s', h1, h2⟩ := one _ (fun _ => rfl)
        exact ⟨s', e99.trans h1, h2⟩
      · rw [if_pos (by rw [show (nI 0 : Int32) = 0 from rfl, bi_eq0]; exact hf)] at e99
        obtain ⟨s', h1, h2⟩ := one 0 (fun z => absurd z hf)
        exact ⟨s', e99.trans h1, h2⟩
  unfold m_X0_fillSpan
  rw [span_ok (by omega) (by omega) (by omega), ob_i, atoms_ok hn ha hij hj, ob_i]
  refine lpP (fun k o (s : (Nat → Int32) × (Nat → Int32) × Nat × Int32) => m_X0_fillSpan_20 (nI n) (nI no) C_words C_atom nA nT nF nW R_size F Lt R_elements k C_all s.1 C_firsts s.2.1 (nI i) (nI j) (nI (spN i j)) (nI s.2.2.1) s.2.2.2 (nI o)) (fun r => ∃ C_topped' C_firsts' C_ways', r = some (upd C_all (spN i j) (nI (AL no at0 (TT no sz el w at0 tk) i j)), C_topped', C_firsts', C_ways') ∧
      (∀ o, o < no → C_topped' (tpN no o i j) = nI (TT no sz el w at0 tk o i j) ∧ (el o 0 = 95 → C_firsts' (tpN no o i j) = nI (HV no at0 tk (TT no sz el w at0 tk) o 0 i j)) ∧ wyOK no sz el w at0 tk (TT no sz el w at0 tk) n C_ways' o i j) ∧
      (∀ q, (∀ o, o < no → q ≠ tpN no o i j) → C_topped' q = C_topped q ∧ C_firsts' q = C_firsts q) ∧ (∀ q, (∀ o e, o < no → e ≤ 9 → q ≠ wyN n o e i) → C_ways' q = C_ways q)) no
    (fun o s => (∀ p, p < o → s.1 (tpN no p i j) = nI (TT no sz el w at0 tk p i j)) ∧ (∀ q, (∀ p, p < no → q ≠ tpN no p i j) → s.1 q = C_topped q) ∧ (∀ p, p < o → ∀ e, e ≤ sz p → (e + 1 = sz p → ¬ el p e = 95) → s.2.1 (wyN n p e i) = nI (cap (Wx no sz el w at0 tk (TT no sz el w at0 tk) p (sz p - e) i j))) ∧ (∀ q, (∀ p e, p < o → e ≤ 9 → q ≠ wyN n p e i) → s.2.1 q = C_ways q) ∧ s.2.2.1 = cap (at1 at0 i j + sm (fun p => TT no sz el w at0 tk p i j) 0 o) ∧ mkB s.2.2.2 o (fun p => decide (0 < TT no sz el w at0 tk p i j))) ?_ ?_ no FU 0 (C_topped, C_ways, at1 at0 i j, 0) (by omega) (by rw [FU_v]; omega) ⟨fun p h => by omega, fun _ _ => rfl, fun p h => by omega, fun _ _ => rfl, by rw [sm_0, Nat.add_zero, cap_id (by omega)], mkB_0 _⟩
  · intro k s ⟨s1, s2, s3, s4, s5, s6⟩
    obtain ⟨fs', W', h1, h2, h3, h4⟩ := loop2 (upd C_all (spN i j) (nI (AL no at0 (TT no sz el w at0 tk) i j))) s.1 C_firsts s.2.1 s.2.2.2 s1 (by
      intro p hp hb
      rw [s6 p (by omega)] at hb
      simp only [hp, decide_true, Bool.true_and, decide_eq_false_iff_not] at hb
      omega) s3
    refine ⟨s.1, fs', W', ?_, fun o ho => ⟨s1 o ho, h2 o ho⟩, fun q hq => ⟨s2 q hq, h3 q hq⟩, fun q hq => by rw [h4 q hq]; exact s4 q hq⟩
    show (if nI no ≤ nI no then (gd (nI (spN i j)) nA (m_X0_fillSpan_99 (nI n) (nI no) C_words C_atom nA nT nF nW R_size F Lt R_elements FU (upd C_all (nI (spN i j)).toNatClampNeg (nI s.2.2.1)) s.1 C_firsts s.2.1 (nI i) (nI j) (nI (spN i j)) s.2.2.2 0)) else _) = _
    rw [if_pos (by rw [nI_le' (by omega) (by omega)]; omega), gd_nI (by omega) (by omega), nI_cl (by omega), s5]
    exact h1
  · intro k o s ho ⟨s1, s2, s3, s4, s5, s6⟩
    obtain ⟨tp, W, sm0, y⟩ := s
    dsimp only at s1 s2 s3 s4 s5 s6 ⊢
    right
    obtain ⟨g1, g2, g3, g4⟩ := G.2.2 o ho
    have hto := htp o ho
    obtain ⟨hw1, hw2⟩ := hp2 o ho
    have hWo : ∀ e s, e ≤ 9 → s ≤ n → W (wyN n o e s) = C_ways (wyN n o e s) := fun e s he hs => s4 _ (fun p e' hp' he' z => by have := (wyN_inj he hs he' (by omega) z).1; omega)
    obtain ⟨W', c1, c2, c3⟩ := cover_ok (w := w) (at0 := at0) (tk := tk) (T := TT no sz el w at0 tk) (C_words := C_words) (C_all := C_all) (C_firsts := C_firsts) (C_ways := W) (nA := nA) (nF := nF) (nW := nW) G hn ho hij hj hA.1 hA.2 hF.1 hF.2 hW.1 hW.2 hw (hp o ho).2 (hin o ho) (fun m h1 h2 => (hp1 m h1 h2).1) (fun h0 m h1 h2 => (hp1 m h1 h2).2 o ho h0)
      (fun s hs1 hs2 e he => by rw [hWo e s (by omega) (by omega)]; exact hw1 s hs1 hs2 e he) (by rw [hWo _ _ (by omega) (by omega)]; exact hw2)
    have hTo : cap (Wx no sz el w at0 tk (TT no sz el w at0 tk) o (sz o) i j) = TT no sz el w at0 tk o i j := (TT_eq E0.hs ho hij).symm
    rw [hTo] at c1
    have hTl : TT no sz el w at0 tk o i j ≤ 1000000000 := TT_le
    have hsl : sm0 ≤ 1000000000 := by rw [s5]; exact cap_le _
    have e20 : m_X0_fillSpan_20 (nI n) (nI no) C_words C_atom nA nT nF nW R_size F Lt R_elements (k + 1) C_all tp C_firsts W (nI i) (nI j) (nI (spN i j)) (nI sm0) y (nI o) = m_X0_fillSpan_20 (nI n) (nI no) C_words C_atom nA nT nF nW R_size F Lt R_elements (k + 1) C_all tp C_firsts W (nI i) (nI j) (nI (spN i j)) (nI sm0) y (nI o) := rfl
    conv at e20 => rhs; unfold m_X0_fillSpan_20
    have ee : spN i j * no + o = tpN no o i j := rfl
    rw [if_neg (by rw [nI_le' (by omega) (by omega)]; omega), c1, ob_i, pk_mul, nI_add, ee] at e20
    dsimp only at e20
    rw [gd_nI (by omega) (by omega), plus_ok hsl hTl, ob_i, nI_cl (by omega)] at e20
    have fin : ∀ y' : Int32, mkB y' (o + 1) (fun p => decide (0 < TT no sz el w at0 tk p i j)) → m_X0_fillSpan_20 (nI n) (nI no) C_words C_atom nA nT nF nW R_size F Lt R_elements (k + 1) C_all tp C_firsts W (nI i) (nI j) (nI (spN i j)) (nI sm0) y (nI o) = m_X0_fillSpan_20 (nI n) (nI no) C_words C_atom nA nT nF nW R_size F Lt R_elements k C_all (upd tp (tpN no o i j) (nI (TT no sz el w at0 tk o i j))) C_firsts W' (nI i) (nI j) (nI (spN i j)) (nI (cap (sm0 + TT no sz el w at0 tk o i j))) y' (nI o + 1) → ∃ s' : (Nat → Int32) × (Nat → Int32) × Nat × Int32, m_X0_fillSpan_20 (nI n) (nI no) C_words C_atom nA nT nF nW R_size F Lt R_elements (k + 1) C_all tp C_firsts W (nI i) (nI j) (nI (spN i j)) (nI sm0) y (nI o) = m_X0_fillSpan_20 (nI n) (nI no) C_words C_atom nA nT nF nW R_size F Lt R_elements k C_all s'.1 C_firsts s'.2.1 (nI i) (nI j) (nI (spN i j)) (nI s'.2.2.1) s'.2.2.2 (nI (o + 1)) ∧ (∀ p, p < o + 1 → s'.1 (tpN no p i j) = nI (TT no sz el w at0 tk p i j)) ∧ (∀ q, (∀ p, p < no → q ≠ tpN no p i j) → s'.1 q = C_topped q) ∧ (∀ p, p < o + 1 → ∀ e, e ≤ sz p → (e + 1 = sz p → ¬ el p e = 95) → s'.2.1 (wyN n p e i) = nI (cap (Wx no sz el w at0 tk (TT no sz el w at0 tk) p (sz p - e) i j))) ∧ (∀ q, (∀ p e, p < o + 1 → e ≤ 9 → q ≠ wyN n p e i) → s'.2.1 q = C_ways q) ∧ s'.2.2.1 = cap (at1 at0 i j + sm (fun p => TT no sz el w at0 tk p i j) 0 (o + 1)) ∧ mkB s'.2.2.2 (o + 1) (fun p => decide (0 < TT no sz el w at0 tk p i j)) := by
      intro y' hy' h1
      refine ⟨(upd tp (tpN no o i j) (nI (TT no sz el w at0 tk o i j)), W', cap (sm0 + TT no sz el w at0 tk o i j), y'), ?_, ?_, ?_, ?_, ?_, ?_, hy'⟩
      · rw [h1, nI_1]
      · intro p hpo
        by_cases q : p = o
        · subst q; exact pk_us
        · show upd tp _ _ (tpN no p i j) = _
          rw [pk_un (fun z => q (tpN_inj hij hij (by omega) ho z).1)]
          exact s1 p (by omega)
      · intro q hq
        show upd tp _ _ q = _
        rw [pk_un (hq o ho)]
        exact s2 q hq
      · intro p hpo e he hl
        by_cases q : p = o
        · subst q; exact c2 e he hl
        · have hpn : sz p ≤ 9 := (G.2.2 p (by omega)).2.2.1
          show W' (wyN n p e i) = _
          rw [c3 _ (fun e' he' z => q (wyN_inj (by omega) (by omega) he' (by omega) z).1)]
          exact s3 p (by omega) e he hl
      · intro q hq
        show W' q = _
        rw [c3 q (fun e he => hq o e (by omega) he)]
        exact s4 q (fun p e hp' he => hq p e (by omega) he)
      · show cap (sm0 + _) = _
        rw [s5, cap_addl, sm_l, Nat.zero_add, Nat.add_assoc]
    by_cases q : TT no sz el w at0 tk o i j = 0
    · rw [if_pos (by rw [nI_le0' (by omega)]; omega)] at e20
      refine fin (y ||| 0) ?_ e20
      rw [or_0]
      exact mkB_f s6 (by simp [q])
    · rw [if_neg (by rw [nI_le0' (by omega)]; omega)] at e20
      exact fin _ (mkB_t s6 (by omega) (by simp; omega)) e20
end SPAN
