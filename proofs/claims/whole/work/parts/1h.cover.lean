/-! the class's chart: one operator over one stretch -/
section COVER
variable {no : Nat} {sz : Nat → Nat} {el : Nat → Nat → Int64} {w : Nat → Int64} {at0 : Nat → Nat} {tk : Nat → Nat → Nat → Bool}
/-- a hole inside takes all -/
theorem HV_all {T : Nat → Nat → Nat → Nat} {o e i j : Nat} (h : ∀ p, p < no → tk o e p = true) : HV no at0 tk T o e i j = AL no at0 T i j := by
  unfold HV AL
  rw [sm_congr (g := fun p => T p i j)]
  intro p h1 h2
  rw [if_pos (h p (by omega))]
/-- the last hole covers the whole rest -/
theorem Wx_1 {T : Nat → Nat → Nat → Nat} {o i j : Nat} (hs : 1 ≤ sz o) (hl : el o (sz o - 1) = 95) (hij : i < j) : Wx no sz el w at0 tk T o 1 i j = HV no at0 tk T o (sz o - 1) i j := by
  unfold Wx
  rw [if_pos hl, sm_one (j := j) (by omega) (by omega)]
  · unfold Wx
    rw [if_pos rfl, Nat.mul_one]
  · intro m h1 h2 h3
    unfold Wx
    rw [if_neg h3, Nat.mul_zero]
/-- a hole that isn't last: up to the word before the end -/
theorem Wx_hole {T : Nat → Nat → Nat → Nat} {o d i j : Nat} (hh : el o (sz o - (d + 2)) = 95) (hij : i < j) : Wx no sz el w at0 tk T o (d + 2) i j = sm (fun m => HV no at0 tk T o (sz o - (d + 2)) i m * Wx no sz el w at0 tk T o (d + 1) m j) (i + 1) (j - (i + 1)) := by
  show (if el o (sz o - (d + 1 + 1)) = 95 then _ else _) = _
  rw [if_pos hh]
  obtain ⟨u, hu⟩ : ∃ u, j - i = u + 1 := ⟨j - i - 1, by omega⟩
  rw [hu, sm_l, show i + 1 + u = j by omega, Wx_end, Nat.mul_zero, Nat.add_zero, show j - (i + 1) = u by omega]
theorem Wx_part {T : Nat → Nat → Nat → Nat} {o d i j : Nat} (hh : ¬ el o (sz o - (d + 1)) = 95) : Wx no sz el w at0 tk T o (d + 1) i j = if i < j ∧ w i = el o (sz o - (d + 1)) then Wx no sz el w at0 tk T o d (i + 1) j else 0 := by
  show (if el o (sz o - (d + 1)) = 95 then _ else _) = _
  rw [if_neg hh]
end COVER
/-- the ways of an operator from a start on, for one end: right for all elements -/
def wyOK (no : Nat) (sz : Nat → Nat) (el : Nat → Nat → Int64) (w : Nat → Int64) (at0 : Nat → Nat) (tk : Nat → Nat → Nat → Bool) (T : Nat → Nat → Nat → Nat) (n : Nat) (W : Nat → Int32) (o s j : Nat) : Prop := ∀ e, e ≤ sz o → W (wyN n o e s) = nI (cap (Wx no sz el w at0 tk T o (sz o - e) s j))
set_option maxHeartbeats 1000000 in
/-- cover: all elements but a last hole, from the last to the first; it answers the ways of all -/
theorem cover_ok {R_size : Nat → Int32} {R_elements : Nat → Int64} {no : Nat} {sz : Nat → Nat} {el : Nat → Nat → Int64} (G : RG R_size R_elements (nI no) no sz el) {w : Nat → Int64} {at0 : Nat → Nat} {tk : Nat → Nat → Nat → Bool} {T : Nat → Nat → Nat → Nat} {C_words : Nat → Int64} {C_all C_firsts C_ways : Nat → Int32} {n nA nF nW o i j : Nat} (hn : n ≤ 40) (ho : o < no) (hij : i < j) (hj : j ≤ n) (hA : tri (n + 1) ≤ nA) (hAb : nA ≤ 65536) (hF : tri (n + 1) * no ≤ nF) (hFb : nF ≤ 65536) (hW : no * 10 * (n + 1) ≤ nW) (hWb : nW ≤ 65536)
    (hw : ∀ k, k < n → C_words k = w k) (hp : el o (sz o - 1) = 95 → 2 ≤ sz o) (hin : ∀ e, e < sz o → e ≠ 0 → e + 1 ≠ sz o → ∀ p, p < no → tk o e p = true)
    (hal : ∀ m, i < m → m < j → C_all (spN i m) = nI (AL no at0 T i m)) (hfi : el o 0 = 95 → ∀ m, i < m → m < j → C_firsts (tpN no o i m) = nI (HV no at0 tk T o 0 i m))
    (hwy : ∀ s, i < s → s ≤ j → wyOK no sz el w at0 tk T n C_ways o s j) (hend : C_ways (wyN n o (sz o) i) = nI 0) :
    ∃ W', m_X0_cover C_words nA C_all nF C_firsts nW C_ways (nI n) (nI no) R_size R_elements (nI o) (nI i) (nI j) = some (nI (cap (Wx no sz el w at0 tk T o (sz o) i j)), W') ∧ (∀ e, e ≤ sz o → (e + 1 = sz o → ¬ el o e = 95) → W' (wyN n o e i) = nI (cap (Wx no sz el w at0 tk T o (sz o - e) i j))) ∧ (∀ q, (∀ e, e ≤ 9 → q ≠ wyN n o e i) → W' q = C_ways q) := by
  have hno : no ≤ 30 := G.2.1
  obtain ⟨g1, g2, g3, g4⟩ := G.2.2 o ho
  have hwl : ∀ e s, e ≤ 9 → s ≤ n → wyN n o e s < nW := fun e s he hs => by have := wyN_lt (n := n) (no := no) ho he hs; omega
  -- the loop from element k - 1 down
  have loop : ∀ (k f : Nat) (W : Nat → Int32) (x : Int32), k < f → k ≤ sz o → (k = sz o → ¬ el o (sz o - 1) = 95) → (∀ e, k ≤ e → e ≤ sz o → (e + 1 = sz o → ¬ el o e = 95) → W (wyN n o e i) = nI (cap (Wx no sz el w at0 tk T o (sz o - e) i j))) → (∀ q, (∀ e, e ≤ 9 → q ≠ wyN n o e i) → W q = C_ways q) → (k = 0 → x = nI (cap (Wx no sz el w at0 tk T o (sz o) i j))) →
      ∃ W', m_X0_cover_39 (nI n) (nI no) C_words nA C_all nF C_firsts nW R_size R_elements f W (nI o) (nI i) (nI j) x (nI k - 1) = some (nI (cap (Wx no sz el w at0 tk T o (sz o) i j)), W') ∧ (∀ e, e ≤ sz o → (e + 1 = sz o → ¬ el o e = 95) → W' (wyN n o e i) = nI (cap (Wx no sz el w at0 tk T o (sz o - e) i j))) ∧ (∀ q, (∀ e, e ≤ 9 → q ≠ wyN n o e i) → W' q = C_ways q) := by
    intro k
    induction k with
    | zero =>
      intro f W x hf hk hl hd hu hx
      obtain ⟨f, rfl⟩ : ∃ z, f = z + 1 := ⟨f - 1, by omega⟩
      refine ⟨W, ?_, fun e he h => hd e (by omega) he h, hu⟩
      have ez : m_X0_cover_39 (nI n) (nI no) C_words nA C_all nF C_firsts nW R_size R_elements (f + 1) W (nI o) (nI i) (nI j) x (nI 0 - 1) = some (x, W) := rfl
      rw [ez, hx rfl]
    | succ k ih =>
      intro f W x hf hk hl hd hu hx
      obtain ⟨f, rfl⟩ : ∃ z, f = z + 1 := ⟨f - 1, by omega⟩
      obtain ⟨d, hd1⟩ : ∃ d, sz o - k = d + 1 := ⟨sz o - k - 1, by omega⟩
      have hd2 : sz o - (d + 1) = k := by omega
      have hd3 : sz o - (k + 1) = d := by omega
      have ek : nI (k + 1) - 1 = nI k := nI_pred k
      -- what comes into the place, and on
      have on : ∀ v : Nat, v = cap (Wx no sz el w at0 tk T o (sz o - k) i j) → m_X0_cover_114 (nI n) (nI no) C_words nA C_all nF C_firsts nW R_size R_elements (m_X0_cover_39 (nI n) (nI no) C_words nA C_all nF C_firsts nW R_size R_elements f) W (nI o) (nI i) (nI j) (nI v) (nI k) = m_X0_cover_39 (nI n) (nI no) C_words nA C_all nF C_firsts nW R_size R_elements f (upd W (wyN n o k i) (nI v)) (nI o) (nI i) (nI j) (nI v) (nI k - 1) := by
        intro v hv
        unfold m_X0_cover_114
        rw [way_ok hn (by omega) (by omega) (by omega), ob_i, gd_nI (hwl k i (by omega) (by omega)) (by omega), nI_cl (by have := hwl k i (by omega) (by omega); omega)]
        have em : nI k + (-1) = nI k - 1 := by
          apply Int32.toBitVec_inj.mp
          show (nI k).toBitVec + (-1 : Int32).toBitVec = (nI k).toBitVec - (1 : Int32).toBitVec
          rw [BitVec.sub_eq_add_neg]; rfl
        rw [em]
      have fin : ∀ v : Nat, v = cap (Wx no sz el w at0 tk T o (sz o - k) i j) → m_X0_cover_39 (nI n) (nI no) C_words nA C_all nF C_firsts nW R_size R_elements (f + 1) W (nI o) (nI i) (nI j) x (nI (k + 1) - 1) = m_X0_cover_114 (nI n) (nI no) C_words nA C_all nF C_firsts nW R_size R_elements (m_X0_cover_39 (nI n) (nI no) C_words nA C_all nF C_firsts nW R_size R_elements f) W (nI o) (nI i) (nI j) (nI v) (nI k) → ∃ W', m_X0_cover_39 (nI n) (nI no) C_words nA C_all nF C_firsts nW R_size R_elements (f + 1) W (nI o) (nI i) (nI j) x (nI (k + 1) - 1) = some (nI (cap (Wx no sz el w at0 tk T o (sz o) i j)), W') ∧ (∀ e, e ≤ sz o → (e + 1 = sz o → ¬ el o e = 95) → W' (wyN n o e i) = nI (cap (Wx no sz el w at0 tk T o (sz o - e) i j))) ∧ (∀ q, (∀ e, e ≤ 9 → q ≠ wyN n o e i) → W' q = C_ways q) := by
        intro v hv h1
        rw [h1, on v hv]
        refine ih f (upd W (wyN n o k i) (nI v)) (nI v) (by omega) (by omega) (fun z => by omega) ?_ ?_ ?_
        · intro e he1 he2 he3
          by_cases q : e = k
          · subst q; rw [pk_us, hv]
          · rw [pk_un (fun z => q (wyN_inj (by omega) (by omega) (by omega) (by omega) z).2.1)]
            exact hd e (by omega) he2 he3
        · intro q hq
          rw [pk_un (hq k (by omega))]
          exact hu q hq
        · intro hk0
          rw [hv, hk0, Nat.sub_zero]
      have e39 : m_X0_cover_39 (nI n) (nI no) C_words nA C_all nF C_firsts nW R_size R_elements (f + 1) W (nI o) (nI i) (nI j) x (nI (k + 1) - 1) = m_X0_cover_39 (nI n) (nI no) C_words nA C_all nF C_firsts nW R_size R_elements (f + 1) W (nI o) (nI i) (nI j) x (nI k) := by rw [ek]
      have hWs : ∀ e s, e ≤ 9 → i < s → s ≤ n → W (wyN n o e s) = C_ways (wyN n o e s) := by
        intro e s he hs hsn
        apply hu
        intro e' he' z
        have := (wyN_inj he hsn he' (by omega) z).2.2
        omega
      by_cases hh : el o k = 95
      · -- a hole; not the last
        have hkl : k + 1 ≠ sz o := by
          intro z
          refine hl z ?_
          rw [show sz o - 1 = k by omega]; exact hh
        obtain ⟨d', rfl⟩ : ∃ z, d = z + 1 := ⟨d - 1, by omega⟩
        have hc := coverHole_ok (C_all := C_all) (C_firsts := C_firsts) (C_ways := W) (nA := nA) (nF := nF) (nW := nW) (e := k) hn hno ho (by omega) hij hj hA hAb hF hFb hW hWb (h := fun m => HV no at0 tk T o k i m) (g := fun m => cap (Wx no sz el w at0 tk T o (d' + 1) m j))
          (fun m h1 h2 => ⟨by rw [hWs (k + 1) m (by omega) h1 (by omega), hwy m h1 (by omega) (k + 1) (by omega), hd3], cap_le _⟩)
          (fun m h1 h2 => ⟨by
            by_cases q : k = 0
            · rw [if_pos q, hfi (by rw [← q]; exact hh) m h1 h2, q]
            · rw [if_neg q, hal m h1 h2, HV_all (hin k (by omega) q hkl)], by unfold HV; exact cap_le _⟩)
        refine fin (cap (sm (fun m => HV no at0 tk T o k i m * cap (Wx no sz el w at0 tk T o (d' + 1) m j)) (i + 1) (j - (i + 1)))) ?_ ?_
        · rw [hd1]
          have hd4 : sz o - (d' + 2) = k := by omega
          rw [Wx_hole (by rw [hd4]; exact hh) hij, hd4]
          -- caps inside a sum
          have cs : ∀ (f g : Nat → Nat) (d a : Nat), cap (sm (fun m => f m * cap (g m)) a d) = cap (sm (fun m => f m * g m) a d) := by
            intro f g d
            induction d with
            | zero => intro a; rfl
            | succ d ihd =>
              intro a
              rw [sm_s, sm_s, ← cap_addr, ihd (a + 1), cap_addr, ← cap_addl, cap_mulr, cap_addl]
          exact cs _ _ _ _
        · rw [e39]
          show (if nI k < 0 then _ else _) = _
          rw [if_neg (by rw [i_0, nI_lt' (by omega) (by omega)]; omega), isHole_ok' G ho (by omega), ob_i, if_neg (by rw [bi_eq0]; simpa using hh), hc, ob_i]
      · -- a part
        refine fin (cap (Wx no sz el w at0 tk T o (sz o - k) i j)) rfl ?_
        rw [e39]
        show (if nI k < 0 then _ else _) = _
        rw [if_neg (by rw [i_0, nI_lt' (by omega) (by omega)]; omega), isHole_ok' G ho (by omega), ob_i, if_pos (by rw [bi_eq0]; exact hh), gd_nI (by omega) (by omega), element_ok (by omega) (by omega), ob_i, nI_cl (by omega), hw i (by omega), g4 k (by omega)]
        rw [hd1, Wx_part (by rw [hd2]; exact hh), hd2]
        by_cases q : w i = el o k
        · rw [if_pos ((lg_cmp_eq _ _).mpr q), if_pos ⟨hij, q⟩, nI_1, nI_1, way_ok hn (by omega) (by omega) (by omega), ob_i, gd_nI (hwl (k + 1) (i + 1) (by omega) (by omega)) (by omega), nI_cl (by have := hwl (k + 1) (i + 1) (by omega) (by omega); omega)]
          rw [hWs (k + 1) (i + 1) (by omega) (by omega) (by omega), hwy (i + 1) (by omega) (by omega) (k + 1) (by omega), hd3]
          rfl
        · rw [if_neg (fun z => q ((lg_cmp_eq _ _).mp z)), if_neg (fun z => q z.2)]
          rfl
  unfold m_X0_cover
  rw [size_ok (by omega), ob_i, g1, i_1, pk_sub (by omega), isHole_ok' G ho (by omega), ob_i]
  have e0 : ∀ x y : Nat, x = y → nI x = nI y := fun x y h => by rw [h]
  by_cases hl : el o (sz o - 1) = 95
  · rw [if_neg (by rw [bi_eq0]; simpa using hl)]
    have h2 := hp hl
    have := loop (sz o - 1) FU C_ways 0 (by rw [FU_v]; omega) (by omega) (fun z => by omega) (by
      intro e he1 he2 he3
      by_cases q : e = sz o
      · subst q
        rw [hend, Nat.sub_self]
        unfold Wx
        rw [if_neg (by omega)]; rfl
      · exfalso
        refine he3 (by omega) ?_
        rw [show e = sz o - 1 by omega]; exact hl) (fun _ _ => rfl) (fun z => by omega)
    exact this
  · rw [if_pos (by rw [bi_eq0]; exact hl)]
    have := loop (sz o) FU C_ways 0 (by rw [FU_v]; omega) (by omega) (fun _ => hl) (by
      intro e he1 he2 he3
      have q : e = sz o := by omega
      subst q
      rw [hend, Nat.sub_self]
      unfold Wx
      rw [if_neg (by omega)]; rfl) (fun _ _ => rfl) (fun z => by omega)
    rw [i_1] at this
    rw [pk_sub (by omega)] at this
    exact this
