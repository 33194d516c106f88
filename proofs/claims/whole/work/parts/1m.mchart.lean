/-! the reference's chart: all stretches -/
section MFIND
variable {C : Nat → Int32} {E : Nat → Int64} {no : Nat} {sz : Nat → Nat} {el : Nat → Nat → Int64} {w : Nat → Int64} {at0 : Nat → Nat} {tk : Nat → Nat → Nat → Bool}
/-- the masks of the reference's types of holes -/
def TKOK (no : Nat) (sz : Nat → Nat) (tk : Nat → Nat → Nat → Bool) (Tk : Nat → Int32) : Prop := Tk 0 = -1 ∧ ∀ o e p, o < no → e < sz o → p < no → bt' (Tk (tyN sz o e)) p = tk o e p
theorem hv_HV {Tk : Nat → Int32} {T : Nat → Nat → Nat → Nat} (K : TKOK no sz tk Tk) {o e i j : Nat} (ho : o < no) (he : e < sz o) : hvN no at0 Tk T (tyN sz o e) i j = HV no at0 tk T o e i j := by
  unfold hvN HV
  rw [sm_congr (g := fun p => if tk o e p = true then T p i j else 0)]
  intro p h1 h2
  rw [K.2 o e p ho he (by omega)]
theorem hv_AL {Tk : Nat → Int32} {T : Nat → Nat → Nat → Nat} (K : TKOK no sz tk Tk) (hno : no ≤ 30) {i j : Nat} : hvN no at0 Tk T 0 i j = AL no at0 T i j := by
  unfold hvN AL
  rw [sm_congr (g := fun p => T p i j)]
  intro p h1 h2
  rw [K.1, bt_m1 (by omega), if_pos rfl]
theorem tyN_le {o e : Nat} (hno : no ≤ 30) (ho : o < no) : tyN sz o e ≤ 2 * no := by
  unfold tyN
  split
  · omega
  · split <;> omega
/-- the reference's chart is right at the stretches of P -/
def mcOK (no : Nat) (sz : Nat → Nat) (el : Nat → Nat → Int64) (w : Nat → Int64) (at0 : Nat → Nat) (tk : Nat → Nat → Nat → Bool) (Tk : Nat → Int32) (n c : Nat) (Wo Ih : Nat → Int32) (P : Nat → Nat → Prop) : Prop :=
  ∀ i j, i < j → j ≤ n → P i j → (∀ o, o < no → Wo (mwN c o i (j - i)) = nI (TT no sz el w at0 tk o i j)) ∧ (∀ t, t ≤ 2 * no → Ih (mhN c t i (j - i)) = nI (hvN no at0 Tk (TT no sz el w at0 tk) t i j))
theorem Fx_1 {T : Nat → Nat → Nat → Nat} {o i j : Nat} (h0 : el o 0 = 95) (hij : i < j) : Fx no el w at0 tk T o 1 i j = HV no at0 tk T o 0 i j := by
  show (if el o 0 = 95 then sm (fun m => Fx no el w at0 tk T o 0 i m * HV no at0 tk T o 0 m j) i (j - i) else _) = _
  rw [if_pos h0, sm_one (j := i) (by omega) (by omega)]
  · show (if i = i then 1 else 0) * _ = _
    rw [if_pos rfl, Nat.one_mul]
  · intro m h1 h2 h3
    show (if i = m then 1 else 0) * _ = _
    rw [if_neg (fun z => h3 z.symm), Nat.zero_mul]
theorem inj2 {o o' i i' l l' : Nat} (hi : i ≤ 40) (hi' : i' ≤ 40) (hl : l ≤ 40) (hl' : l' ≤ 40) (h : 1681 * o + 41 * i + l = 1681 * o' + 41 * i' + l') : o = o' ∧ i = i' ∧ l = l' := by
  have h1 : o = o' := by
    obtain ⟨a, ha⟩ : ∃ a, 41 * i + l = a := ⟨_, rfl⟩
    obtain ⟨b, hb⟩ : ∃ b, 41 * i' + l' = b := ⟨_, rfl⟩
    have a1 : a ≤ 1680 := by omega
    have b1 : b ≤ 1680 := by omega
    have : 1681 * o + a = 1681 * o' + b := by omega
    omega
  subst h1
  refine ⟨rfl, by omega, by omega⟩
theorem mwN_ne {c o o' i i' l l' : Nat} (hi : i ≤ 40) (hi' : i' ≤ 40) (hl : l ≤ 40) (hl' : l' ≤ 40) (h : ¬ (o = o' ∧ i = i' ∧ l = l')) : mwN c o i l ≠ mwN c o' i' l' := fun z => h (inj2 hi hi' hl hl' (by unfold mwN at z; omega))
theorem mhN_ne {c o o' i i' l l' : Nat} (hi : i ≤ 40) (hi' : i' ≤ 40) (hl : l ≤ 40) (hl' : l' ≤ 40) (h : ¬ (o = o' ∧ i = i' ∧ l = l')) : mhN c o i l ≠ mhN c o' i' l' := fun z => h (inj2 hi hi' hl hl' (by unfold mhN at z; omega))
def zI (no : Nat) (sz : Nat → Nat) (el : Nat → Nat → Int64) (w : Nat → Int64) (at0 : Nat → Nat) (tk : Nat → Nat → Nat → Bool) (n i j : Nat) (Z : Nat → Int64) : Prop := ∀ o e m, o < no → e ≤ sz o → i ≤ m → m ≤ n → (m < j ∨ e = 0) → Z (mzN o e m) = lN (cap (Fx no el w at0 tk (TT no sz el w at0 tk) o e i m))
def zD (no : Nat) (sz : Nat → Nat) (el : Nat → Nat → Int64) (w : Nat → Int64) (at0 : Nat → Nat) (tk : Nat → Nat → Nat → Bool) (i j o e : Nat) (Z : Nat → Int64) : Prop := ∀ p e', p < no → 1 ≤ e' → e' ≤ sz p → (p < o ∨ (p = o ∧ e' ≤ e)) → (2 ≤ e' ∨ ¬ el p 0 = 95) → Z (mzN p e' j) = lN (cap (Fx no el w at0 tk (TT no sz el w at0 tk) p e' i j))
set_option maxHeartbeats 2000000 in
theorem findFrom_ok (G : RG C E (nI no) no sz el) (hs : ∀ o, o < no → 1 ≤ sz o ∧ (el o 0 = 95 → 2 ≤ sz o)) {Tk : Nat → Int32} (K : TKOK no sz tk Tk) {Cw : Nat → Int64} {Cs Wo Ih : Nat → Int32} {n c i : Nat} (hn : n ≤ 40) (hc : c ≤ 1) (hi : i < n) (hw : ∀ k, k < n → Cw (40 * c + k) = w k) (ha : ∀ k, at0 k = atN no sz el w k) (hcs : Cs c = nI n) (hP : mcOK no sz el w at0 tk Tk n c Wo Ih (fun i' _ => i < i')) (Z : Nat → Int64) :
    ∃ Wo' Ih' Z', m_X9_findFrom (nI no) E C Tk Cw Cs Wo Ih Z (nI c) (nI i) = some (Wo', Ih', Z') ∧ mcOK no sz el w at0 tk Tk n c Wo' Ih' (fun i' _ => i ≤ i') ∧ (∀ q, (∀ o l, o < 30 → l ≤ 40 → q ≠ mwN c o i l) → Wo' q = Wo q) ∧ (∀ q, (∀ t l, t ≤ 60 → l ≤ 40 → q ≠ mhN c t i l) → Ih' q = Ih q) := by
  have hno : no ≤ 30 := G.2.1
  -- the elements of one operator
  have L95 : ∀ (k74 : (Nat → Int32) → (Nat → Int32) → (Nat → Int64) → Int32 → Int32 → Int32 → Int32 → Option ((Nat → Int32) × (Nat → Int32) × (Nat → Int64))) (k83 : (Nat → Int32) → (Nat → Int32) → (Nat → Int64) → Int32 → Int32 → Int32 → Int32 → Int32 → Option ((Nat → Int32) × (Nat → Int32) × (Nat → Int64))) (W I : Nat → Int32) (Z : Nat → Int64) (j o : Nat), i < j → j ≤ n → o < no → mcOK no sz el w at0 tk Tk n c Wo I (fun i' _ => i < i') → zI no sz el w at0 tk n i j Z → zD no sz el w at0 tk i j o 0 Z → ∃ Z', m_X9_findFrom_95 (nI no) E C Tk Cw Cs k74 k83 FU W I Z (nI c) (nI i) (nI n) (nI j) (nI o) 0 = k83 (upd W (mwN c o i (j - i)) (nI (TT no sz el w at0 tk o i j))) I Z' (nI c) (nI i) (nI n) (nI j) (nI (o + 1)) ∧ zI no sz el w at0 tk n i j Z' ∧ zD no sz el w at0 tk i j (o + 1) 0 Z' := by
    intro k74 k83 W I Z j o hij hj ho hI hZ hD
    obtain ⟨g1, g2, g3, g4⟩ := G.2.2 o ho
    refine lpP (fun f e (s : Nat → Int64) => m_X9_findFrom_95 (nI no) E C Tk Cw Cs k74 k83 f W I s (nI c) (nI i) (nI n) (nI j) (nI o) (nI e)) (fun r => ∃ Z', r = k83 (upd W (mwN c o i (j - i)) (nI (TT no sz el w at0 tk o i j))) I Z' (nI c) (nI i) (nI n) (nI j) (nI (o + 1)) ∧ zI no sz el w at0 tk n i j Z' ∧ zD no sz el w at0 tk i j (o + 1) 0 Z') (sz o) (fun e s => zI no sz el w at0 tk n i j s ∧ zD no sz el w at0 tk i j o e s) ?_ ?_ (sz o) FU 0 Z (by omega) (by rw [FU_v]; omega) ⟨hZ, hD⟩
    · intro f s ⟨s1, s2⟩
      refine ⟨s, ?_, s1, fun p e' hp h1 h2 h3 h4 => s2 p e' hp h1 h2 (by
        by_cases q : p = o
        · subst q; exact Or.inr ⟨rfl, h2⟩
        · exact Or.inl (by omega)) h4⟩
      have h5 : s (mzN o (sz o) j) = lN (TT no sz el w at0 tk o i j) := by
        rw [s2 o (sz o) ho g2 (Nat.le_refl _) (Or.inr ⟨rfl, Nat.le_refl _⟩) (by
          by_cases q : el o 0 = 95
          · exact Or.inl ((hs o ho).2 q)
          · exact Or.inr q), FW (by omega), TT_eq hs ho hij]
      have e0 : m_X9_findFrom_95 (nI no) E C Tk Cw Cs k74 k83 (f + 1) W I s (nI c) (nI i) (nI n) (nI j) (nI o) (nI (sz o)) = m_X9_findFrom_95 (nI no) E C Tk Cw Cs k74 k83 (f + 1) W I s (nI c) (nI i) (nI n) (nI j) (nI o) (nI (sz o)) := rfl
      conv at e0 => rhs; unfold m_X9_findFrom_95
      have m1 : 420 * o + 42 * sz o + j = mzN o (sz o) j := rfl
      have m2 : 50430 * c + 1681 * o + 41 * i + j - i = mwN c o i (j - i) := by unfold mwN; omega
      have hz : mzN o (sz o) j < 12600 := by unfold mzN; omega
      have hz2 : mwN c o i (j - i) < 100860 := by unfold mwN; omega
      simp only [i_420, i_42, i_50430, i_1681, i_41, pk_mul, nI_add] at e0
      rw [gd_nI (by omega) (by omega), nI_cl (by omega), g1, if_pos (by rw [nI_le' (by omega) (by omega)]; omega)] at e0
      rw [gd_nI (by omega) (by omega)] at e0
      simp only [pk_mul, nI_add] at e0
      rw [pk_sub (by omega), m1, m2, gd_nI hz (by omega), gd_nI hz2 (by omega), nI_cl (by omega), nI_cl (by omega), h5, lN_i, nI_1] at e0
      exact e0
    · intro f e s he ⟨s1, s2⟩
      right
      have e0 : m_X9_findFrom_95 (nI no) E C Tk Cw Cs k74 k83 (f + 1) W I s (nI c) (nI i) (nI n) (nI j) (nI o) (nI e) = m_X9_findFrom_95 (nI no) E C Tk Cw Cs k74 k83 (f + 1) W I s (nI c) (nI i) (nI n) (nI j) (nI o) (nI e) := rfl
      conv at e0 => rhs; unfold m_X9_findFrom_95
      rw [gd_nI (by omega) (by omega), nI_cl (by omega), g1, if_neg (by rw [nI_le' (by omega) (by omega)]; omega)] at e0
      have go : (e = 0 → ¬ el o 0 = 95) → ∃ s', m_X9_findFrom_121 (nI no) E C Tk Cw Cs k74 k83 (m_X9_findFrom_95 (nI no) E C Tk Cw Cs k74 k83 f) W I s (nI c) (nI i) (nI n) (nI j) (nI o) (nI e) = m_X9_findFrom_95 (nI no) E C Tk Cw Cs k74 k83 f W I s' (nI c) (nI i) (nI n) (nI j) (nI o) (nI (e + 1)) ∧ zI no sz el w at0 tk n i j s' ∧ zD no sz el w at0 tk i j o (e + 1) s' := by
        intro h0
        have ht := through_ok (w := w) (at0 := at0) (tk := tk) (T := TT no sz el w at0 tk) (Cw := Cw) (Ih := I) (Z := s) G hn hc ho he hij hj hw (fun m h1 h2 => s1 o e m ho (by omega) h1 (by omega) (Or.inl h2)) h0 (fun hh m h1 h2 => by
          rw [(hI m j h2 hj h1).2 _ (tyN_le hno ho), hv_HV K ho he])
        have m1 : 420 * o + 42 * (e + 1) + j = mzN o (e + 1) j := rfl
        have hz : mzN o (e + 1) j < 12600 := by unfold mzN; omega
        refine ⟨vp_updL s (mzN o (e + 1) j) (lN (cap (Fx no el w at0 tk (TT no sz el w at0 tk) o (e + 1) i j))), ?_, ?_, ?_⟩
        · unfold m_X9_findFrom_121 m_X9_findFrom_155
          rw [ht, ob_i]
          simp only [i_420, i_42, nI_1, pk_mul, nI_add]
          rw [m1, gd_nI hz (by omega), nI_cl (by omega)]
        · intro o' e' m ho' he' h1 h2 h3
          have := (G.2.2 o' ho').2.2.1
          rw [pk_uLn (by unfold mzN; omega)]
          exact s1 o' e' m ho' he' h1 h2 h3
        · intro p e' hp h1 h2 h3 h4
          have := (G.2.2 p hp).2.2.1
          by_cases q : p = o ∧ e' = e + 1
          · obtain ⟨rfl, rfl⟩ := q
            exact pk_uLs
          · rw [pk_uLn (by unfold mzN; omega)]
            exact s2 p e' hp h1 h2 (by omega) h4
      by_cases q : e = 0
      · subst q
        rw [if_neg (by decide), mFirst_ok G ho, ob_i] at e0
        by_cases q2 : el o 0 = 95
        · rw [if_neg (by rw [bi_eq0]; simp [fstB, q2])] at e0
          refine ⟨s, ?_, s1, ?_⟩
          · rw [e0]
            unfold m_X9_findFrom_155
            rw [nI_1]
          · intro p e' hp h1 h2 h3 h4
            by_cases q3 : p < o
            · exact s2 p e' hp h1 h2 (Or.inl q3) h4
            · rcases h3 with h3 | ⟨rfl, h3⟩
              · exact absurd h3 q3
              · rcases h4 with h4 | h4
                · omega
                · exact absurd q2 h4
        · rw [if_pos (by rw [bi_eq0]; simp [fstB, q2])] at e0
          obtain ⟨s', h1, h2⟩ := go (fun _ => q2)
          exact ⟨s', e0.trans h1, h2⟩
      · rw [if_pos (by rw [i_0, nI_lt' (by omega) (by omega)]; omega)] at e0
        obtain ⟨s', h1, h2⟩ := go (fun z => absurd z q)
        exact ⟨s', e0.trans h1, h2⟩
  -- one end
  have L83 : ∀ (k74 : (Nat → Int32) → (Nat → Int32) → (Nat → Int64) → Int32 → Int32 → Int32 → Int32 → Option ((Nat → Int32) × (Nat → Int32) × (Nat → Int64))) (W I : Nat → Int32) (Z : Nat → Int64) (j : Nat), i < j → j ≤ n → mcOK no sz el w at0 tk Tk n c Wo I (fun i' _ => i < i') → zI no sz el w at0 tk n i j Z → ∃ W' I' Z', m_X9_findFrom_83 (nI no) E C Tk Cw Cs k74 FU W I Z (nI c) (nI i) (nI n) (nI j) 0 = k74 W' I' Z' (nI c) (nI i) (nI n) (nI (j + 1)) ∧ zI no sz el w at0 tk n i (j + 1) Z' ∧ (∀ o, o < no → W' (mwN c o i (j - i)) = nI (TT no sz el w at0 tk o i j)) ∧ (∀ t, t ≤ 2 * no → I' (mhN c t i (j - i)) = nI (hvN no at0 Tk (TT no sz el w at0 tk) t i j)) ∧ (∀ q, (∀ o, o < 30 → q ≠ mwN c o i (j - i)) → W' q = W q) ∧ (∀ q, (∀ t, t ≤ 60 → q ≠ mhN c t i (j - i)) → I' q = I q) := by
    intro k74 W I Z j hij hj hI hZ
    refine lpP (fun f o (s : (Nat → Int32) × (Nat → Int64)) => m_X9_findFrom_83 (nI no) E C Tk Cw Cs k74 f s.1 I s.2 (nI c) (nI i) (nI n) (nI j) (nI o)) (fun r => ∃ W' I' Z', r = k74 W' I' Z' (nI c) (nI i) (nI n) (nI (j + 1)) ∧ zI no sz el w at0 tk n i (j + 1) Z' ∧ (∀ o, o < no → W' (mwN c o i (j - i)) = nI (TT no sz el w at0 tk o i j)) ∧ (∀ t, t ≤ 2 * no → I' (mhN c t i (j - i)) = nI (hvN no at0 Tk (TT no sz el w at0 tk) t i j)) ∧ (∀ q, (∀ o, o < 30 → q ≠ mwN c o i (j - i)) → W' q = W q) ∧ (∀ q, (∀ t, t ≤ 60 → q ≠ mhN c t i (j - i)) → I' q = I q)) no (fun o s => zI no sz el w at0 tk n i j s.2 ∧ zD no sz el w at0 tk i j o 0 s.2 ∧ (∀ p, p < o → s.1 (mwN c p i (j - i)) = nI (TT no sz el w at0 tk p i j)) ∧ (∀ q, (∀ o, o < 30 → q ≠ mwN c o i (j - i)) → s.1 q = W q)) ?_ ?_ no FU 0 (W, Z) (by omega) (by rw [FU_v]; omega) ⟨hZ, fun p e' hp h1 h2 h3 h4 => by omega, fun p h => by omega, fun _ _ => rfl⟩
    · intro f s ⟨s1, s2, s3, s4⟩
      obtain ⟨I', h1, h2, h3⟩ := findHoles_ok (T := TT no sz el w at0 tk) (Tk := Tk) (Wo := s.1) (Ih := I) G hn hc hij hj hw ha (fun p hp => ⟨s3 p hp, TT_le⟩)
      -- the first holes
      have L232 := lpP (fun f o (V : Nat → Int64) => m_X9_findFrom_232 (nI no) E C Tk Cw Cs k74 f s.1 I' V (nI c) (nI i) (nI n) (nI j) (nI o)) (fun r => ∃ Z', r = k74 s.1 I' Z' (nI c) (nI i) (nI n) (nI (j + 1)) ∧ zI no sz el w at0 tk n i (j + 1) Z') no (fun o V => zI no sz el w at0 tk n i j V ∧ ∀ p e, p < no → 1 ≤ e → e ≤ sz p → (p < o ∨ 2 ≤ e ∨ ¬ el p 0 = 95) → V (mzN p e j) = lN (cap (Fx no el w at0 tk (TT no sz el w at0 tk) p e i j))) ?_ ?_ no FU 0 s.2 (by omega) (by rw [FU_v]; omega) ⟨s1, fun p e hp h1 h2 h3 => s2 p e hp h1 h2 (Or.inl hp) (by
        rcases h3 with h3 | h3
        · omega
        · exact h3)⟩
      · obtain ⟨Z', z1, z2⟩ := L232
        refine ⟨s.1, I', Z', ?_, z2, s3, h2, s4, fun q hq => h3 q (fun t ht => hq t (by omega))⟩
        show (if nI no ≤ nI no then (Option.bind (m_X9_findHoles (nI no) E C Tk Cw s.1 I (nI c) (nI i) (nI j - nI i)) _) else _) = _
        rw [if_pos (by rw [nI_le' (by omega) (by omega)]; omega), pk_sub (by omega), h1, ob_i]
        exact z1
      · intro f V ⟨v1, v2⟩
        refine ⟨V, ?_, ?_⟩
        · show (if nI no ≤ nI no then _ else _) = _
          rw [if_pos (by rw [nI_le' (by omega) (by omega)]; omega), nI_1]
        · intro o e m ho he h1 h2 h3
          by_cases q : m = j ∧ 1 ≤ e
          · obtain ⟨rfl, q⟩ := q
            exact v2 o e ho q he (Or.inl ho)
          · exact v1 o e m ho he h1 h2 (by omega)
      · intro f o V ho ⟨v1, v2⟩
        right
        have hm := mFirst_ok G ho
        have e0 : m_X9_findFrom_232 (nI no) E C Tk Cw Cs k74 (f + 1) s.1 I' V (nI c) (nI i) (nI n) (nI j) (nI o) = m_X9_findFrom_232 (nI no) E C Tk Cw Cs k74 (f + 1) s.1 I' V (nI c) (nI i) (nI n) (nI j) (nI o) := rfl
        conv at e0 => rhs; unfold m_X9_findFrom_232
        rw [if_neg (by rw [nI_le' (by omega) (by omega)]; omega), hm, ob_i] at e0
        have t284 : ∀ V', m_X9_findFrom_284 (nI no) E C Tk Cw Cs k74 (m_X9_findFrom_232 (nI no) E C Tk Cw Cs k74 f) s.1 I' V' (nI c) (nI i) (nI n) (nI j) (nI o) = m_X9_findFrom_232 (nI no) E C Tk Cw Cs k74 f s.1 I' V' (nI c) (nI i) (nI n) (nI j) (nI (o + 1)) := by
          intro V'
          unfold m_X9_findFrom_284
          rw [nI_1]
        by_cases q : el o 0 = 95
        · rw [if_neg (by rw [bi_eq0]; simp [fstB, q])] at e0
          have hz : mzN o 1 j < 12600 := by unfold mzN; omega
          have m1 : 420 * o + 42 + j = mzN o 1 j := by unfold mzN; omega
          have hty : tyN sz o 0 = 1 + 2 * o := rfl
          have hI1 : I' (mhN c (1 + 2 * o) i (j - i)) = nI (cap (Fx no el w at0 tk (TT no sz el w at0 tk) o 1 i j)) := by
            rw [h2 (1 + 2 * o) (by omega), Fx_1 q hij, ← hty, hv_HV K ho (by have := (hs o ho).1; omega)]
            rw [show cap (HV no at0 tk (TT no sz el w at0 tk) o 0 i j) = HV no at0 tk (TT no sz el w at0 tk) o 0 i j by unfold HV; exact cap_cap _]
          have hcl := cap_le (Fx no el w at0 tk (TT no sz el w at0 tk) o 1 i j)
          rw [i_1, i_2, pk_mul, nI_add, pk_sub (by omega), holeAt_ok hc (by omega) (by omega) (by omega), ob_i, i_420, i_42, pk_mul, nI_add, nI_add, m1, gd_nI hz (by omega), nI_cl (by omega), hI1, nI_l (by omega), t284] at e0
          refine ⟨vp_updL V (mzN o 1 j) (lN (cap (Fx no el w at0 tk (TT no sz el w at0 tk) o 1 i j))), e0, ?_, ?_⟩
          · intro o' e' m ho' he' h4 h5 h6
            have := (G.2.2 o' ho').2.2.1
            rw [pk_uLn (by unfold mzN; omega)]
            exact v1 o' e' m ho' he' h4 h5 h6
          · intro p e hp h4 h5 h6
            have := (G.2.2 p hp).2.2.1
            by_cases q3 : p = o ∧ e = 1
            · obtain ⟨rfl, rfl⟩ := q3
              exact pk_uLs
            · rw [pk_uLn (by unfold mzN; omega)]
              refine v2 p e hp h4 h5 ?_
              rcases h6 with h6 | h6
              · by_cases q4 : p = o
                · subst q4; right; left; omega
                · left; omega
              · exact Or.inr h6
        · rw [if_pos (by rw [bi_eq0]; simp [fstB, q]), t284] at e0
          refine ⟨V, e0, v1, ?_⟩
          intro p e hp h4 h5 h6
          refine v2 p e hp h4 h5 ?_
          rcases h6 with h6 | h6
          · by_cases q4 : p = o
            · subst q4; exact Or.inr (Or.inr q)
            · left; omega
          · exact Or.inr h6
    · intro f o s ho ⟨s1, s2, s3, s4⟩
      right
      obtain ⟨Z', h1, h2, h3⟩ := L95 k74 (m_X9_findFrom_83 (nI no) E C Tk Cw Cs k74 f) s.1 I s.2 j o hij hj ho hI s1 s2
      refine ⟨(upd s.1 (mwN c o i (j - i)) (nI (TT no sz el w at0 tk o i j)), Z'), ?_, h2, h3, ?_, ?_⟩
      · show (if nI no ≤ nI o then _ else _) = _
        rw [if_neg (by rw [nI_le' (by omega) (by omega)]; omega)]
        exact h1
      · intro p hp
        by_cases q : p = o
        · subst q; exact pk_us
        · show upd s.1 _ _ _ = _
          rw [pk_un (by unfold mwN; omega)]
          exact s3 p (by omega)
      · intro q hq
        show upd s.1 _ _ _ = _
        rw [pk_un (hq o (by omega))]
        exact s4 q hq
  -- the ends
  have L74 : ∀ (Z : Nat → Int64), zI no sz el w at0 tk n i (i + 1) Z → ∃ Wo' Ih' Z', m_X9_findFrom_74 (nI no) E C Tk Cw Cs FU Wo Ih Z (nI c) (nI i) (nI n) (nI (i + 1)) = some (Wo', Ih', Z') ∧ mcOK no sz el w at0 tk Tk n c Wo' Ih' (fun i' _ => i ≤ i') ∧ (∀ q, (∀ o l, o < 30 → l ≤ 40 → q ≠ mwN c o i l) → Wo' q = Wo q) ∧ (∀ q, (∀ t l, t ≤ 60 → l ≤ 40 → q ≠ mhN c t i l) → Ih' q = Ih q) := by
    intro Z hZ
    refine lpP (fun f j (s : (Nat → Int32) × (Nat → Int32) × (Nat → Int64)) => m_X9_findFrom_74 (nI no) E C Tk Cw Cs f s.1 s.2.1 s.2.2 (nI c) (nI i) (nI n) (nI j)) (fun r => ∃ Wo' Ih' Z', r = some (Wo', Ih', Z') ∧ mcOK no sz el w at0 tk Tk n c Wo' Ih' (fun i' _ => i ≤ i') ∧ (∀ q, (∀ o l, o < 30 → l ≤ 40 → q ≠ mwN c o i l) → Wo' q = Wo q) ∧ (∀ q, (∀ t l, t ≤ 60 → l ≤ 40 → q ≠ mhN c t i l) → Ih' q = Ih q)) (n + 1) (fun j s => i < j ∧ zI no sz el w at0 tk n i j s.2.2 ∧ (∀ j', i < j' → j' < j → (∀ o, o < no → s.1 (mwN c o i (j' - i)) = nI (TT no sz el w at0 tk o i j')) ∧ (∀ t, t ≤ 2 * no → s.2.1 (mhN c t i (j' - i)) = nI (hvN no at0 Tk (TT no sz el w at0 tk) t i j'))) ∧ (∀ q, (∀ o l, o < 30 → l ≤ 40 → q ≠ mwN c o i l) → s.1 q = Wo q) ∧ (∀ q, (∀ t l, t ≤ 60 → l ≤ 40 → q ≠ mhN c t i l) → s.2.1 q = Ih q)) ?_ ?_ (n - i) FU (i + 1) (Wo, Ih, Z) (by omega) (by rw [FU_v]; omega) ⟨by omega, hZ, fun j' h1 h2 => by omega, fun _ _ => rfl, fun _ _ => rfl⟩
    · intro f s ⟨s0, s1, s2, s3, s4⟩
      refine ⟨s.1, s.2.1, s.2.2, ?_, ?_, s3, s4⟩
      · show (if nI n < nI (n + 1) then _ else _) = _
        rw [if_pos (by rw [nI_lt' (by omega) (by omega)]; omega)]
      · intro i' j h1 h2 h3
        by_cases q : i' = i
        · subst q; exact s2 j h1 (by omega)
        · have h5 := hP i' j h1 h2 (by omega)
          refine ⟨fun o ho => ?_, fun t ht => ?_⟩
          · rw [s3 _ (fun o' l ho' hl => mwN_ne (by omega) (by omega) (by omega) hl (by omega))]
            exact h5.1 o ho
          · rw [s4 _ (fun t' l ht' hl => mhN_ne (by omega) (by omega) (by omega) hl (by omega))]
            exact h5.2 t ht
    · intro f j s hj ⟨s0, s1, s2, s3, s4⟩
      right
      obtain ⟨W', I', Z', h1, h2, h3, h4, h5, h6⟩ := L83 (m_X9_findFrom_74 (nI no) E C Tk Cw Cs f) s.1 s.2.1 s.2.2 j s0 (by omega) (by
        intro i' j' q1 q2 q3
        have h5 := hP i' j' q1 q2 q3
        refine ⟨h5.1, fun t ht => ?_⟩
        rw [s4 _ (fun t' l ht' hl => mhN_ne (by omega) (by omega) (by omega) hl (by omega))]
        exact h5.2 t ht) s1
      refine ⟨(W', I', Z'), ?_, by omega, h2, ?_, ?_, ?_⟩
      · show (if nI n < nI j then _ else _) = _
        rw [if_neg (by rw [nI_lt' (by omega) (by omega)]; omega)]
        exact h1
      · intro j' q1 q2
        by_cases q : j' = j
        · subst q; exact ⟨h3, h4⟩
        · have h7 := s2 j' q1 (by omega)
          refine ⟨fun o ho => ?_, fun t ht => ?_⟩
          · show W' _ = _
            rw [h5 _ (fun o' ho' => by unfold mwN; omega)]
            exact h7.1 o ho
          · show I' _ = _
            rw [h6 _ (fun t' ht' => by unfold mhN; omega)]
            exact h7.2 t ht
      · intro q hq
        show W' q = _
        rw [h5 q (fun o ho => hq o _ ho (by omega))]
        exact s3 q hq
      · intro q hq
        show I' q = _
        rw [h6 q (fun t ht => hq t _ ht (by omega))]
        exact s4 q hq
  -- ones at the start
  have L40 : ∀ (Z : Nat → Int64), (∀ k, k < 420 * no → Z k = lN 0) → ∃ Z', m_X9_findFrom_40 (nI no) E C Tk Cw Cs FU Wo Ih Z (nI c) (nI i) (nI n) 0 = m_X9_findFrom_74 (nI no) E C Tk Cw Cs FU Wo Ih Z' (nI c) (nI i) (nI n) (nI (i + 1)) ∧ zI no sz el w at0 tk n i (i + 1) Z' := by
    intro Z hZ
    refine lpP (fun f o (s : Nat → Int64) => m_X9_findFrom_40 (nI no) E C Tk Cw Cs f Wo Ih s (nI c) (nI i) (nI n) (nI o)) (fun r => ∃ Z', r = m_X9_findFrom_74 (nI no) E C Tk Cw Cs FU Wo Ih Z' (nI c) (nI i) (nI n) (nI (i + 1)) ∧ zI no sz el w at0 tk n i (i + 1) Z') no (fun o s => ∀ p e m, p < no → e ≤ 9 → m ≤ 40 → s (mzN p e m) = if p < o ∧ e = 0 ∧ m = i then lN 1 else lN 0) ?_ ?_ no FU 0 Z (by omega) (by rw [FU_v]; omega) (fun p e m hp he hm => by rw [if_neg (by omega)]; exact hZ _ (by unfold mzN; omega))
    · intro f s hs
      refine ⟨s, ?_, ?_⟩
      · show (if nI no ≤ nI no then _ else _) = _
        rw [if_pos (by rw [nI_le' (by omega) (by omega)]; omega), nI_1]
      · intro o e m ho he h1 h2 h3
        have h9 := (G.2.2 o ho).2.2.1
        rw [hs o e m ho (by omega) (by omega)]
        by_cases q : e = 0
        · subst q
          show _ = lN (cap (if i = m then 1 else 0))
          by_cases q2 : m = i
          · rw [if_pos ⟨ho, rfl, q2⟩, if_pos q2.symm]; rfl
          · rw [if_neg (fun z => q2 z.2.2), if_neg (fun z => q2 z.symm)]; rfl
        · obtain ⟨e, rfl⟩ : ∃ z, e = z + 1 := ⟨e - 1, by omega⟩
          have : m = i := by omega
          subst this
          rw [if_neg (fun z => q z.2.1), Fx_00]; rfl
    · intro f o s ho hs
      right
      have hz : mzN o 0 i < 12600 := by unfold mzN; omega
      have m1 : 420 * o + i = mzN o 0 i := by unfold mzN; omega
      refine ⟨vp_updL s (mzN o 0 i) (lN 1), ?_, ?_⟩
      · show (if nI no ≤ nI o then _ else (gd ((420 * nI o) + nI i) 12600 (m_X9_findFrom_40 (nI no) E C Tk Cw Cs f Wo Ih (vp_updL s ((420 * nI o) + nI i).toNatClampNeg 1) (nI c) (nI i) (nI n) (nI o + 1)))) = _
        rw [if_neg (by rw [nI_le' (by omega) (by omega)]; omega), i_420, pk_mul, nI_add, m1, gd_nI hz (by omega), nI_cl (by omega), nI_1]
        rfl
      · intro p e m hp he hm
        by_cases q : p = o ∧ e = 0 ∧ m = i
        · obtain ⟨rfl, rfl, rfl⟩ := q
          rw [pk_uLs, if_pos ⟨by omega, rfl, rfl⟩]
        · rw [pk_uLn (by unfold mzN; omega), hs p e m hp he hm]
          by_cases q2 : p < o ∧ e = 0 ∧ m = i
          · rw [if_pos q2, if_pos (by omega)]
          · rw [if_neg q2, if_neg (by omega)]
  have L10 : ∃ Z', m_X9_findFrom_10 (nI no) E C Tk Cw Cs FU Wo Ih Z (nI c) (nI i) (nI n) 0 = m_X9_findFrom_40 (nI no) E C Tk Cw Cs FU Wo Ih Z' (nI c) (nI i) (nI n) 0 ∧ ∀ k, k < 420 * no → Z' k = lN 0 := by
    refine lpP (fun f k (s : Nat → Int64) => m_X9_findFrom_10 (nI no) E C Tk Cw Cs f Wo Ih s (nI c) (nI i) (nI n) (nI k)) (fun r => ∃ Z', r = m_X9_findFrom_40 (nI no) E C Tk Cw Cs FU Wo Ih Z' (nI c) (nI i) (nI n) 0 ∧ ∀ k, k < 420 * no → Z' k = lN 0) (420 * no) (fun k s => ∀ z, z < k → s z = lN 0) ?_ ?_ (420 * no) FU 0 Z (by omega) (by rw [FU_v]; omega) (fun z h => by omega)
    · intro f s hs
      refine ⟨s, ?_, hs⟩
      show (if 420 * nI no ≤ nI (420 * no) then _ else _) = _
      rw [i_420, pk_mul, if_pos (by rw [nI_le' (by omega) (by omega)]; omega)]
    · intro f k s hk hs
      right
      refine ⟨vp_updL s k (lN 0), ?_, ?_⟩
      · show (if 420 * nI no ≤ nI k then _ else (gd (nI k) 12600 (m_X9_findFrom_10 (nI no) E C Tk Cw Cs f Wo Ih (vp_updL s (nI k).toNatClampNeg 0) (nI c) (nI i) (nI n) (nI k + 1)))) = _
        rw [i_420, pk_mul, if_neg (by rw [nI_le' (by omega) (by omega)]; omega), gd_nI (by omega) (by omega), nI_cl (by omega), nI_1]
        rfl
      · intro z hz
        by_cases q : z = k
        · subst q; exact pk_uLs
        · rw [pk_uLn q]; exact hs z (by omega)
  obtain ⟨Z1, a1, a2⟩ := L10
  obtain ⟨Z2, b1, b2⟩ := L40 Z1 a2
  obtain ⟨Wo', Ih', Z', d1, d2⟩ := L74 Z2 b2
  refine ⟨Wo', Ih', Z', ?_, d2⟩
  unfold m_X9_findFrom
  rw [gd_nI (by omega) (by omega), nI_cl (by omega), hcs, a1, b1, d1]
/-- the reference's whole chart -/
theorem findChart_ok (G : RG C E (nI no) no sz el) (hs : ∀ o, o < no → 1 ≤ sz o ∧ (el o 0 = 95 → 2 ≤ sz o)) {Tk : Nat → Int32} (K : TKOK no sz tk Tk) {Cw : Nat → Int64} {n c : Nat} (hn : n ≤ 40) (hc : c ≤ 1) (hw : ∀ k, k < n → Cw (40 * c + k) = w k) (ha : ∀ k, at0 k = atN no sz el w k) (Cs Wo Ih : Nat → Int32) (Z : Nat → Int64) :
    ∃ Wo' Ih' Z', m_X9_findChart (nI no) E C Tk Cw Cs Wo Ih Z (nI c) (nI n) = some (upd Cs c (nI n), Wo', Ih', Z') ∧ mcOK no sz el w at0 tk Tk n c Wo' Ih' (fun _ _ => True) ∧ (∀ q, (∀ o i l, o < 30 → i ≤ 40 → l ≤ 40 → q ≠ mwN c o i l) → Wo' q = Wo q) ∧ (∀ q, (∀ t i l, t ≤ 60 → i ≤ 40 → l ≤ 40 → q ≠ mhN c t i l) → Ih' q = Ih q) := by
  have hno : no ≤ 30 := G.2.1
  unfold m_X9_findChart
  rw [gd_nI (by omega) (by omega), nI_cl (by omega)]
  have hcs : (upd Cs c (nI n)) c = nI n := pk_us
  generalize upd Cs c (nI n) = Cs at hcs ⊢
  refine lpD (fun f k (s : (Nat → Int32) × (Nat → Int32) × (Nat → Int64)) => m_X9_findChart_11 (nI no) E C Tk Cw f Cs s.1 s.2.1 s.2.2 (nI c) (nI k - 1)) (fun r => ∃ Wo' Ih' Z', r = some (Cs, Wo', Ih', Z') ∧ mcOK no sz el w at0 tk Tk n c Wo' Ih' (fun _ _ => True) ∧ (∀ q, (∀ o i l, o < 30 → i ≤ 40 → l ≤ 40 → q ≠ mwN c o i l) → Wo' q = Wo q) ∧ (∀ q, (∀ t i l, t ≤ 60 → i ≤ 40 → l ≤ 40 → q ≠ mhN c t i l) → Ih' q = Ih q)) (fun k s => k ≤ n ∧ mcOK no sz el w at0 tk Tk n c s.1 s.2.1 (fun i' _ => k ≤ i') ∧ (∀ q, (∀ o i l, o < 30 → i ≤ 40 → l ≤ 40 → q ≠ mwN c o i l) → s.1 q = Wo q) ∧ (∀ q, (∀ t i l, t ≤ 60 → i ≤ 40 → l ≤ 40 → q ≠ mhN c t i l) → s.2.1 q = Ih q)) ?_ ?_ n FU (Wo, Ih, Z) (by rw [FU_v]; omega) ⟨Nat.le_refl _, fun i' j h1 h2 h3 => by omega, fun _ _ => rfl, fun _ _ => rfl⟩
  · intro f s ⟨s0, s1, s2, s3⟩
    refine ⟨s.1, s.2.1, s.2.2, ?_, fun i' j h1 h2 _ => s1 i' j h1 h2 (by omega), s2, s3⟩
    rfl
  · intro f k s ⟨s0, s1, s2, s3⟩
    right
    obtain ⟨Wo', Ih', Z', h1, h2, h3, h4⟩ := findFrom_ok G hs K (Cs := Cs) hn hc (show k < n by omega) hw ha hcs (fun i' j q1 q2 q3 => s1 i' j q1 q2 (by omega)) s.2.2
    refine ⟨(Wo', Ih', Z'), ?_, by omega, h2, ?_, ?_⟩
    · show (if nI (k + 1) - 1 < 0 then _ else (Option.bind (m_X9_findFrom (nI no) E C Tk Cw Cs s.1 s.2.1 s.2.2 (nI c) (nI (k + 1) - 1)) (fun r_2 => m_X9_findChart_11 (nI no) E C Tk Cw f Cs r_2.1 r_2.2.1 r_2.2.2 (nI c) ((nI (k + 1) - 1) + (-1))))) = _
      rw [nI_pred, if_neg (by rw [i_0, nI_lt' (by omega) (by omega)]; omega), h1, ob_i, nI_m1]
    · intro q hq
      show Wo' q = _
      rw [h3 q (fun o l ho hl => hq o k l ho (by omega) hl)]
      exact s2 q hq
    · intro q hq
      show Ih' q = _
      rw [h4 q (fun t l ht hl => hq t k l ht (by omega) hl)]
      exact s3 q hq
end MFIND
