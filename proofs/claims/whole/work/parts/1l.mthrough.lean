/-! the reference's chart: through an element, into the holes -/
def mwN (c o i l : Nat) : Nat := 50430 * c + 1681 * o + 41 * i + l
def mhN (c t i l : Nat) : Nat := 102541 * c + 1681 * t + 41 * i + l
def mzN (o e j : Nat) : Nat := 420 * o + 42 * e + j
theorem withAt_ok {Wo : Nat → Int32} {c o i l : Nat} (hc : c ≤ 1) (ho : o < 30) (hi : i ≤ 40) (hl : l ≤ 40) : m_X9_withAt Wo (nI c) (nI o) (nI i) (nI l) = some (Wo (mwN c o i l)) := by
  unfold m_X9_withAt
  simp only [i_50430, i_1681, i_41, pk_mul, nI_add]
  rw [gd_nI (by omega) (by omega), nI_cl (by omega)]
  rfl
theorem holeAt_ok {Ih : Nat → Int32} {c t i l : Nat} (hc : c ≤ 1) (ht : t ≤ 60) (hi : i ≤ 40) (hl : l ≤ 40) : m_X9_holeAt Ih (nI c) (nI t) (nI i) (nI l) = some (Ih (mhN c t i l)) := by
  unfold m_X9_holeAt
  simp only [i_102541, i_1681, i_41, pk_mul, nI_add]
  rw [gd_nI (by omega) (by omega), nI_cl (by omega)]
  rfl
theorem l_0 : (0 : Int64) = lN 0 := rfl
section MCHART
variable {C : Nat → Int32} {E : Nat → Int64} {no : Nat} {sz : Nat → Nat} {el : Nat → Nat → Int64} {w : Nat → Int64} {at0 : Nat → Nat} {tk : Nat → Nat → Nat → Bool}
theorem Fx_00 {T : Nat → Nat → Nat → Nat} {o e i : Nat} : Fx no el w at0 tk T o (e + 1) i i = 0 := by
  unfold Fx
  split
  next => rw [Nat.sub_self]; rfl
  next => rw [if_neg (by omega)]
set_option maxHeartbeats 1000000 in
/-- one element more -/
theorem through_ok (G : RG C E (nI no) no sz el) {T : Nat → Nat → Nat → Nat} {Cw : Nat → Int64} {Ih : Nat → Int32} {Z : Nat → Int64} {n c o e i j : Nat} (hn : n ≤ 40) (hc : c ≤ 1) (ho : o < no) (he : e < sz o) (hij : i < j) (hj : j ≤ n) (hw : ∀ k, k < n → Cw (40 * c + k) = w k) (hz : ∀ m, i ≤ m → m < j → Z (mzN o e m) = lN (cap (Fx no el w at0 tk T o e i m))) (h0 : e = 0 → ¬ el o 0 = 95)
    (hh : el o e = 95 → ∀ m, i < m → m < j → Ih (mhN c (tyN sz o e) m (j - m)) = nI (HV no at0 tk T o e m j)) :
    m_X9_through E C Cw Ih Z (nI c) (nI o) (nI e) (nI i) (nI j) = some (lN (cap (Fx no el w at0 tk T o (e + 1) i j))) := by
  have hno : no ≤ 30 := G.2.1
  obtain ⟨g1, g2, g3, g4⟩ := G.2.2 o ho
  unfold m_X9_through
  rw [mHole_ok G ho he, ob_i]
  have eF : Fx no el w at0 tk T o (e + 1) i j = (if el o e = 95 then sm (fun m => Fx no el w at0 tk T o e i m * HV no at0 tk T o e m j) i (j - i) else if i < j ∧ w (j - 1) = el o e then Fx no el w at0 tk T o e i (j - 1) else 0) := rfl
  by_cases hl : el o e = 95
  · rw [if_neg (by rw [bi_eq0]; simpa using hl)]
    rw [if_pos hl] at eF
    have he0 : e ≠ 0 := fun z => by subst z; exact h0 rfl hl
    obtain ⟨e', rfl⟩ : ∃ z, e = z + 1 := ⟨e - 1, by omega⟩
    obtain ⟨u, hu⟩ : ∃ u, j - i = u + 1 := ⟨j - i - 1, by omega⟩
    rw [hu, sm_s, Fx_00, Nat.zero_mul, Nat.zero_add] at eF
    rw [eF]
    simp only [i_420, i_42, pk_mul, nI_add, nI_1]
    have hty : tyN sz o (e' + 1) ≤ 60 := by unfold tyN; split; omega; split <;> omega
    have key := lpP (fun k m (s : Nat) => m_X9_through_76 E C Cw Ih Z k (nI c) (nI o) (nI (e' + 1)) (nI j) (nI (420 * o + 42 * (e' + 1))) (lN s) (nI m)) (fun r => r = some (lN (cap (sm (fun m => Fx no el w at0 tk T o (e' + 1) i m * HV no at0 tk T o (e' + 1) m j) (i + 1) u)))) j (fun m s => s = cap (sm (fun m => Fx no el w at0 tk T o (e' + 1) i m * HV no at0 tk T o (e' + 1) m j) (i + 1) (m - (i + 1))) ∧ i + 1 ≤ m) ?_ ?_ (j - (i + 1)) FU (i + 1) 0 (by omega) (by rw [FU_v]; omega) ⟨by rw [Nat.sub_self]; rfl, by omega⟩
    · exact key
    · intro k s ⟨hs, _⟩
      show (if nI j ≤ nI j then some (lN s) else _) = _
      rw [if_pos (by rw [nI_le' (by omega) (by omega)]; omega), hs, show j - (i + 1) = u by omega]
    · intro k m s hm ⟨hs, him⟩
      right
      have hsb : s ≤ 1000000000 := by rw [hs]; exact cap_le _
      have hHb : HV no at0 tk T o (e' + 1) m j ≤ 1000000000 := by unfold HV; exact cap_le _
      have hFb := cap_le (Fx no el w at0 tk T o (e' + 1) i m)
      have hmul := mul_le_MM hFb hHb
      have hz1 := hz m (by omega) hm
      have hz0 : 420 * o + 42 * (e' + 1) + m = mzN o (e' + 1) m := rfl
      have hmz : mzN o (e' + 1) m < 12600 := by unfold mzN; omega
      have hsum : cap (sm (fun m => Fx no el w at0 tk T o (e' + 1) i m * HV no at0 tk T o (e' + 1) m j) (i + 1) (m + 1 - (i + 1))) = cap (s + cap (cap (Fx no el w at0 tk T o (e' + 1) i m) * HV no at0 tk T o (e' + 1) m j)) := by
        rw [show m + 1 - (i + 1) = (m - (i + 1)) + 1 by omega, sm_l, hs, cap_addl, cap_addr, ← cap_addr, ← cap_addr (sm _ _ _) (cap _ * _), cap_mull]
        rw [show i + 1 + (m - (i + 1)) = m by omega]
      refine ⟨cap (s + cap (cap (Fx no el w at0 tk T o (e' + 1) i m) * HV no at0 tk T o (e' + 1) m j)), ?_, hsum.symm, by omega⟩
      have e76 : m_X9_through_76 E C Cw Ih Z (k + 1) (nI c) (nI o) (nI (e' + 1)) (nI j) (nI (420 * o + 42 * (e' + 1))) (lN s) (nI m) = m_X9_through_76 E C Cw Ih Z (k + 1) (nI c) (nI o) (nI (e' + 1)) (nI j) (nI (420 * o + 42 * (e' + 1))) (lN s) (nI m) := rfl
      conv at e76 => rhs; unfold m_X9_through_76
      rw [if_neg (by rw [nI_le' (by omega) (by omega)]; omega), nI_add, hz0, gd_nI (by omega) (by omega), nI_cl (by omega), hz1] at e76
      rw [e76]
      by_cases q : cap (Fx no el w at0 tk T o (e' + 1) i m) = 0
      · rw [if_pos (by rw [lg_cmp_le, l_0, q]; exact (pk_lLE (by omega) (by omega)).mpr (by omega)), q]
        have : cap (s + cap (0 * HV no at0 tk T o (e' + 1) m j)) = s := by rw [Nat.zero_mul]; unfold cap; omega
        rw [this]
        show m_X9_through_76 _ _ _ _ _ _ _ _ _ _ _ _ (nI m + 1) = _
        rw [nI_1]
      · rw [if_neg (by rw [lg_cmp_le, l_0]; exact fun z => q (by have := (pk_lLE (by omega) (by omega)).mp z; omega))]
        rw [mType_ok G ho he, ob_i, pk_sub (by omega), holeAt_ok hc hty (by omega) (by omega), ob_i, hh hl m (by omega) hm, nI_l (by omega), lN_mul, capped_ok (by omega), ob_i, lN_add, capped_ok (by have := cap_le (cap (Fx no el w at0 tk T o (e' + 1) i m) * HV no at0 tk T o (e' + 1) m j); omega), ob_i]
        show m_X9_through_76 _ _ _ _ _ _ _ _ _ _ _ _ (nI m + 1) = _
        rw [nI_1]
  · rw [if_pos (by rw [bi_eq0]; exact hl)]
    rw [if_neg hl] at eF
    simp only [i_40, i_9, i_420, i_42, pk_mul, nI_add]
    rw [i_1, pk_sub (by omega), pk_sub (by omega), gd_nI (by omega) (by omega), gd_nI (by omega) (by omega), nI_cl (by omega), nI_cl (by omega), Nat.mul_comm 9 o, g4 e he, show 40 * c + j - 1 = 40 * c + (j - 1) by omega, hw (j - 1) (by omega)]
    by_cases q : w (j - 1) = el o e
    · rw [if_pos ((lg_cmp_eq _ _).mpr q), gd_nI (by omega) (by omega), nI_cl (by omega), show 420 * o + 42 * e + j - 1 = mzN o e (j - 1) by unfold mzN; omega, hz (j - 1) (by omega) (by omega), eF, if_pos ⟨hij, q⟩]
    · rw [if_neg (fun z => q ((lg_cmp_eq _ _).mp z)), eF, if_neg (fun z => q z.2)]
      rfl
/-- what a type of hole takes, by its mask -/
def hvN (no : Nat) (at0 : Nat → Nat) (Tk : Nat → Int32) (T : Nat → Nat → Nat → Nat) (t i j : Nat) : Nat := cap (at1 at0 i j + sm (fun p => if bt' (Tk t) p = true then T p i j else 0) 0 no)
theorem bit1 (x : Int32) {b : Nat} (hb : b < 32) : ((x >>> (nI b &&& 31)) &&& 1 = 1) ↔ bt' x b = true := by
  have h0 := shr_bit x hb
  have h01 : (x >>> (nI b &&& 31)) &&& 1 = 0 ∨ (x >>> (nI b &&& 31)) &&& 1 = 1 := by
    obtain ⟨k, hk, ek⟩ := pk_andE (x >>> (nI b &&& 31)) (m := 1) 1 (by decide)
    rcases (show k = 0 ∨ k = 1 by omega) with rfl | rfl
    · exact Or.inl ek
    · exact Or.inr ek
  constructor
  · intro h
    cases hc : bt' x b with
    | true => rfl
    | false =>
      have h2 : (x >>> (nI b &&& 31)) &&& 1 = 0 := h0.mpr hc
      rw [h2] at h
      exact absurd h (by decide)
  · intro h
    rcases h01 with z | z
    · have h2 := h0.mp z
      rw [h] at h2
      cases h2
    · exact z
set_option maxHeartbeats 1000000 in
theorem findHoles_ok (G : RG C E (nI no) no sz el) {T : Nat → Nat → Nat → Nat} {Cw : Nat → Int64} {Tk Wo Ih : Nat → Int32} {n c i j : Nat} (hn : n ≤ 40) (hc : c ≤ 1) (hij : i < j) (hj : j ≤ n) (hw : ∀ k, k < n → Cw (40 * c + k) = w k) (ha : ∀ k, at0 k = atN no sz el w k) (ht : ∀ p, p < no → Wo (mwN c p i (j - i)) = nI (T p i j) ∧ T p i j ≤ 1000000000) :
    ∃ Ih', m_X9_findHoles (nI no) E C Tk Cw Wo Ih (nI c) (nI i) (nI (j - i)) = some Ih' ∧ (∀ t, t ≤ 2 * no → Ih' (mhN c t i (j - i)) = nI (hvN no at0 Tk T t i j)) ∧ ∀ q, (∀ t, t ≤ 2 * no → q ≠ mhN c t i (j - i)) → Ih' q = Ih q := by
  have hno : no ≤ 30 := G.2.1
  have hat : at1 at0 i j ≤ 1 := at1_le (fun k => by rw [ha]; exact atN_le k) i j
  have main : ∃ Ih', m_X9_findHoles_28 (nI no) E C Tk Cw Wo Ih (nI c) (nI i) (nI (j - i)) (lN (at1 at0 i j)) = some Ih' ∧ (∀ t, t ≤ 2 * no → Ih' (mhN c t i (j - i)) = nI (hvN no at0 Tk T t i j)) ∧ ∀ q, (∀ t, t ≤ 2 * no → q ≠ mhN c t i (j - i)) → Ih' q = Ih q := by
    unfold m_X9_findHoles_28
    refine lpP (fun k t (s : Nat → Int32) => m_X9_findHoles_33 (nI no) E C Tk Cw Wo k s (nI c) (nI i) (nI (j - i)) (lN (at1 at0 i j)) (nI t)) (fun r => ∃ Ih', r = some Ih' ∧ (∀ t, t ≤ 2 * no → Ih' (mhN c t i (j - i)) = nI (hvN no at0 Tk T t i j)) ∧ ∀ q, (∀ t, t ≤ 2 * no → q ≠ mhN c t i (j - i)) → Ih' q = Ih q) (2 * no + 1) (fun t s => (∀ z, z < t → s (mhN c z i (j - i)) = nI (hvN no at0 Tk T z i j)) ∧ ∀ q, (∀ t, t ≤ 2 * no → q ≠ mhN c t i (j - i)) → s q = Ih q) ?_ ?_ (2 * no + 1) FU 0 Ih (by omega) (by rw [FU_v]; omega) ⟨fun z h => by omega, fun _ _ => rfl⟩
    · intro k s ⟨s1, s2⟩
      refine ⟨s, ?_, fun t ht => s1 t (by omega), s2⟩
      show (if 2 * nI no < nI (2 * no + 1) then some s else _) = _
      rw [i_2, pk_mul, if_pos (by rw [nI_lt' (by omega) (by omega)]; omega)]
    · intro k t s hts ⟨s1, s2⟩
      right
      have hidx : mhN c t i (j - i) < 205082 := by unfold mhN; omega
      have inner := lpP (fun f p (a : Nat) => m_X9_findHoles_51 (nI no) E C Tk Cw Wo (m_X9_findHoles_33 (nI no) E C Tk Cw Wo k) f s (nI c) (nI i) (nI (j - i)) (lN (at1 at0 i j)) (nI t) (lN a) (nI p)) (fun r => r = m_X9_findHoles_33 (nI no) E C Tk Cw Wo k (upd s (mhN c t i (j - i)) (nI (hvN no at0 Tk T t i j))) (nI c) (nI i) (nI (j - i)) (lN (at1 at0 i j)) (nI (t + 1))) no (fun p a => a = cap (at1 at0 i j + sm (fun p => if bt' (Tk t) p = true then T p i j else 0) 0 p)) ?_ ?_ no FU 0 (at1 at0 i j) (by omega) (by rw [FU_v]; omega) (by rw [sm_0, Nat.add_zero, cap_id (by omega)])
      · refine ⟨upd s (mhN c t i (j - i)) (nI (hvN no at0 Tk T t i j)), ?_, ?_, ?_⟩
        · show (if 2 * nI no < nI t then some s else _) = _
          rw [i_2, pk_mul, if_neg (by rw [nI_lt' (by omega) (by omega)]; omega)]
          exact inner
        · intro z hz
          by_cases q : z = t
          · subst q; exact pk_us
          · rw [pk_un (by unfold mhN; omega)]
            exact s1 z (by omega)
        · intro q hq
          rw [pk_un (hq t (by omega))]
          exact s2 q hq
      · intro f a hs
        show (if nI no ≤ nI no then (gd ((((102541 * nI c) + (1681 * nI t)) + (41 * nI i)) + nI (j - i)) 205082 (m_X9_findHoles_33 (nI no) E C Tk Cw Wo k (upd s ((((102541 * nI c) + (1681 * nI t)) + (41 * nI i)) + nI (j - i)).toNatClampNeg (lN a).toInt32) (nI c) (nI i) (nI (j - i)) (lN (at1 at0 i j)) (nI t + 1))) else _) = _
        rw [if_pos (by rw [nI_le' (by omega) (by omega)]; omega)]
        simp only [i_102541, i_1681, i_41, pk_mul, nI_add, nI_1]
        have ei : 102541 * c + 1681 * t + 41 * i + (j - i) = mhN c t i (j - i) := rfl
        rw [ei, gd_nI (by omega) (by omega), nI_cl (by omega), lN_i, hs]
        rfl
      · intro f p a hp hs
        right
        have hab : a ≤ 1000000000 := by rw [hs]; exact cap_le _
        obtain ⟨t1, t2⟩ := ht p hp
        by_cases q : bt' (Tk t) p = true
        · refine ⟨cap (a + T p i j), ?_, ?_⟩
          · show (if nI no ≤ nI p then _ else (gd (nI t) 61 (if (((Tk (nI t).toNatClampNeg) >>> (nI p &&& 31)) &&& 1) = 1 then _ else _))) = _
            rw [if_neg (by rw [nI_le' (by omega) (by omega)]; omega), gd_nI (by omega) (by omega), nI_cl (by omega), if_pos ((bit1 _ (by omega)).mpr q), withAt_ok hc (by omega) (by omega) (by omega), ob_i, t1, nI_l (by omega), lN_add, capped_ok (by omega), ob_i]
            show m_X9_findHoles_51 _ _ _ _ _ _ _ _ _ _ _ _ _ _ _ (nI p + 1) = _
            rw [nI_1]
          · rw [hs, cap_addl, sm_l, Nat.zero_add, if_pos q, Nat.add_assoc]
        · refine ⟨a, ?_, ?_⟩
          · show (if nI no ≤ nI p then _ else (gd (nI t) 61 (if (((Tk (nI t).toNatClampNeg) >>> (nI p &&& 31)) &&& 1) = 1 then _ else _))) = _
            rw [if_neg (by rw [nI_le' (by omega) (by omega)]; omega), gd_nI (by omega) (by omega), nI_cl (by omega), if_neg (fun z => q ((bit1 _ (by omega)).mp z))]
            show m_X9_findHoles_51 _ _ _ _ _ _ _ _ _ _ _ _ _ _ _ (nI p + 1) = _
            rw [nI_1]
          · rw [hs, sm_l, Nat.zero_add, if_neg q, Nat.add_zero]
  unfold m_X9_findHoles
  have e27 : at1 at0 i j = 0 → m_X9_findHoles_27 (nI no) E C Tk Cw Wo Ih (nI c) (nI i) (nI (j - i)) = m_X9_findHoles_28 (nI no) E C Tk Cw Wo Ih (nI c) (nI i) (nI (j - i)) (lN (at1 at0 i j)) := fun h => by rw [h]; rfl
  by_cases q : j = i + 1
  · rw [i_1, if_pos (by rw [nI_eq' (by omega) (by omega)]; omega), i_40, pk_mul, nI_add, gd_nI (by omega) (by omega), nI_cl (by omega), hw i (by omega), mAtom_ok G, ob_i]
    have e1 : at1 at0 i j = if atomB no sz el (w i) = true then 1 else 0 := by
      unfold at1
      rw [if_pos q, ha]
      rfl
    by_cases q2 : atomB no sz el (w i) = true
    · rw [if_neg (by rw [bi_eq0]; simpa using q2)]
      rw [if_pos q2] at e1
      rw [e1] at main
      exact main
    · rw [if_pos (by rw [bi_eq0]; exact q2), e27 (by rw [e1, if_neg q2])]
      exact main
  · rw [i_1, if_neg (by rw [nI_eq' (by omega) (by omega)]; omega), e27 (by unfold at1; rw [if_neg q])]
    exact main
end MCHART
