/-! the class's chart: what fits into a hole, what a hole covers -/
theorem and_bit (x y : Int32) (q : Nat) : bt' (x &&& y) q = (bt' x q && bt' y q) := by
  show (x.toBitVec &&& y.toBitVec).getLsbD q = _
  rw [BitVec.getLsbD_and]; rfl
theorem atoms_ok {C_atom : Nat → Int32} {at0 : Nat → Nat} {n i j : Nat} (hn : n ≤ 40) (ha : ∀ k, k < n → C_atom k = nI (at0 k)) (hij : i < j) (hj : j ≤ n) : m_X0_atoms C_atom (nI i) (nI j) = some (nI (at1 at0 i j)) := by
  unfold m_X0_atoms at1
  rw [pk_sub (by omega), i_1]
  by_cases q : j = i + 1
  · rw [if_pos (by rw [nI_eq' (by omega) (by omega)]; omega), if_pos q, gd_nI (by omega) (by omega), nI_cl (by omega), ha i (by omega)]
  · rw [if_neg (by rw [nI_eq' (by omega) (by omega)]; omega), if_neg q]; rfl
theorem at1_le {at0 : Nat → Nat} (h : ∀ k, at0 k ≤ 1) (i j : Nat) : at1 at0 i j ≤ 1 := by
  unfold at1
  split
  next => exact h i
  next => omega
/-- the sum of what a mask lets in -/
theorem fitting_ok {C_atom C_topped : Nat → Int32} {at0 : Nat → Nat} {n no nT i j : Nat} (hn : n ≤ 40) (hno : no ≤ 30) (ha : ∀ k, k < n → C_atom k = nI (at0 k)) (ha1 : ∀ k, at0 k ≤ 1) (hij : i < j) (hj : j ≤ n) (hT : tri (n + 1) * no ≤ nT) (hTb : nT ≤ 65536) {t : Nat → Nat} (ht : ∀ p, p < no → C_topped (tpN no p i j) = nI (t p) ∧ t p ≤ 1000000000) (x : Int32) :
    m_X0_fitting C_atom nT C_topped (nI no) x (nI i) (nI j) = some (nI (cap (at1 at0 i j + sm (fun p => if bt' x p = true then t p else 0) 0 no))) := by
  have h1 := at1_le ha1 i j
  unfold m_X0_fitting
  rw [atoms_ok hn ha hij hj, ob_i]
  by_cases hx : x = 0
  · rw [if_pos hx, sm_zero (fun p _ _ => by rw [hx, bt_0]; rfl), Nat.add_zero, cap_id (by omega)]
  · rw [if_neg hx, span_ok (by omega) (by omega) (by omega), ob_i, pk_mul]
    have h := lpP (fun k p (s : Nat) => m_X0_fitting_30 (nI no) C_atom nT C_topped k x (nI s) (nI (spN i j * no)) (nI p)) (fun r => r = some (nI (cap (at1 at0 i j + sm (fun p => if bt' x p = true then t p else 0) 0 no)))) no (fun p s => s = cap (at1 at0 i j + sm (fun p => if bt' x p = true then t p else 0) 0 p)) ?_ ?_ no FU 0 (at1 at0 i j) (by omega) (by rw [FU_v]; omega) (by rw [sm_0, Nat.add_zero, cap_id (by omega)])
    · exact h
    · intro k s hs
      show (if nI no ≤ nI no then some (nI s) else _) = _
      rw [if_pos (by rw [nI_le' (by omega) (by omega)]; omega), hs]
    · intro k p s hp hs
      right
      have hsb : s ≤ 1000000000 := by rw [hs]; exact cap_le _
      obtain ⟨t1, t2⟩ := ht p hp
      have hlt := tpN_lt hij hj hp
      by_cases q : bt' x p = true
      · refine ⟨cap (s + t p), ?_, ?_⟩
        · show (if nI no ≤ nI p then _ else _) = _
          rw [if_neg (by rw [nI_le' (by omega) (by omega)]; omega), hasBit_ok x (by omega), ob_i, if_neg (by rw [bi_eq0]; simpa using q), nI_add]
          have e : spN i j * no + p = tpN no p i j := rfl
          rw [e, gd_nI (by omega) (by omega), nI_cl (by omega), t1, plus_ok hsb t2, ob_i]
          show m_X0_fitting_30 _ _ _ _ _ _ _ _ (nI p + 1) = _
          rw [nI_1]
        · rw [hs, cap_addl, sm_l, Nat.zero_add, if_pos q, Nat.add_assoc]
      · refine ⟨s, ?_, ?_⟩
        · show (if nI no ≤ nI p then _ else _) = _
          rw [if_neg (by rw [nI_le' (by omega) (by omega)]; omega), hasBit_ok x (by omega), ob_i, if_pos (by rw [bi_eq0]; exact q)]
          show m_X0_fitting_30 _ _ _ _ _ _ _ _ (nI p + 1) = _
          rw [nI_1]
        · rw [hs, sm_l, Nat.zero_add, if_neg q, Nat.add_zero]
/-- a hole that isn't last: h m is what it takes up to m, g m what the others cover behind -/
theorem coverHole_ok {C_all C_firsts C_ways : Nat → Int32} {n no nA nF nW o e i j : Nat} (hn : n ≤ 40) (hno : no ≤ 30) (ho : o < no) (he : e ≤ 8) (hij : i < j) (hj : j ≤ n) (hA : tri (n + 1) ≤ nA) (hAb : nA ≤ 65536) (hF : tri (n + 1) * no ≤ nF) (hFb : nF ≤ 65536) (hW : no * 10 * (n + 1) ≤ nW) (hWb : nW ≤ 65536)
    {h g : Nat → Nat} (hg : ∀ m, i < m → m < j → C_ways (wyN n o (e + 1) m) = nI (g m) ∧ g m ≤ 1000000000) (hh : ∀ m, i < m → m < j → (if e = 0 then C_firsts (tpN no o i m) else C_all (spN i m)) = nI (h m) ∧ h m ≤ 1000000000) :
    m_X0_coverHole nA C_all nF C_firsts nW C_ways (nI n) (nI no) (nI o) (nI e) (nI i) (nI j) = some (nI (cap (sm (fun m => h m * g m) (i + 1) (j - (i + 1))))) := by
  unfold m_X0_coverHole
  rw [nI_1, i_0, way_ok hn (by omega) (by omega) (by omega), ob_i, nI_1]
  have hb0 : wyN n o (e + 1) 0 + j ≤ 65536 := by
    have := wyN_b hn (show o < 30 by omega) (show e + 1 ≤ 9 by omega) (show j ≤ n from hj)
    unfold wyN at this ⊢
    omega
  have h := lpP (fun k m (s : Nat) => m_X0_coverHole_19 (nI n) (nI no) nA C_all nF C_firsts nW C_ways k (nI o) (nI e) (nI i) (nI j) (nI (wyN n o (e + 1) 0)) (nI s) (nI m)) (fun r => r = some (nI (cap (sm (fun m => h m * g m) (i + 1) (j - (i + 1)))))) j (fun m s => s = cap (sm (fun m => h m * g m) (i + 1) (m - (i + 1))) ∧ i + 1 ≤ m) ?_ ?_ (j - (i + 1)) FU (i + 1) 0 (by omega) (by rw [FU_v]; omega) ⟨by rw [Nat.sub_self]; rfl, by omega⟩
  · exact h
  · intro k s hs
    show (if nI j ≤ nI j then some (nI s) else _) = _
    rw [if_pos (by rw [nI_le' (by omega) (by omega)]; omega), hs.1]
  · intro k m s hm hs
    obtain ⟨hs, him⟩ := hs
    right
    have hsb : s ≤ 1000000000 := by rw [hs]; exact cap_le _
    obtain ⟨g1, g2⟩ := hg m (by omega) hm
    obtain ⟨h1, h2⟩ := hh m (by omega) hm
    have ew : wyN n o (e + 1) 0 + m = wyN n o (e + 1) m := by unfold wyN; omega
    have hwl := wyN_lt (n := n) (no := no) ho (show e + 1 ≤ 9 by omega) (show m ≤ n by omega)
    have hsum : cap (sm (fun m => h m * g m) (i + 1) (m + 1 - (i + 1))) = cap (s + cap (h m * g m)) := by
      rw [show m + 1 - (i + 1) = (m - (i + 1)) + 1 by omega, sm_l, hs, cap_addl, cap_addr]
      rw [show i + 1 + (m - (i + 1)) = m by omega]
    have e0 : m_X0_coverHole_19 (nI n) (nI no) nA C_all nF C_firsts nW C_ways (k + 1) (nI o) (nI e) (nI i) (nI j) (nI (wyN n o (e + 1) 0)) (nI s) (nI m) = (if nI j ≤ nI m then (some (nI s)) else (gd (nI (wyN n o (e + 1) 0) + nI m) nW (if (C_ways (nI (wyN n o (e + 1) 0) + nI m).toNatClampNeg) ≤ 0 then (m_X0_coverHole_91 (nI n) (nI no) nA C_all nF C_firsts nW C_ways (m_X0_coverHole_19 (nI n) (nI no) nA C_all nF C_firsts nW C_ways k) (nI o) (nI e) (nI i) (nI j) (nI (wyN n o (e + 1) 0)) (nI s) (nI m)) else (Option.bind (m_X0_span (nI i) (nI m)) (fun r_8 => if nI e = 0 then (gd ((r_8 * nI no) + nI o) nF (m_X0_coverHole_81 (nI n) (nI no) nA C_all nF C_firsts nW C_ways (m_X0_coverHole_19 (nI n) (nI no) nA C_all nF C_firsts nW C_ways k) (nI o) (nI e) (nI i) (nI j) (nI (wyN n o (e + 1) 0)) (nI m) (C_ways (nI (wyN n o (e + 1) 0) + nI m).toNatClampNeg) (C_firsts ((r_8 * nI no) + nI o).toNatClampNeg) (nI s))) else (gd r_8 nA (m_X0_coverHole_81 (nI n) (nI no) nA C_all nF C_firsts nW C_ways (m_X0_coverHole_19 (nI n) (nI no) nA C_all nF C_firsts nW C_ways k) (nI o) (nI e) (nI i) (nI j) (nI (wyN n o (e + 1) 0)) (nI m) (C_ways (nI (wyN n o (e + 1) 0) + nI m).toNatClampNeg) (C_all r_8.toNatClampNeg) (nI s)))))))) := rfl
    rw [if_neg (by rw [nI_le' (by omega) (by omega)]; omega), nI_add, ew, gd_nI (by omega) (by omega), nI_cl (by omega), g1] at e0
    have t81 : ∀ a : Nat, a ≤ 1000000000 → m_X0_coverHole_81 (nI n) (nI no) nA C_all nF C_firsts nW C_ways (m_X0_coverHole_19 (nI n) (nI no) nA C_all nF C_firsts nW C_ways k) (nI o) (nI e) (nI i) (nI j) (nI (wyN n o (e + 1) 0)) (nI m) (nI (g m)) (nI a) (nI s) = m_X0_coverHole_19 (nI n) (nI no) nA C_all nF C_firsts nW C_ways k (nI o) (nI e) (nI i) (nI j) (nI (wyN n o (e + 1) 0)) (nI (cap (s + cap (a * g m)))) (nI (m + 1)) := by
      intro a ha
      unfold m_X0_coverHole_81
      rw [times_ok ha g2, ob_i, plus_ok hsb (cap_le _), ob_i]
      show m_X0_coverHole_19 _ _ _ _ _ _ _ _ _ _ _ _ _ _ _ (nI m + 1) = _
      rw [nI_1]
    refine ⟨cap (s + cap (h m * g m)), ?_, hsum.symm, by omega⟩
    by_cases q : g m = 0
    · rw [if_pos (by rw [i_0, nI_le' (by omega) (by omega)]; omega)] at e0
      rw [e0, q, Nat.mul_zero]
      have : cap (s + cap 0) = s := by unfold cap; omega
      rw [this]
      show m_X0_coverHole_19 _ _ _ _ _ _ _ _ _ _ _ _ _ _ _ (nI m + 1) = _
      rw [nI_1]
    · rw [if_neg (by rw [i_0, nI_le' (by omega) (by omega)]; omega), span_ok (by omega) (by omega) (by omega), ob_i] at e0
      by_cases q2 : e = 0
      · rw [if_pos (by rw [i_0, nI_eq' (by omega) (by omega)]; exact q2), pk_mul, nI_add] at e0
        have hlt := tpN_lt (n := n) (show i < m by omega) (show m ≤ n by omega) ho
        have et : spN i m * no + o = tpN no o i m := rfl
        rw [if_pos q2] at h1
        rw [et, gd_nI (by omega) (by omega), nI_cl (by omega), h1, t81 (h m) h2] at e0
        exact e0
      · rw [if_neg (by rw [i_0, nI_eq' (by omega) (by omega)]; exact q2)] at e0
        have hlt := spN_lt (n := n) (show i < m by omega) (show m ≤ n by omega)
        rw [if_neg q2] at h1
        rw [gd_nI (by omega) (by omega), nI_cl (by omega), h1, t81 (h m) h2] at e0
        exact e0
