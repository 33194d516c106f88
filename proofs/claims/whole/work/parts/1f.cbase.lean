/-! places in the charts; sums and products told up to M -/
theorem l_M : (1000000000 : Int64) = lN 1000000000 := rfl
theorem plus_ok {a b : Nat} (ha : a ≤ 1000000000) (hb : b ≤ 1000000000) : m_X8_plus (nI a) (nI b) = some (nI (cap (a + b))) := by
  unfold m_X8_plus
  rw [nI_add, i_M]
  by_cases h : a + b < 1000000000
  · rw [if_pos (by rw [nI_lt' (by omega) (by omega)]; exact h), cap_id (by omega)]
  · rw [if_neg (by rw [nI_lt' (by omega) (by omega)]; exact h)]
    have : cap (a + b) = 1000000000 := by unfold cap; omega
    rw [this]
theorem mul_le_MM {a b : Nat} (ha : a ≤ 1000000000) (hb : b ≤ 1000000000) : a * b ≤ 1000000000000000000 := Nat.mul_le_mul ha hb
theorem times_ok {a b : Nat} (ha : a ≤ 1000000000) (hb : b ≤ 1000000000) : m_X8_times (nI a) (nI b) = some (nI (cap (a * b))) := by
  have hab := mul_le_MM ha hb
  unfold m_X8_times
  rw [nI_l (by omega), nI_l (by omega), lN_mul, l_M]
  by_cases h : a * b < 1000000000
  · rw [if_pos ((pk_lLT (by omega) (by omega)).mpr h), cap_id (by omega), lN_i]
  · rw [if_neg (fun z => h ((pk_lLT (by omega) (by omega)).mp z)), lN_i]
    have : cap (a * b) = 1000000000 := by unfold cap; omega
    rw [this]
theorem capped_ok {a : Nat} (ha : a < 2 ^ 63) : m_X9_capped (lN a) = some (lN (cap a)) := by
  unfold m_X9_capped
  rw [l_M]
  by_cases h : a ≤ 1000000000
  · rw [if_pos ((lg_cmp_le _ _).mpr ((pk_lLE (by omega) (by omega)).mpr h)), cap_id h]
  · rw [if_neg (fun z => h ((pk_lLE (by omega) (by omega)).mp ((lg_cmp_le _ _).mp z)))]
    have : cap a = 1000000000 := by unfold cap; omega
    rw [this]
/-- triangular numbers -/
def tri : Nat → Nat
  | 0 => 0
  | j + 1 => tri j + j
theorem tri_eq : ∀ j, j * (j - 1) = 2 * tri j := by
  intro j
  induction j with
  | zero => rfl
  | succ j ih =>
    unfold tri
    rw [Nat.mul_add, ← ih]
    show (j + 1) * j = _
    cases j with
    | zero => rfl
    | succ j =>
      show (j + 1 + 1) * (j + 1) = (j + 1) * j + 2 * (j + 1)
      rw [Nat.mul_comm (j + 1 + 1) (j + 1), Nat.mul_comm 2 (j + 1), ← Nat.mul_add]
theorem tri_mono : ∀ {a b : Nat}, a ≤ b → tri a ≤ tri b := by
  intro a b h
  induction b with
  | zero => have : a = 0 := by omega
            subst this; exact Nat.le_refl _
  | succ b ih =>
    by_cases e : a = b + 1
    · subst e; exact Nat.le_refl _
    · have h1 := ih (by omega)
      have h2 : tri (b + 1) = tri b + b := rfl
      omega
theorem tri_42 {j : Nat} (h : j ≤ 41) : tri j ≤ 820 := by
  have h1 := tri_mono h
  have h2 : tri 41 = 820 := by decide
  omega
def spN (i j : Nat) : Nat := tri j + i
theorem spN_inj {i j i' j' : Nat} (h : i < j) (h' : i' < j') (e : spN i j = spN i' j') : i = i' ∧ j = j' := by
  unfold spN at e
  rcases Nat.lt_trichotomy j j' with q | q | q
  · have := tri_mono (show j + 1 ≤ j' from q)
    have : tri (j + 1) = tri j + j := rfl
    omega
  · subst q; omega
  · have := tri_mono (show j' + 1 ≤ j from q)
    have : tri (j' + 1) = tri j' + j' := rfl
    omega
theorem spN_lt {i j n : Nat} (h : i < j) (hj : j ≤ n) : spN i j < tri (n + 1) := by
  have h1 := tri_mono (show j + 1 ≤ n + 1 by omega)
  have h2 : tri (j + 1) = tri j + j := rfl
  unfold spN
  omega
theorem span_ok {i j : Nat} (hi : i ≤ 41) (h1 : 1 ≤ j) (hj : j ≤ 41) : m_X0_span (nI i) (nI j) = some (nI (spN i j)) := by
  have ht := tri_42 hj
  unfold m_X0_span
  rw [gz_ok (by decide), i_1, i_2, pk_sub h1, pk_mul, tri_eq, pk_div (by omega) (by omega) (by omega), nI_add]
  rw [show 2 * tri j / 2 = tri j by omega]
  rfl
theorem span_0 {i : Nat} (hi : i ≤ 41) : True := trivial
def wyN (n o e s : Nat) : Nat := (o * 10 + e) * (n + 1) + s
theorem way_ok {n o e s : Nat} (hn : n ≤ 40) (ho : o < 30) (he : e ≤ 9) (hs : s ≤ n) : m_X0_way (nI n) (nI o) (nI e) (nI s) = some (nI (wyN n o e s)) := by
  unfold m_X0_way
  simp only [i_1, i_10, pk_mul, nI_add]
  rfl
theorem wyN_inj {n o e s o' e' s' : Nat} (he : e ≤ 9) (hs : s ≤ n) (he' : e' ≤ 9) (hs' : s' ≤ n) (h : wyN n o e s = wyN n o' e' s') : o = o' ∧ e = e' ∧ s = s' := by
  unfold wyN at h
  have h1 : (o * 10 + e) = (o' * 10 + e') := by
    have a1 : ((o * 10 + e) * (n + 1) + s) / (n + 1) = o * 10 + e := by
      rw [Nat.mul_comm, Nat.mul_add_div (by omega), Nat.div_eq_of_lt (by omega)]; omega
    have a2 : ((o' * 10 + e') * (n + 1) + s') / (n + 1) = o' * 10 + e' := by
      rw [Nat.mul_comm, Nat.mul_add_div (by omega), Nat.div_eq_of_lt (by omega)]; omega
    rw [← a1, ← a2, h]
  rw [h1] at h
  refine ⟨by omega, by omega, by omega⟩
theorem wyN_lt {n o e s no : Nat} (ho : o < no) (he : e ≤ 9) (hs : s ≤ n) : wyN n o e s < no * 10 * (n + 1) := by
  unfold wyN
  have h1 : o * 10 + e + 1 ≤ no * 10 := by omega
  have h2 : (o * 10 + e + 1) * (n + 1) ≤ no * 10 * (n + 1) := Nat.mul_le_mul_right _ h1
  rw [Nat.add_mul] at h2
  omega
theorem wyN_b {n o e s : Nat} (hn : n ≤ 40) (ho : o < 30) (he : e ≤ 9) (hs : s ≤ n) : wyN n o e s < 12300 := by
  have h1 := wyN_lt (n := n) (no := 30) ho he hs
  have h2 : 30 * 10 * (n + 1) ≤ 30 * 10 * 41 := Nat.mul_le_mul_left _ (by omega)
  omega
def tpN (no o i j : Nat) : Nat := spN i j * no + o
theorem tpN_inj {no o i j o' i' j' : Nat} (h : i < j) (h' : i' < j') (ho : o < no) (ho' : o' < no) (e : tpN no o i j = tpN no o' i' j') : o = o' ∧ i = i' ∧ j = j' := by
  unfold tpN at e
  have h1 : spN i j = spN i' j' := by
    have a1 : (spN i j * no + o) / no = spN i j := by
      rw [Nat.mul_comm, Nat.mul_add_div (by omega), Nat.div_eq_of_lt ho]; omega
    have a2 : (spN i' j' * no + o') / no = spN i' j' := by
      rw [Nat.mul_comm, Nat.mul_add_div (by omega), Nat.div_eq_of_lt ho']; omega
    rw [← a1, ← a2, e]
  obtain ⟨h2, h3⟩ := spN_inj h h' h1
  rw [h1] at e
  exact ⟨by omega, h2, h3⟩
theorem tpN_lt {no o i j n : Nat} (h : i < j) (hj : j ≤ n) (ho : o < no) : tpN no o i j < tri (n + 1) * no := by
  have h1 := spN_lt h hj
  unfold tpN
  have h2 : (spN i j + 1) * no ≤ tri (n + 1) * no := Nat.mul_le_mul_right _ h1
  rw [Nat.add_mul] at h2
  omega
theorem tpN_b {no o i j : Nat} (h : i < j) (hj : j ≤ 40) (ho : o < no) (hno : no ≤ 30) : tpN no o i j < 24600 := by
  have h1 := tpN_lt (n := 40) h hj ho
  have h2 := tri_42 (j := 41) (by omega)
  have h3 : tri (40 + 1) * no ≤ 820 * 30 := Nat.mul_le_mul h2 hno
  omega
