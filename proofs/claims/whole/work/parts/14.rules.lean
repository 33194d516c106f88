/-! RULES: the class's operators. sz: how many elements, el: the elements, 95: a hole -/
def RG (R_size : Nat → Int32) (R_elements : Nat → Int64) (R_operators : Int32) (no : Nat) (sz : Nat → Nat) (el : Nat → Nat → Int64) : Prop :=
  R_operators = nI no ∧ no ≤ 30 ∧ ∀ o, o < no → R_size o = nI (sz o) ∧ 1 ≤ sz o ∧ sz o ≤ 9 ∧ ∀ e, e < sz o → R_elements (o * 9 + e) = el o e
def partB (no : Nat) (sz : Nat → Nat) (el : Nat → Nat → Int64) (w : Int64) : Bool := !(w == 95) && anyB (fun o => anyB (fun e => el o e == w) 0 (sz o)) 0 no
theorem element_ok {R_elements : Nat → Int64} {o e : Nat} (ho : o < 30) (he : e < 9) : m_X4_element R_elements (nI o) (nI e) = some (R_elements (o * 9 + e)) := by
  unfold m_X4_element
  simp (disch := omega) only [i_9, pk_mul, nI_add, gd_nI, nI_cl]
theorem size_ok {R_size : Nat → Int32} {o : Nat} (ho : o < 30) : m_X4_size R_size (nI o) = some (R_size o) := by
  unfold m_X4_size
  simp (disch := omega) only [gd_nI, nI_cl]
theorem isHole_ok {R_elements : Nat → Int64} {o e : Nat} (ho : o < 30) (he : e < 9) : m_X4_isHole R_elements (nI o) (nI e) = some (bi (R_elements (o * 9 + e) = 95)) := by
  unfold m_X4_isHole
  simp (disch := omega) only [i_9, i_0, pk_mul, nI_add, gd_nI, nI_cl, cmp_eq']
  by_cases h : R_elements (o * 9 + e) = 95
  · rw [if_pos h, bi_t h]
  · rw [if_neg h, bi_f h]; rfl
theorem isPart_ok {R_size : Nat → Int32} {R_elements : Nat → Int64} {R_operators : Int32} {no : Nat} {sz : Nat → Nat} {el : Nat → Nat → Int64} (G : RG R_size R_elements R_operators no sz el) (w : Int64) : m_X4_isPart R_size R_elements R_operators w = some (bi (partB no sz el w = true)) := by
  obtain ⟨hno, hn, hG⟩ := G
  unfold m_X4_isPart
  by_cases hw : w = 95
  · rw [if_pos ((lg_cmp_eq w 95).mpr hw)]
    rw [bi_f (by unfold partB; simp [hw])]
  · rw [if_neg (fun q => hw ((lg_cmp_eq w 95).mp q))]
    have inner : ∀ (k12 : Int64 → Int32 → Option Int32) (o : Nat), o < no → m_X4_isPart_23 R_operators R_size R_elements k12 FU w (nI o) 0 = if anyB (fun e => el o e == w) 0 (sz o) = true then some 1 else k12 w (nI (o + 1)) := by
      intro k12 o ho
      obtain ⟨h1, h2, h3, h4⟩ := hG o ho
      have h := lpS (fun n e => m_X4_isPart_23 R_operators R_size R_elements k12 n w (nI o) (nI e)) (sz o) (fun e => el o e == w) (fun _ => some 1) (k12 w (nI (o + 1)))
        (fun n => by
          show gd (nI o) 30 _ = _
          simp (disch := omega) only [gd_nI, nI_cl, h1, nI_le', i_1, nI_add]
          rw [if_pos (Nat.le_refl _)])
        (fun n e he => by
          show gd (nI o) 30 _ = _
          simp (disch := omega) only [gd_nI, nI_cl, h1, nI_le', i_1, i_0, nI_add, element_ok, ob_i, cmp_eq']
          rw [if_neg (by omega), h4 e he]
          simp only [beq_iff_eq])
        (sz o) FU 0 (by omega) (by rw [FU_v]; omega)
      exact h.trans elim_any
    have h := lpS (fun n o => m_X4_isPart_12 R_operators R_size R_elements n w (nI o)) no (fun o => anyB (fun e => el o e == w) 0 (sz o)) (fun _ => some 1) (some 0)
      (fun n => by
        show (if R_operators ≤ nI no then some 0 else _) = _
        rw [hno, if_pos (by rw [nI_le' (by omega) (by omega)]; omega)])
      (fun n o ho => by
        show (if R_operators ≤ nI o then some 0 else _) = _
        rw [hno, if_neg (by rw [nI_le' (by omega) (by omega)]; omega)]
        rw [← hno]
        exact inner _ o ho)
      no FU 0 (by omega) (by rw [FU_v]; omega)
    refine (h.trans elim_any).trans ?_
    by_cases hc : anyB (fun o => anyB (fun e => el o e == w) 0 (sz o)) 0 no = true
    · rw [if_pos hc, bi_t (by unfold partB; simp [hw, hc])]
    · rw [if_neg hc, bi_f (by unfold partB; simp [hc])]
/-- do the elements of an operator stand in a row from a place on -/
def isAtB (sz : Nat → Nat) (el : Nat → Nat → Int64) (row : Nat → Int64) (o fr : Nat) : Bool := !(anyB (fun e => !(el o e == row (fr + e))) 0 (sz o))
theorem isAtB_iff {sz : Nat → Nat} {el : Nat → Nat → Int64} {row : Nat → Int64} {o fr : Nat} : isAtB sz el row o fr = true ↔ ∀ e, e < sz o → el o e = row (fr + e) := by
  unfold isAtB
  rw [Bool.not_eq_true', ← Bool.not_eq_true, anyB_iff]
  constructor
  · intro h e he
    by_cases q : el o e = row (fr + e)
    · exact q
    · exact absurd ⟨e, by omega, by omega, by simpa using q⟩ h
  · intro h ⟨e, h1, h2, h3⟩
    have := h e (by omega)
    simp [this] at h3
theorem isAt_ok {R_size : Nat → Int32} {R_elements : Nat → Int64} {R_operators : Int32} {no : Nat} {sz : Nat → Nat} {el : Nat → Nat → Int64} (G : RG R_size R_elements R_operators no sz el) {n_row : Nat} {row : Nat → Int64} {o fr : Nat} (ho : o < no) (hr : fr + sz o ≤ n_row) (hb : n_row < 2 ^ 30) : m_X4_isAt R_size R_elements n_row row (nI o) (nI fr) = some (bi (isAtB sz el row o fr = true)) := by
  obtain ⟨hno, hn, hG⟩ := G
  obtain ⟨h1, h2, h3, h4⟩ := hG o ho
  unfold m_X4_isAt
  have h := lpS (fun n e => m_X4_isAt_3 R_size R_elements n_row row n (nI o) (nI fr) (nI e)) (sz o) (fun e => !(el o e == row (fr + e))) (fun _ => some 0) (some 1)
    (fun n => by
      show gd (nI o) 30 _ = _
      simp (disch := omega) only [gd_nI, nI_cl, h1, nI_le']
      rw [if_pos (Nat.le_refl _)])
    (fun n e he => by
      show gd (nI o) 30 _ = _
      simp (disch := omega) only [gd_nI, nI_cl, h1, nI_le', i_1, i_0, nI_add, element_ok, ob_i, cmp_eq']
      rw [if_neg (by omega), h4 e he]
      by_cases q : el o e = row (fr + e)
      · rw [if_pos q, if_neg (by simp [q])]
      · rw [if_neg q, if_pos (by simpa using q)])
    (sz o) FU 0 (by omega) (by rw [FU_v]; omega)
  refine (h.trans elim_any).trans ?_
  unfold isAtB
  by_cases hc : anyB (fun e => !(el o e == row (fr + e))) 0 (sz o) = true
  · rw [if_pos hc, bi_f (by simp [hc])]
  · rw [if_neg hc, bi_t (by simpa using hc)]
/-- the operator that stands in a row -/
def findN (no : Nat) (sz : Nat → Nat) (el : Nat → Nat → Int64) (row : Nat → Int64) (fr c : Nat) : Option Nat := srch (fun o => sz o == c && isAtB sz el row o fr) 0 no
theorem find_ok {R_size : Nat → Int32} {R_elements : Nat → Int64} {R_operators : Int32} {no : Nat} {sz : Nat → Nat} {el : Nat → Nat → Int64} (G : RG R_size R_elements R_operators no sz el) {n_row : Nat} {row : Nat → Int64} {fr c : Nat} (hr : fr + c ≤ n_row) (hb : n_row < 2 ^ 30) : m_X4_find R_size R_elements R_operators n_row row (nI fr) (nI c) = some ((findN no sz el row fr c).elim (-1) nI) := by
  have G0 := G
  obtain ⟨hno, hn, hG⟩ := G
  unfold m_X4_find
  have h := lpS (fun n o => m_X4_find_3 R_operators R_size R_elements n_row row n (nI fr) (nI c) (nI o)) no (fun o => sz o == c && isAtB sz el row o fr) (fun o => some (nI o)) (some (-1))
    (fun n => by
      show (if R_operators ≤ nI no then some (-1) else _) = _
      rw [hno, if_pos (by rw [nI_le' (by omega) (by omega)]; omega)])
    (fun n o ho => by
      obtain ⟨h1, h2, h3, h4⟩ := hG o ho
      show (if R_operators ≤ nI o then some (-1) else _) = _
      rw [hno, if_neg (by rw [nI_le' (by omega) (by omega)]; omega), ← hno]
      simp (disch := omega) only [gd_nI, nI_cl, h1, nI_eq']
      by_cases q : sz o = c
      · rw [if_pos q, isAt_ok G0 ho (by omega) hb]
        simp only [ob_i, bi_eq0]
        by_cases q2 : isAtB sz el row o fr = true
        · rw [if_neg (by simpa using q2), if_pos (by simp [q, q2])]
        · rw [if_pos q2, if_neg (by simp [q2])]
          show m_X4_find_3 _ _ _ _ _ _ _ _ (nI o + 1) = _
          rw [i_1, nI_add]
      · rw [if_neg q, if_neg (by simp [q])]
        show m_X4_find_3 _ _ _ _ _ _ _ _ (nI o + 1) = _
        rw [i_1, nI_add])
    no FU 0 (by omega) (by rw [FU_v]; omega)
  refine h.trans ?_
  show (findN no sz el row fr c).elim _ _ = _
  cases findN no sz el row fr c <;> rfl
