/-! the reference's operators: RG of its own rows -/
section MRULES
variable {C : Nat → Int32} {E : Nat → Int64} {O : Int32} {no : Nat} {sz : Nat → Nat} {el : Nat → Nat → Int64}
theorem mHole_ok (G : RG C E O no sz el) {o e : Nat} (ho : o < no) (he : e < sz o) : m_X9_isHole E (nI o) (nI e) = some (bi (el o e = 95)) := by
  obtain ⟨hno, hn, hG⟩ := G
  obtain ⟨h1, h2, h3, h4⟩ := hG o ho
  unfold m_X9_isHole
  simp (disch := omega) only [i_9, i_0, pk_mul, nI_add, gd_nI, nI_cl, cmp_eq']
  rw [Nat.mul_comm 9 o, h4 e he]
  by_cases h : el o e = 95
  · rw [if_pos h, bi_t h]
  · rw [if_neg h, bi_f h]; rfl
theorem mFirst_ok (G : RG C E O no sz el) {o : Nat} (ho : o < no) : m_X9_hasFirst E (nI o) = some (bi (fstB el o = true)) := by
  obtain ⟨h1, h2, h3, h4⟩ := G.2.2 o ho
  unfold m_X9_hasFirst
  rw [i_0, mHole_ok G ho (by omega)]
  simp only [ob_i, gb_bi]
  exact congrArg some (bi_congr (by unfold fstB; simp))
theorem mLast_ok (G : RG C E O no sz el) {o : Nat} (ho : o < no) : m_X9_hasLast E C (nI o) = some (bi (lstB sz el o = true)) := by
  obtain ⟨h1, h2, h3, h4⟩ := G.2.2 o ho
  have hn : no ≤ 30 := G.2.1
  unfold m_X9_hasLast
  simp (disch := omega) only [gd_nI, nI_cl, h1, i_1, pk_sub]
  rw [mHole_ok G ho (by omega)]
  simp only [ob_i, gb_bi]
  exact congrArg some (bi_congr (by unfold lstB; simp))
theorem mShape_ok (G : RG C E O no sz el) {o : Nat} (ho : o < no) : m_X9_shape E C (nI o) = some (nI (kindN sz el o)) := by
  unfold m_X9_shape m_X9_shape_13
  rw [mLast_ok G ho, mFirst_ok G ho]
  simp only [ob_i, bi_eq0]
  unfold kindN
  by_cases q1 : lstB sz el o = true <;> by_cases q2 : fstB el o = true <;> simp [q1, q2] <;> rfl
def tyN (sz : Nat → Nat) (o e : Nat) : Nat := if e = 0 then 1 + 2 * o else if e + 1 = sz o then 2 + 2 * o else 0
theorem mType_ok (G : RG C E O no sz el) {o e : Nat} (ho : o < no) (he : e < sz o) : m_X9_typeOf C (nI o) (nI e) = some (nI (tyN sz o e)) := by
  obtain ⟨h1, h2, h3, h4⟩ := G.2.2 o ho
  have hn : no ≤ 30 := G.2.1
  unfold m_X9_typeOf tyN
  simp (disch := omega) only [i_0, i_1, i_2, gd_nI, nI_cl, h1, pk_sub, nI_eq', pk_mul, nI_add]
  by_cases q : e = 0
  · rw [if_pos q, if_pos q]
  · rw [if_neg q, if_neg q]
    by_cases q2 : e + 1 = sz o
    · rw [if_pos (by omega), if_pos q2]
    · rw [if_neg (by omega), if_neg q2]
theorem mLeft_ok (G : RG C E O no sz el) {Wy : Nat → Int32} {wy : Nat → Nat} (hw : ∀ o, o < no → Wy o = nI (wy o) ∧ wy o ≤ 2) {o : Nat} (ho : o < no) : m_X9_isLeft E C Wy (nI o) = some (bi (lnB sz el wy o 2 1 = true)) := by
  have hkn := kindN_le sz el o
  obtain ⟨hw1, hw2⟩ := hw o ho
  have hn : no ≤ 30 := G.2.1
  unfold m_X9_isLeft
  rw [mShape_ok G ho]
  simp (disch := omega) only [ob_i, i_1, i_2, i_3, nI_eq', gd_nI, nI_cl, hw1]
  unfold lnB
  by_cases q : kindN sz el o = 2
  · rw [if_pos q, bi_t (by simp [q])]; rfl
  · rw [if_neg q]
    by_cases q2 : kindN sz el o = 3
    · rw [if_pos q2]
      by_cases q3 : wy o = 1
      · rw [if_pos q3, bi_t (by simp [q2, q3])]; rfl
      · rw [if_neg q3, bi_f (by simp [q, q3])]
    · rw [if_neg q2, bi_f (by simp [q, q2])]
theorem mRight_ok (G : RG C E O no sz el) {Wy : Nat → Int32} {wy : Nat → Nat} (hw : ∀ o, o < no → Wy o = nI (wy o) ∧ wy o ≤ 2) {o : Nat} (ho : o < no) : m_X9_isRight E C Wy (nI o) = some (bi (lnB sz el wy o 1 2 = true)) := by
  have hkn := kindN_le sz el o
  obtain ⟨hw1, hw2⟩ := hw o ho
  have hn : no ≤ 30 := G.2.1
  unfold m_X9_isRight
  rw [mShape_ok G ho]
  simp (disch := omega) only [ob_i, i_1, i_2, i_3, nI_eq', gd_nI, nI_cl, hw1]
  unfold lnB
  by_cases q : kindN sz el o = 1
  · rw [if_pos q, bi_t (by simp [q])]; rfl
  · rw [if_neg q]
    by_cases q2 : kindN sz el o = 3
    · rw [if_pos q2]
      by_cases q3 : wy o = 2
      · rw [if_pos q3, bi_t (by simp [q2, q3])]; rfl
      · rw [if_neg q3, bi_f (by simp [q, q3])]
    · rw [if_neg q2, bi_f (by simp [q, q2])]
set_option maxHeartbeats 1000000 in
theorem mPart_ok (G : RG C E O no sz el) (w : Int64) : m_X9_isPart O E C w = some (bi (partB no sz el w = true)) := by
  obtain ⟨hno, hn, hG⟩ := G
  unfold m_X9_isPart
  -- a found one stays
  have done : ∀ (n : Nat) (x : Int32), m_X9_isPart_5 O E C (n + 1) w 1 x = some 1 := by
    intro n x
    show (if O ≤ x then (gb 1 (some 1)) else (if (1 : Int32) = 0 then _ else (gb 1 (some 1)))) = _
    rw [if_neg (by decide : ¬ (1 : Int32) = 0), gb_1]
    split <;> rfl
  have inner : ∀ (n o : Nat), 1 ≤ n → o < no → m_X9_isPart_21 O E C (m_X9_isPart_5 O E C n) FU w 0 (nI o) 0 = if (!(w == 95) && anyB (fun e => el o e == w) 0 (sz o)) = true then some 1 else m_X9_isPart_5 O E C n w 0 (nI (o + 1)) := by
    intro n o hn1 ho
    obtain ⟨h1, h2, h3, h4⟩ := hG o ho
    obtain ⟨n, rfl⟩ : ∃ z, n = z + 1 := ⟨n - 1, by omega⟩
    have fin : ∀ (i e : Nat), e ≤ sz o → m_X9_isPart_21 O E C (m_X9_isPart_5 O E C (n + 1)) (i + 1) w 1 (nI o) (nI e) = some 1 := by
      intro i e he
      show gd (nI o) 30 (if C (nI o).toNatClampNeg ≤ nI e then m_X9_isPart_5 O E C (n + 1) w 1 (nI o + 1) else (if (1 : Int32) = 0 then _ else m_X9_isPart_5 O E C (n + 1) w 1 (nI o + 1))) = _
      rw [gd_nI (by omega) (by omega), if_neg (by decide : ¬ (1 : Int32) = 0), done]
      split <;> rfl
    have h := lpS (fun i e => m_X9_isPart_21 O E C (m_X9_isPart_5 O E C (n + 1)) (i + 1) w 0 (nI o) (nI e)) (sz o) (fun e => !(w == 95) && (el o e == w)) (fun _ => some 1) (m_X9_isPart_5 O E C (n + 1) w 0 (nI (o + 1)))
      (fun i => by
        show gd (nI o) 30 (if C (nI o).toNatClampNeg ≤ nI (sz o) then m_X9_isPart_5 O E C (n + 1) w 0 (nI o + 1) else _) = _
        rw [gd_nI (by omega) (by omega), nI_cl (by omega), h1, if_pos (by rw [nI_le' (by omega) (by omega)]; omega), i_1, nI_add])
      (fun i e he => by
        show gd (nI o) 30 (if C (nI o).toNatClampNeg ≤ nI e then _ else (if (0 : Int32) = 0 then (if lg_cmp w 95 = 0 then m_X9_isPart_21 O E C (m_X9_isPart_5 O E C (n + 1)) (i + 1) w 0 (nI o) (nI e + 1) else (gd (9 * nI o + nI e) 270 (if lg_cmp (E (9 * nI o + nI e).toNatClampNeg) w = 0 then m_X9_isPart_21 O E C (m_X9_isPart_5 O E C (n + 1)) (i + 1) w 1 (nI o) (nI e + 1) else m_X9_isPart_21 O E C (m_X9_isPart_5 O E C (n + 1)) (i + 1) w 0 (nI o) (nI e + 1)))) else _)) = _
        rw [gd_nI (by omega) (by omega), nI_cl (by omega), h1, if_neg (by rw [nI_le' (by omega) (by omega)]; omega), if_pos rfl]
        rw [i_9, pk_mul, nI_add, gd_nI (by omega) (by omega), nI_cl (by omega), Nat.mul_comm 9 o, h4 e he, i_1, nI_add]
        by_cases q : w = 95
        · rw [if_pos ((lg_cmp_eq w 95).mpr q), if_neg (by simp [q])]
        · rw [if_neg (fun z => q ((lg_cmp_eq w 95).mp z))]
          by_cases q2 : el o e = w
          · rw [if_pos ((lg_cmp_eq _ _).mpr q2), if_pos (by simp [q, q2])]
            exact fin i (e + 1) (by omega)
          · rw [if_neg (fun z => q2 ((lg_cmp_eq _ _).mp z)), if_neg (by simp [q2])])
      (sz o) 65535 0 (by omega) (by omega)
    refine (h.trans elim_any).trans ?_
    have e1 : anyB (fun e => !(w == 95) && (el o e == w)) 0 (sz o) = (!(w == 95) && anyB (fun e => el o e == w) 0 (sz o)) := by
      by_cases q : w = 95
      · have : anyB (fun e => !(w == 95) && (el o e == w)) 0 (sz o) = false := by
          cases hh : anyB (fun e => !(w == 95) && (el o e == w)) 0 (sz o) with
          | false => rfl
          | true =>
            obtain ⟨i, -, -, hi⟩ := anyB_iff.mp hh
            simp [q] at hi
        rw [this]; simp [q]
      · have hq : (w == 95) = false := by simpa using q
        simp only [hq, Bool.not_false, Bool.true_and]
    rw [e1]
  have h := lpS (fun i o => m_X9_isPart_5 O E C (i + 1) w 0 (nI o)) no (fun o => !(w == 95) && anyB (fun e => el o e == w) 0 (sz o)) (fun _ => some 1) (some 0)
    (fun i => by
      show (if O ≤ nI no then (gb 0 (some 0)) else _) = _
      rw [hno, if_pos (by rw [nI_le' (by omega) (by omega)]; omega), gb_0])
    (fun i o ho => by
      show (if O ≤ nI o then _ else (if (0 : Int32) = 0 then (m_X9_isPart_21 O E C (m_X9_isPart_5 O E C (i + 1)) FU w 0 (nI o) 0) else _)) = _
      rw [if_neg (by rw [hno, nI_le' (by omega) (by omega)]; omega), if_pos rfl]
      exact inner (i + 1) o (by omega) ho)
    no 65535 0 (by omega) (by omega)
  refine (h.trans elim_any).trans ?_
  unfold partB
  by_cases q : w = 95
  · have : anyB (fun o => !(w == 95) && anyB (fun e => el o e == w) 0 (sz o)) 0 no = false := by
      cases hh : anyB (fun o => !(w == 95) && anyB (fun e => el o e == w) 0 (sz o)) 0 no with
      | false => rfl
      | true =>
        obtain ⟨i, -, -, hi⟩ := anyB_iff.mp hh
        simp [q] at hi
    rw [if_neg (by rw [this]; decide), bi_f (by simp [q])]
  · have hq : (w == 95) = false := by simpa using q
    simp only [hq, Bool.not_false, Bool.true_and]
    by_cases hc : anyB (fun o => anyB (fun e => el o e == w) 0 (sz o)) 0 no = true
    · rw [if_pos hc, bi_t hc]
    · rw [if_neg hc, bi_f hc]
def atomB (no : Nat) (sz : Nat → Nat) (el : Nat → Nat → Int64) (w : Int64) : Bool := !(w == 95) && !(partB no sz el w)
theorem mAtom_ok (G : RG C E O no sz el) (w : Int64) : m_X9_isAtom O E C w = some (bi (atomB no sz el w = true)) := by
  unfold m_X9_isAtom atomB
  by_cases q : w = 95
  · rw [if_pos ((lg_cmp_eq w 95).mpr q), bi_f (by simp [q])]
  · rw [if_neg (fun z => q ((lg_cmp_eq w 95).mp z)), mPart_ok G w]
    simp only [ob_i, bi_eq0]
    by_cases q2 : partB no sz el w = true
    · rw [if_neg (by simpa using q2), bi_f (by simp [q2])]
    · rw [if_pos q2, bi_t (by simpa [q] using q2)]
end MRULES
