/-! KINDS and what holes take -/
theorem sh_bit : ∀ l, l < 32 → ((1 : Int32) <<< (nI l &&& 31)).toBitVec = BitVec.twoPow 32 l := by decide +kernel
theorem or_bit (x : Int32) {p q : Nat} (hp : p < 32) (hq : q < 32) : bt' (x ||| ((1 : Int32) <<< (nI p &&& 31))) q = (bt' x q || decide (q = p)) := by
  unfold bt'
  show (x.toBitVec ||| ((1 : Int32) <<< (nI p &&& 31)).toBitVec).getLsbD q = _
  rw [sh_bit p hp, BitVec.getLsbD_or, BitVec.getLsbD_twoPow]
  by_cases h : p = q
  · subst h; simp [hp]
  · have h2 : ¬ q = p := fun z => h z.symm
    simp [h, h2]
theorem bt_0 (q : Nat) : bt' 0 q = false := by
  show (0#32).getLsbD q = false
  simp
theorem bt_m1 {q : Nat} (hq : q < 32) : bt' (-1) q = true := by
  have : ∀ q, q < 32 → bt' (-1) q = true := by decide +kernel
  exact this q hq
theorem or_0 (x : Int32) : x ||| 0 = x := by
  apply Int32.toBitVec_inj.mp
  show x.toBitVec ||| 0#32 = x.toBitVec
  simp
def fstB (el : Nat → Nat → Int64) (o : Nat) : Bool := el o 0 == 95
def lstB (sz : Nat → Nat) (el : Nat → Nat → Int64) (o : Nat) : Bool := el o (sz o - 1) == 95
def kindN (sz : Nat → Nat) (el : Nat → Nat → Int64) (o : Nat) : Nat := (if lstB sz el o = true then 1 else 0) + (if fstB el o = true then 2 else 0)
theorem kindN_le (sz : Nat → Nat) (el : Nat → Nat → Int64) (o : Nat) : kindN sz el o ≤ 3 := by
  unfold kindN
  split <;> split <;> omega
section RULES
variable {R_size : Nat → Int32} {R_elements : Nat → Int64} {R_operators : Int32} {no : Nat} {sz : Nat → Nat} {el : Nat → Nat → Int64}
theorem isHole_ok' (G : RG R_size R_elements R_operators no sz el) {o e : Nat} (ho : o < no) (he : e < sz o) : m_X4_isHole R_elements (nI o) (nI e) = some (bi (el o e = 95)) := by
  obtain ⟨hno, hn, hG⟩ := G
  obtain ⟨h1, h2, h3, h4⟩ := hG o ho
  rw [isHole_ok (by omega) (by omega), h4 e he]
theorem kind_ok (G : RG R_size R_elements R_operators no sz el) {o : Nat} (ho : o < no) : m_X4_kind R_size R_elements (nI o) = some (nI (kindN sz el o)) := by
  have G0 := G
  obtain ⟨hno, hn, hG⟩ := G
  obtain ⟨h1, h2, h3, h4⟩ := hG o ho
  unfold m_X4_kind
  rw [i_0, isHole_ok' G0 ho (by omega)]
  simp (disch := omega) only [ob_i, gd_nI, nI_cl, h1, i_1, pk_sub]
  rw [isHole_ok' G0 ho (by omega)]
  simp only [ob_i]
  rw [show (nI 0 : Int32) = 0 from rfl]
  simp only [bi_eq0]
  unfold kindN fstB lstB
  by_cases q1 : el o 0 = 95 <;> by_cases q2 : el o (sz o - 1) = 95 <;> simp [q1, q2] <;> rfl
theorem holes_ok (G : RG R_size R_elements R_operators no sz el) {o : Nat} (ho : o < no) : ∃ c, c ≤ sz o ∧ m_X4_holes R_size R_elements (nI o) = some (nI c) ∧ c = ((List.range (sz o)).filter (fun e => el o e == 95)).length := by
  have G0 := G
  obtain ⟨hno, hn, hG⟩ := G
  obtain ⟨h1, h2, h3, h4⟩ := hG o ho
  unfold m_X4_holes
  have h := lpP (fun n e (c : Nat) => m_X4_holes_4 R_size R_elements n (nI o) (nI c) (nI e)) (fun r => ∃ c, c ≤ sz o ∧ r = some (nI c) ∧ c = ((List.range (sz o)).filter (fun e => el o e == 95)).length) (sz o) (fun e c => c ≤ e ∧ c = ((List.range e).filter (fun e => el o e == 95)).length)
    (fun n c ⟨hc, hc2⟩ => by
      refine ⟨c, hc, ?_, hc2⟩
      show gd (nI o) 30 _ = _
      simp (disch := omega) only [gd_nI, nI_cl, h1, nI_le']
      rw [if_pos (Nat.le_refl _)])
    (fun n e c he ⟨hc, hc2⟩ => by
      refine Or.inr ⟨if el o e = 95 then c + 1 else c, ?_, ?_, ?_⟩
      · show gd (nI o) 30 _ = _
        simp (disch := omega) only [gd_nI, nI_cl, h1, nI_le']
        rw [if_neg (by omega), isHole_ok' G0 ho he]
        simp only [ob_i, bi_eq0]
        by_cases q : el o e = 95
        · rw [if_neg (by simpa using q), if_pos q]
          show m_X4_holes_4 _ _ _ _ (nI c + 1) (nI e + 1) = _
          rw [i_1, nI_add, nI_add]
        · rw [if_pos q, if_neg q]
          show m_X4_holes_4 _ _ _ _ (nI c) (nI e + 1) = _
          rw [i_1, nI_add]
      · split <;> omega
      · rw [List.range_succ, List.filter_append]
        by_cases q : el o e = 95
        · simp [q, hc2]
        · simp [q, hc2])
    (sz o) FU 0 0 (by omega) (by rw [FU_v]; omega) ⟨by omega, rfl⟩
  exact h
theorem takes_ok (G : RG R_size R_elements R_operators no sz el) {F Lt : Nat → Int32} {o e : Nat} (ho : o < no) (he : e < sz o) : m_X4_takes R_size F Lt (nI o) (nI e) = some (if e = 0 then F o else if e + 1 = sz o then Lt o else -1) := by
  obtain ⟨hno, hn, hG⟩ := G
  obtain ⟨h1, h2, h3, h4⟩ := hG o ho
  unfold m_X4_takes
  simp (disch := omega) only [i_0, i_1, gd_nI, nI_cl, h1, pk_sub, nI_eq']
  by_cases q : e = 0
  · rw [if_pos q, if_pos q]
  · rw [if_neg q, if_neg q]
    by_cases q2 : e + 1 = sz o
    · rw [if_pos (by omega), if_pos q2]
    · rw [if_neg (by omega), if_neg q2]
def lnB (sz : Nat → Nat) (el : Nat → Nat → Int64) (wy : Nat → Nat) (o k side : Nat) : Bool := kindN sz el o == k || (kindN sz el o == 3 && wy o == side)
theorem leans_ok (G : RG R_size R_elements R_operators no sz el) {R_way : Nat → Int32} {wy : Nat → Nat} (hw : ∀ o, o < no → R_way o = nI (wy o) ∧ wy o ≤ 2) {o k side : Nat} (ho : o < no) (hk : k ≤ 3) (hs : side ≤ 2) : m_X4_leans R_size R_way R_elements (nI o) (nI k) (nI side) = some (bi (lnB sz el wy o k side = true)) := by
  have hkn := kindN_le sz el o
  obtain ⟨hw1, hw2⟩ := hw o ho
  have hn : no ≤ 30 := G.2.1
  unfold m_X4_leans
  rw [kind_ok G ho]
  simp (disch := omega) only [ob_i, i_3, nI_eq', gd_nI, nI_cl, hw1]
  unfold lnB
  by_cases q : kindN sz el o = k
  · rw [if_pos q, bi_t (by simp [q])]
  · rw [if_neg q]
    by_cases q2 : kindN sz el o = 3
    · rw [if_pos q2]
      by_cases q3 : wy o = side
      · rw [if_pos q3, bi_t (by simp [q2, q3])]
      · rw [if_neg q3, bi_f (by simp [q, q3])]
    · rw [if_neg q2, bi_f (by simp [q, q2])]
end RULES
