/-! what the outer holes take, as bits -/
def tkA (ar : Nat → Nat → Bool) (hm : Nat → Nat) (sz : Nat → Nat) (el : Nat → Nat → Int64) (o p : Nat) : Bool := kindN sz el p == 0 || ar (hm o) (hm p)
def tkF (ar : Nat → Nat → Bool) (hm wy : Nat → Nat) (sz : Nat → Nat) (el : Nat → Nat → Int64) (o p : Nat) : Bool := tkA ar hm sz el o p || (hm o == hm p && lnB sz el wy o 2 1 && lnB sz el wy p 2 1)
def tkL (ar : Nat → Nat → Bool) (hm wy : Nat → Nat) (sz : Nat → Nat) (el : Nat → Nat → Int64) (o p : Nat) : Bool := tkA ar hm sz el o p || (hm o == hm p && lnB sz el wy o 1 2 && lnB sz el wy p 1 2)
/-- a mask's bits: so many operators, told by a predicate -/
def mkB (x : Int32) (n : Nat) (f : Nat → Bool) : Prop := ∀ q, q < 32 → bt' x q = (decide (q < n) && f q)
theorem mkB_0 (f : Nat → Bool) : mkB 0 0 f := fun q _ => by rw [bt_0]; simp
theorem mkB_t {x : Int32} {n : Nat} {f : Nat → Bool} (h : mkB x n f) (hn : n < 32) (hf : f n = true) : mkB (x ||| ((1 : Int32) <<< (nI n &&& 31))) (n + 1) f := by
  intro q hq
  rw [or_bit x hn hq, h q hq]
  by_cases h1 : q = n
  · subst h1; simp [hf]
  · by_cases h2 : q < n
    · simp [h1, h2, show q < n + 1 by omega]
    · simp [h1, h2, show ¬ q < n + 1 by omega]
theorem mkB_f {x : Int32} {n : Nat} {f : Nat → Bool} (h : mkB x n f) (hf : f n = false) : mkB x (n + 1) f := by
  intro q hq
  rw [h q hq]
  by_cases h1 : q = n
  · subst h1; simp [hf]
  · by_cases h2 : q < n
    · simp [h2, show q < n + 1 by omega]
    · simp [h2, show ¬ q < n + 1 by omega]
theorem mkB_uniq {x y : Int32} {n : Nat} {f : Nat → Bool} (h1 : mkB x n f) (h2 : mkB y n f) : x = y := by
  apply Int32.toBitVec_inj.mp
  apply BitVec.eq_of_getLsbD_eq
  intro i hi
  exact (h1 i hi).trans (h2 i hi).symm
set_option maxHeartbeats 1000000 in
theorem settle_ok {R_size : Nat → Int32} {R_elements : Nat → Int64} {R_operators : Int32} {no : Nat} {sz : Nat → Nat} {el : Nat → Nat → Int64} (G : RG R_size R_elements R_operators no sz el) {R_way R_home R_tighter : Nat → Int32} {wy hm : Nat → Nat} {ar : Nat → Nat → Bool} (hw : ∀ o, o < no → R_way o = nI (wy o) ∧ wy o ≤ 2) (hh : ∀ o, o < no → R_home o = nI (hm o) ∧ hm o < 16) (ht : ∀ a b, a < 16 → b < 16 → bt' (R_tighter a) b = ar a b) (F Lt : Nat → Int32) :
    ∃ F' L', m_X4_settle R_tighter R_size R_home R_way F Lt R_elements R_operators = some (F', L') ∧ ∀ o, o < no → mkB (F' o) no (tkF ar hm wy sz el o) ∧ mkB (L' o) no (tkL ar hm wy sz el o) := by
  have hno := G.1
  have hn : no ≤ 30 := G.2.1
  have inner : ∀ (k2 : (Nat → Int32) → (Nat → Int32) → Int32 → Option ((Nat → Int32) × (Nat → Int32))) (F Lt : Nat → Int32) (o : Nat), o < no → ∃ a b, m_X4_settle_17 R_operators R_tighter R_size R_home R_way R_elements k2 FU F Lt (nI o) 0 0 0 = k2 (upd F o a) (upd Lt o b) (nI (o + 1)) ∧ mkB a no (tkF ar hm wy sz el o) ∧ mkB b no (tkL ar hm wy sz el o) := by
    intro k2 F Lt o ho
    obtain ⟨ho1, ho2⟩ := hh o ho
    refine lpP (fun n p (s : Int32 × Int32) => m_X4_settle_17 R_operators R_tighter R_size R_home R_way R_elements k2 n F Lt (nI o) s.1 s.2 (nI p)) (fun r => ∃ a b, r = k2 (upd F o a) (upd Lt o b) (nI (o + 1)) ∧ mkB a no (tkF ar hm wy sz el o) ∧ mkB b no (tkL ar hm wy sz el o)) no (fun p s => mkB s.1 p (tkF ar hm wy sz el o) ∧ mkB s.2 p (tkL ar hm wy sz el o)) ?_ ?_ no FU 0 (0, 0) (by omega) (by rw [FU_v]; omega) ⟨mkB_0 _, mkB_0 _⟩
    · intro n s hs
      refine ⟨s.1, s.2, ?_, hs.1, hs.2⟩
      show (if R_operators ≤ nI no then _ else _) = _
      rw [hno, if_pos (by rw [nI_le' (by omega) (by omega)]; omega)]
      simp (disch := omega) only [gd_nI, nI_cl, i_1, nI_add]
    · intro n p s hp hs
      obtain ⟨hp1, hp2⟩ := hh p hp
      right
      have step : ∀ a b : Int32, mkB a (p + 1) (tkF ar hm wy sz el o) → mkB b (p + 1) (tkL ar hm wy sz el o) → m_X4_settle_17 R_operators R_tighter R_size R_home R_way R_elements k2 (n + 1) F Lt (nI o) s.1 s.2 (nI p) = m_X4_settle_17 R_operators R_tighter R_size R_home R_way R_elements k2 n F Lt (nI o) a b (nI p + 1) → ∃ s' : Int32 × Int32, m_X4_settle_17 R_operators R_tighter R_size R_home R_way R_elements k2 (n + 1) F Lt (nI o) s.1 s.2 (nI p) = m_X4_settle_17 R_operators R_tighter R_size R_home R_way R_elements k2 n F Lt (nI o) s'.1 s'.2 (nI (p + 1)) ∧ mkB s'.1 (p + 1) (tkF ar hm wy sz el o) ∧ mkB s'.2 (p + 1) (tkL ar hm wy sz el o) := by
        intro a b h1 h2 h3
        refine ⟨(a, b), ?_, h1, h2⟩
        rw [h3, i_1, nI_add]
      have e0 : m_X4_settle_17 R_operators R_tighter R_size R_home R_way R_elements k2 (n + 1) F Lt (nI o) s.1 s.2 (nI p) = m_X4_settle_17 R_operators R_tighter R_size R_home R_way R_elements k2 (n + 1) F Lt (nI o) s.1 s.2 (nI p) := rfl
      conv at e0 => rhs; unfold m_X4_settle_17
      rw [hno, if_neg (by rw [nI_le' (by omega) (by omega)]; omega), ← hno, kind_ok G hp] at e0
      have hkp := kindN_le sz el p
      simp (disch := omega) only [ob_i, gd_nI, nI_cl, ho1, hp1, hasBit_ok, ht, bi_eq0, nI_eq', nI_eq0'] at e0
      by_cases q0 : kindN sz el p = 0
      · rw [if_pos q0] at e0
        exact step _ _ (mkB_t hs.1 (by omega) (by simp [tkF, tkA, q0])) (mkB_t hs.2 (by omega) (by simp [tkL, tkA, q0])) e0
      · rw [if_neg q0] at e0
        by_cases q1 : ar (hm o) (hm p) = true
        · rw [if_neg (by simp [q1])] at e0
          exact step _ _ (mkB_t hs.1 (by omega) (by simp [tkF, tkA, q1])) (mkB_t hs.2 (by omega) (by simp [tkL, tkA, q1])) e0
        · rw [if_pos q1] at e0
          have q1' : ar (hm o) (hm p) = false := by simpa using q1
          by_cases q2 : hm o = hm p
          · rw [if_pos q2] at e0
            have l1 : m_X4_leans R_size R_way R_elements (nI o) 2 1 = some (bi (lnB sz el wy o 2 1 = true)) := leans_ok (k := 2) (side := 1) G hw ho (by omega) (by omega)
            have l2 : m_X4_leans R_size R_way R_elements (nI p) 2 1 = some (bi (lnB sz el wy p 2 1 = true)) := leans_ok (k := 2) (side := 1) G hw hp (by omega) (by omega)
            have l3 : m_X4_leans R_size R_way R_elements (nI o) 1 2 = some (bi (lnB sz el wy o 1 2 = true)) := leans_ok (k := 1) (side := 2) G hw ho (by omega) (by omega)
            have l4 : m_X4_leans R_size R_way R_elements (nI p) 1 2 = some (bi (lnB sz el wy p 1 2 = true)) := leans_ok (k := 1) (side := 2) G hw hp (by omega) (by omega)
            simp only [m_X4_settle_121, m_X4_settle_122, m_X4_settle_153, m_X4_settle_154, m_X4_settle_156, l1, l2, l3, l4, ob_i, bi_eq0] at e0
            by_cases a1 : lnB sz el wy o 2 1 = true <;> by_cases a2 : lnB sz el wy p 2 1 = true <;> by_cases a3 : lnB sz el wy o 1 2 = true <;> by_cases a4 : lnB sz el wy p 1 2 = true <;>
              (simp only [a1, a2, a3, a4, Bool.false_eq_true, not_true_eq_false, not_false_eq_true, if_true, if_false, or_0] at e0
               refine step _ _ ?_ ?_ e0
               · first | exact mkB_t hs.1 (by omega) (by simp [tkF, q2, a1, a2]) | exact mkB_f hs.1 (by simp [tkF, tkA, q0, q1', a1, a2])
               · first | exact mkB_t hs.2 (by omega) (by simp [tkL, q2, a3, a4]) | exact mkB_f hs.2 (by simp [tkL, tkA, q0, q1', a3, a4]))
          · rw [if_neg q2] at e0
            exact step _ _ (mkB_f hs.1 (by simp [tkF, tkA, q0, q1', q2])) (mkB_f hs.2 (by simp [tkL, tkA, q0, q1', q2])) e0
  unfold m_X4_settle
  refine lpP (fun n o (s : (Nat → Int32) × (Nat → Int32)) => m_X4_settle_2 R_operators R_tighter R_size R_home R_way R_elements n s.1 s.2 (nI o)) (fun r => ∃ F' L', r = some (F', L') ∧ ∀ o, o < no → mkB (F' o) no (tkF ar hm wy sz el o) ∧ mkB (L' o) no (tkL ar hm wy sz el o)) no (fun o s => ∀ z, z < o → mkB (s.1 z) no (tkF ar hm wy sz el z) ∧ mkB (s.2 z) no (tkL ar hm wy sz el z)) ?_ ?_ no FU 0 (F, Lt) (by omega) (by rw [FU_v]; omega) (fun z h => by omega)
  · intro n s hs
    refine ⟨s.1, s.2, ?_, hs⟩
    show (if R_operators ≤ nI no then _ else _) = _
    rw [hno, if_pos (by rw [nI_le' (by omega) (by omega)]; omega)]
  · intro n o s ho hs
    obtain ⟨a, b, h1, h2, h3⟩ := inner (m_X4_settle_2 R_operators R_tighter R_size R_home R_way R_elements n) s.1 s.2 o ho
    refine Or.inr ⟨(upd s.1 o a, upd s.2 o b), ?_, ?_⟩
    · show (if R_operators ≤ nI o then _ else _) = _
      rw [if_neg (by rw [hno, nI_le' (by omega) (by omega)]; omega)]
      exact h1
    · intro z hz
      by_cases hzo : z = o
      · subst hzo
        simp only [pk_us]
        exact ⟨h2, h3⟩
      · simp only [pk_un hzo]
        exact hs z (by omega)
