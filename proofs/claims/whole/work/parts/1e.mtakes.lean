/-! the reference's masks -/
theorem mkB_or {x y : Int32} {n : Nat} {f g : Nat → Bool} (h1 : mkB x n f) (h2 : mkB y n g) : mkB (x ||| y) n (fun q => f q || g q) := by
  intro q hq
  rw [orR, h1 q hq, h2 q hq]
  cases decide (q < n) <;> simp
theorem mkB_congr {x : Int32} {n : Nat} {f g : Nat → Bool} (h : mkB x n f) (e : ∀ q, q < n → f q = g q) : mkB x n g := by
  intro q hq
  rw [h q hq]
  by_cases hn : q < n
  · rw [e q hn]
  · simp [hn]
set_option maxHeartbeats 2000000 in
theorem findTakes_ok {C : Nat → Int32} {E : Nat → Int64} {O : Int32} {no : Nat} {sz : Nat → Nat} {el : Nat → Nat → Int64} (G : RG C E O no sz el) {Wy Nd Ti : Nat → Int32} {wy hm : Nat → Nat} {ar : Nat → Nat → Bool} (hw : ∀ o, o < no → Wy o = nI (wy o) ∧ wy o ≤ 2) (hh : ∀ o, o < no → Nd o = nI (hm o) ∧ hm o < 16) (ht : ∀ a b, a < 16 → b < 16 → Ti (16 * a + b) = bi (ar a b = true)) (Tk : Nat → Int32) :
    ∃ Tk', m_X9_findTakes Ti O E C Nd Wy Tk = some Tk' ∧ Tk' 0 = -1 ∧ ∀ o, o < no → mkB (Tk' (1 + 2 * o)) no (tkF ar hm wy sz el o) ∧ mkB (Tk' (2 + 2 * o)) no (tkL ar hm wy sz el o) := by
  have hno := G.1
  have hn : no ≤ 30 := G.2.1
  have inner : ∀ (k9 : (Nat → Int32) → Int32 → Option (Nat → Int32)) (Tk : Nat → Int32) (o : Nat), o < no → ∃ a b, m_X9_findTakes_27 O Ti E C Nd Wy k9 FU Tk (nI o) 0 0 0 0 = k9 (upd (upd Tk (1 + 2 * o) a) (2 + 2 * o) b) (nI (o + 1)) ∧ mkB a no (tkF ar hm wy sz el o) ∧ mkB b no (tkL ar hm wy sz el o) := by
    intro k9 Tk o ho
    obtain ⟨ho1, ho2⟩ := hh o ho
    refine lpP (fun n p (s : Int32 × Int32 × Int32) => m_X9_findTakes_27 O Ti E C Nd Wy k9 n Tk (nI o) s.1 s.2.1 s.2.2 (nI p)) (fun r => ∃ a b, r = k9 (upd (upd Tk (1 + 2 * o) a) (2 + 2 * o) b) (nI (o + 1)) ∧ mkB a no (tkF ar hm wy sz el o) ∧ mkB b no (tkL ar hm wy sz el o)) no (fun p s => mkB s.1 p (tkA ar hm sz el o) ∧ mkB s.2.1 p (fun q => hm o == hm q && lnB sz el wy o 2 1 && lnB sz el wy q 2 1) ∧ mkB s.2.2 p (fun q => hm o == hm q && lnB sz el wy o 1 2 && lnB sz el wy q 1 2)) ?_ ?_ no FU 0 (0, 0, 0) (by omega) (by rw [FU_v]; omega) ⟨mkB_0 _, mkB_0 _, mkB_0 _⟩
    · intro n s hs
      refine ⟨s.1 ||| s.2.1, s.1 ||| s.2.2, ?_, mkB_or hs.1 hs.2.1, mkB_or hs.1 hs.2.2⟩
      show (if O ≤ nI no then (gd (1 + (2 * nI o)) 61 (gd (2 + (2 * nI o)) 61 (k9 (upd (upd Tk (1 + (2 * nI o)).toNatClampNeg (s.1 ||| s.2.1)) (2 + (2 * nI o)).toNatClampNeg (s.1 ||| s.2.2)) (nI o + 1)))) else _) = _
      rw [hno, if_pos (by rw [nI_le' (by omega) (by omega)]; omega)]
      simp (disch := omega) only [i_1, i_2, pk_mul, nI_add, gd_nI, nI_cl]
    · intro n p s hp hs
      obtain ⟨hp1, hp2⟩ := hh p hp
      right
      obtain ⟨x2, x3, x4⟩ := s
      obtain ⟨s1, s2, s3⟩ := hs
      dsimp only at s1 s2 s3 ⊢
      -- behind the first mask
      have tail : ∀ y : Int32, mkB (x2 ||| y) (p + 1) (tkA ar hm sz el o) → ∃ s' : Int32 × Int32 × Int32, m_X9_findTakes_91 O Ti E C Nd Wy k9 (m_X9_findTakes_27 O Ti E C Nd Wy k9 n) Tk (nI o) x3 x4 (nI p) y x2 = m_X9_findTakes_27 O Ti E C Nd Wy k9 n Tk (nI o) s'.1 s'.2.1 s'.2.2 (nI (p + 1)) ∧ mkB s'.1 (p + 1) (tkA ar hm sz el o) ∧ mkB s'.2.1 (p + 1) (fun q => hm o == hm q && lnB sz el wy o 2 1 && lnB sz el wy q 2 1) ∧ mkB s'.2.2 (p + 1) (fun q => hm o == hm q && lnB sz el wy o 1 2 && lnB sz el wy q 1 2) := by
        intro y hy
        have step : ∀ (t : Option (Nat → Int32)) (b c : Int32), mkB b (p + 1) (fun q => hm o == hm q && lnB sz el wy o 2 1 && lnB sz el wy q 2 1) → mkB c (p + 1) (fun q => hm o == hm q && lnB sz el wy o 1 2 && lnB sz el wy q 1 2) → t = m_X9_findTakes_27 O Ti E C Nd Wy k9 n Tk (nI o) (x2 ||| y) b c (nI p + 1) → ∃ s' : Int32 × Int32 × Int32, t = m_X9_findTakes_27 O Ti E C Nd Wy k9 n Tk (nI o) s'.1 s'.2.1 s'.2.2 (nI (p + 1)) ∧ mkB s'.1 (p + 1) (tkA ar hm sz el o) ∧ mkB s'.2.1 (p + 1) (fun q => hm o == hm q && lnB sz el wy o 2 1 && lnB sz el wy q 2 1) ∧ mkB s'.2.2 (p + 1) (fun q => hm o == hm q && lnB sz el wy o 1 2 && lnB sz el wy q 1 2) := by
          intro t b c h1 h2 h3
          refine ⟨(x2 ||| y, b, c), ?_, hy, h1, h2⟩
          rw [h3, nI_1]
        have l1 := mLeft_ok G hw ho
        have l2 := mLeft_ok G hw hp
        have l3 := mRight_ok G hw ho
        have l4 := mRight_ok G hw hp
        have e1 : m_X9_findTakes_91 O Ti E C Nd Wy k9 (m_X9_findTakes_27 O Ti E C Nd Wy k9 n) Tk (nI o) x3 x4 (nI p) y x2 = m_X9_findTakes_91 O Ti E C Nd Wy k9 (m_X9_findTakes_27 O Ti E C Nd Wy k9 n) Tk (nI o) x3 x4 (nI p) y x2 := rfl
        conv at e1 => rhs; unfold m_X9_findTakes_91
        simp (disch := omega) only [gd_nI, nI_cl, ho1, hp1, nI_eq'] at e1
        by_cases q2 : hm p = hm o
        · rw [if_pos q2] at e1
          simp only [m_X9_findTakes_114, m_X9_findTakes_146, m_X9_findTakes_147, m_X9_findTakes_180, m_X9_findTakes_181, if_neg (by decide : ¬ (1 : Int32) = 0), l1, l2, l3, l4, ob_i, bi_eq0] at e1
          by_cases a1 : lnB sz el wy o 2 1 = true <;> by_cases a2 : lnB sz el wy p 2 1 = true <;> by_cases a3 : lnB sz el wy o 1 2 = true <;> by_cases a4 : lnB sz el wy p 1 2 = true <;>
            (simp only [a1, a2, a3, a4, Bool.false_eq_true, not_true_eq_false, not_false_eq_true, if_true, if_false, or_0] at e1
             refine step _ _ _ ?_ ?_ e1
             · first | exact mkB_t s2 (by omega) (by simp [q2, a1, a2]) | exact mkB_f s2 (by simp [a1, a2])
             · first | exact mkB_t s3 (by omega) (by simp [q2, a3, a4]) | exact mkB_f s3 (by simp [a3, a4]))
        · rw [if_neg q2] at e1
          have q2' : ¬ hm o = hm p := fun z => q2 z.symm
          simp only [m_X9_findTakes_114, m_X9_findTakes_146, m_X9_findTakes_147, m_X9_findTakes_180, m_X9_findTakes_181, if_true, or_0] at e1
          exact step _ _ _ (mkB_f s2 (by simp [q2'])) (mkB_f s3 (by simp [q2'])) e1
      have hkp := kindN_le sz el p
      have e0 : m_X9_findTakes_27 O Ti E C Nd Wy k9 (n + 1) Tk (nI o) x2 x3 x4 (nI p) = (if O ≤ nI p then _ else (Option.bind (m_X9_shape E C (nI p)) (fun r_22 => if r_22 = 0 then (m_X9_findTakes_70 O Ti E C Nd Wy k9 (m_X9_findTakes_27 O Ti E C Nd Wy k9 n) Tk (nI o) x2 x3 x4 (nI p)) else (gd (nI o) 30 (gd (nI p) 30 (gd ((16 * (Nd (nI o).toNatClampNeg)) + (Nd (nI p).toNatClampNeg)) 256 (if (Ti ((16 * (Nd (nI o).toNatClampNeg)) + (Nd (nI p).toNatClampNeg)).toNatClampNeg) = 0 then (m_X9_findTakes_75 O Ti E C Nd Wy k9 (m_X9_findTakes_27 O Ti E C Nd Wy k9 n) Tk (nI o) x2 x3 x4 (nI p) 0) else (m_X9_findTakes_70 O Ti E C Nd Wy k9 (m_X9_findTakes_27 O Ti E C Nd Wy k9 n) Tk (nI o) x2 x3 x4 (nI p)))))))) ) := rfl
      rw [if_neg (by rw [hno, nI_le' (by omega) (by omega)]; omega), mShape_ok G hp] at e0
      simp (disch := omega) only [ob_i, i_16, nI_eq', nI_eq0', gd_nI, nI_cl, ho1, hp1, pk_mul, nI_add, ht, bi_eq0] at e0
      have t70 : m_X9_findTakes_70 O Ti E C Nd Wy k9 (m_X9_findTakes_27 O Ti E C Nd Wy k9 n) Tk (nI o) x2 x3 x4 (nI p) = m_X9_findTakes_91 O Ti E C Nd Wy k9 (m_X9_findTakes_27 O Ti E C Nd Wy k9 n) Tk (nI o) x3 x4 (nI p) (1 <<< (nI p &&& 31)) x2 := by
        unfold m_X9_findTakes_70 m_X9_findTakes_75
        rw [if_neg (by decide)]
      have t75 : m_X9_findTakes_75 O Ti E C Nd Wy k9 (m_X9_findTakes_27 O Ti E C Nd Wy k9 n) Tk (nI o) x2 x3 x4 (nI p) 0 = m_X9_findTakes_91 O Ti E C Nd Wy k9 (m_X9_findTakes_27 O Ti E C Nd Wy k9 n) Tk (nI o) x3 x4 (nI p) 0 x2 := by
        unfold m_X9_findTakes_75
        rw [if_pos rfl]
      rw [t70, t75] at e0
      by_cases q0 : kindN sz el p = 0
      · rw [if_pos q0] at e0
        rw [e0]
        exact tail _ (mkB_t s1 (by omega) (by simp [tkA, q0]))
      · rw [if_neg q0] at e0
        by_cases q1 : ar (hm o) (hm p) = true
        · rw [if_neg (by simpa using q1)] at e0
          rw [e0]
          exact tail _ (mkB_t s1 (by omega) (by simp [tkA, q1]))
        · rw [if_pos q1] at e0
          rw [e0]
          refine tail 0 ?_
          rw [or_0]
          exact mkB_f s1 (by simp [tkA, q0, q1])
  unfold m_X9_findTakes
  have h := lpP (fun n o (s : Nat → Int32) => m_X9_findTakes_9 O Ti E C Nd Wy n s (nI o)) (fun r => ∃ Tk', r = some Tk' ∧ Tk' 0 = -1 ∧ ∀ o, o < no → mkB (Tk' (1 + 2 * o)) no (tkF ar hm wy sz el o) ∧ mkB (Tk' (2 + 2 * o)) no (tkL ar hm wy sz el o)) no (fun o s => s 0 = -1 ∧ ∀ z, z < o → mkB (s (1 + 2 * z)) no (tkF ar hm wy sz el z) ∧ mkB (s (2 + 2 * z)) no (tkL ar hm wy sz el z)) ?_ ?_ no FU 0 (upd Tk 0 (-1)) (by omega) (by rw [FU_v]; omega) ⟨pk_us, fun z h => by omega⟩
  · have e : m_X9_findTakes_9 O Ti E C Nd Wy FU (upd Tk (0 : Int32).toNatClampNeg (-1)) 0 = m_X9_findTakes_9 O Ti E C Nd Wy FU (upd Tk 0 (-1)) (nI 0) := rfl
    rw [i_0, gd_nI (by omega) (by omega)]
    exact h
  · intro n s hs
    refine ⟨s, ?_, hs.1, hs.2⟩
    show (if O ≤ nI no then _ else _) = _
    rw [hno, if_pos (by rw [nI_le' (by omega) (by omega)]; omega)]
  · intro n o s ho hs
    obtain ⟨a, b, h1, h2, h3⟩ := inner (m_X9_findTakes_9 O Ti E C Nd Wy n) s o ho
    refine Or.inr ⟨upd (upd s (1 + 2 * o) a) (2 + 2 * o) b, ?_, ?_, ?_⟩
    · show (if O ≤ nI o then _ else _) = _
      rw [if_neg (by rw [hno, nI_le' (by omega) (by omega)]; omega)]
      exact h1
    · rw [pk_un (by omega), pk_un (by omega)]
      exact hs.1
    · intro z hz
      by_cases hzo : z = o
      · subst hzo
        rw [pk_us, pk_un (by omega), pk_us]
        exact ⟨h2, h3⟩
      · rw [pk_un (by omega), pk_un (by omega), pk_un (by omega), pk_un (by omega)]
        exact hs.2 z (by omega)
