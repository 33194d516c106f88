/-! THE TWO SIDES: an operator is told -/
def badE (rw : Nat → Int64) (e : Nat) : Bool := decide (1 ≤ e) && (rw e == 95 && rw (e - 1) == 95)
def ptE (rw : Nat → Int64) (e : Nat) : Bool := !(rw e == 95)
def rowB (c : Nat) (rw : Nat → Int64) : Bool := decide (1 ≤ c ∧ c ≤ 9) && (!(anyB (badE rw) 0 c) && anyB (ptE rw) 0 c)
theorem anyB_s (p : Nat → Bool) (k : Nat) : anyB p 0 (k + 1) = (anyB p 0 k || p k) := by
  rw [Bool.eq_iff_iff, Bool.or_eq_true, anyB_iff, anyB_iff]
  constructor
  · intro ⟨i, h1, h2, h3⟩
    by_cases z : i = k
    · right; rw [← z]; exact h3
    · exact Or.inl ⟨i, h1, by omega, h3⟩
  · intro h
    rcases h with ⟨i, h1, h2, h3⟩ | h
    · exact ⟨i, h1, by omega, h3⟩
    · exact ⟨k, by omega, by omega, h⟩
theorem lat_w {W : Nat → Int64} {l : List Int64} (h : lat W l) {k : Nat} (hk : k < l.length) : W k = wOf l k := by
  unfold wOf
  rw [h k hk]; rfl
theorem opRow_ok {W : Nat → Int64} {l : List Int64} (h : lat W l) (hl : l.length ≤ 750) : m_X8_isOperatorRow 750 W (nI l.length) = some (bi (rowB l.length (wOf l) = true)) := by
  unfold m_X8_isOperatorRow
  by_cases q1 : l.length < 1
  · rw [if_pos (by rw [i_1, nI_lt' (by omega) (by omega)]; exact q1), bi_f]
    unfold rowB
    rw [Bool.and_eq_true]
    intro z
    have := z.1
    simp at this
    omega
  · rw [if_neg (by rw [i_1, nI_lt' (by omega) (by omega)]; exact q1)]
    by_cases q2 : l.length ≤ 9
    · rw [if_pos (by rw [i_9, nI_le' (by omega) (by omega)]; exact q2)]
      have hr : rowB l.length (wOf l) = (!(anyB (badE (wOf l)) 0 l.length) && anyB (ptE (wOf l)) 0 l.length) := by
        unfold rowB
        have : decide (1 ≤ l.length ∧ l.length ≤ 9) = true := by simp; omega
        rw [this, Bool.true_and]
      have loop := lpP (σ := Bool) (fun n k f => m_X8_isOperatorRow_17 750 W n (nI l.length) (bi (f = true)) (nI k)) (fun r => r = some (bi (rowB l.length (wOf l) = true))) l.length (fun k f => anyB (badE (wOf l)) 0 k = false ∧ f = anyB (ptE (wOf l)) 0 k)
        (fun n f hf => by
          have e0 : m_X8_isOperatorRow_17 750 W (n + 1) (nI l.length) (bi (f = true)) (nI l.length) = m_X8_isOperatorRow_17 750 W (n + 1) (nI l.length) (bi (f = true)) (nI l.length) := rfl
          conv at e0 => rhs; unfold m_X8_isOperatorRow_17
          rw [if_pos (by rw [nI_le' (by omega) (by omega)]; omega), gb_bi] at e0
          rw [e0, hr, hf.1, hf.2]; rfl)
        (fun n k f hk hf => by
          have e0 : m_X8_isOperatorRow_17 750 W (n + 1) (nI l.length) (bi (f = true)) (nI k) = m_X8_isOperatorRow_17 750 W (n + 1) (nI l.length) (bi (f = true)) (nI k) := rfl
          conv at e0 => rhs; unfold m_X8_isOperatorRow_17
          unfold m_X8_isOperatorRow_55 at e0
          rw [if_neg (by rw [nI_le' (by omega) (by omega)]; omega), gd_nI (by omega) (by omega), nI_cl (by omega), lat_w h hk, nI_1] at e0
          by_cases z : wOf l k = 95
          · rw [if_pos ((lg_cmp_eq _ _).mpr z)] at e0
            have hp : ptE (wOf l) k = false := by unfold ptE; rw [z]; rfl
            by_cases z0 : k = 0
            · rw [if_pos (by rw [nI_le0' (by omega)]; omega)] at e0
              right
              refine ⟨f, e0, ?_, ?_⟩
              · rw [anyB_s, hf.1]
                unfold badE
                have : decide (1 ≤ k) = false := by simp; omega
                rw [this]; rfl
              · rw [anyB_s, hp, Bool.or_false]; exact hf.2
            · obtain ⟨m, hm⟩ : ∃ m, k = m + 1 := ⟨k - 1, by omega⟩
              rw [if_neg (by rw [nI_le0' (by omega)]; omega), hm, nI_pred, gd_nI (by omega) (by omega), nI_cl (by omega), lat_w h (by omega)] at e0
              by_cases z1 : wOf l m = 95
              · rw [if_pos ((lg_cmp_eq _ _).mpr z1)] at e0
                left
                rw [hm, e0, bi_f]
                rw [hr, Bool.and_eq_true]
                intro y
                have hb : anyB (badE (wOf l)) 0 l.length = true := anyB_iff.mpr ⟨k, by omega, by omega, by
                  unfold badE
                  rw [z, hm, Nat.add_sub_cancel, z1]
                  simp⟩
                rw [hb] at y
                exact absurd y.1 (by decide)
              · rw [if_neg (fun y => z1 ((lg_cmp_eq _ _).mp y))] at e0
                right
                rw [← hm] at e0
                refine ⟨f, e0, ?_, ?_⟩
                · rw [anyB_s, hf.1]
                  unfold badE
                  rw [hm, Nat.add_sub_cancel]
                  simp [z1]
                · rw [anyB_s, hp, Bool.or_false]; exact hf.2
          · rw [if_neg (fun y => z ((lg_cmp_eq _ _).mp y))] at e0
            right
            refine ⟨true, e0, ?_, ?_⟩
            · rw [anyB_s, hf.1]
              unfold badE
              simp [z]
            · rw [anyB_s]
              unfold ptE
              simp [z])
        l.length FU 0 false (by omega) (by rw [FU_v]; omega) ⟨rfl, rfl⟩
      exact loop
    · rw [if_neg (by rw [i_9, nI_le' (by omega) (by omega)]; exact q2), bi_f]
      unfold rowB
      rw [Bool.and_eq_true]
      intro z
      have := z.1
      simp at this
      omega
theorem mRow_ok {W : Nat → Int64} {l : List Int64} (h : lat W l) (hl : l.length ≤ 750) : m_X9_isRow W (nI l.length) = some (bi (rowB l.length (wOf l) = true)) := by
  unfold m_X9_isRow
  have no0 : ∀ (n k : Nat) (f : Int32), m_X9_isRow_26 (nI l.length) W (n + 1) 0 f (nI k) = some 0 := by
    intro n k f
    have e0 : m_X9_isRow_26 (nI l.length) W (n + 1) 0 f (nI k) = m_X9_isRow_26 (nI l.length) W (n + 1) 0 f (nI k) := rfl
    conv at e0 => rhs; unfold m_X9_isRow_26
    unfold m_X9_isRow_105 at e0
    rw [if_pos rfl, if_pos rfl] at e0
    rw [e0]
    split <;> rfl
  have bad : m_X9_isRow_20 (nI l.length) W = some 0 := no0 65535 0 0
  by_cases q1 : l.length < 1
  · rw [if_pos (by rw [nI_le0' (by omega)]; omega), bad, bi_f]
    unfold rowB
    rw [Bool.and_eq_true]
    intro z
    have := z.1
    simp at this
    omega
  · rw [if_neg (by rw [nI_le0' (by omega)]; omega)]
    by_cases q2 : l.length ≤ 9
    · rw [if_neg (by rw [i_10, nI_le' (by omega) (by omega)]; omega)]
      have hr : rowB l.length (wOf l) = (!(anyB (badE (wOf l)) 0 l.length) && anyB (ptE (wOf l)) 0 l.length) := by
        unfold rowB
        have : decide (1 ≤ l.length ∧ l.length ≤ 9) = true := by simp; omega
        rw [this, Bool.true_and]
      unfold m_X9_isRow_21
      have loop := lpP (σ := Bool) (fun n k f => m_X9_isRow_26 (nI l.length) W (n + 1) 1 (bi (f = true)) (nI k)) (fun r => r = some (bi (rowB l.length (wOf l) = true))) l.length (fun k f => anyB (badE (wOf l)) 0 k = false ∧ f = anyB (ptE (wOf l)) 0 k)
        (fun n f hf => by
          have e0 : m_X9_isRow_26 (nI l.length) W (n + 1 + 1) 1 (bi (f = true)) (nI l.length) = m_X9_isRow_26 (nI l.length) W (n + 1 + 1) 1 (bi (f = true)) (nI l.length) := rfl
          conv at e0 => rhs; unfold m_X9_isRow_26
          unfold m_X9_isRow_105 at e0
          rw [if_pos (by rw [nI_le' (by omega) (by omega)]; omega), if_neg (by decide)] at e0
          rw [e0, hr, hf.1, ← hf.2]
          cases f <;> rfl)
        (fun n k f hk hf => by
          have e0 : m_X9_isRow_26 (nI l.length) W (n + 1 + 1) 1 (bi (f = true)) (nI k) = m_X9_isRow_26 (nI l.length) W (n + 1 + 1) 1 (bi (f = true)) (nI k) := rfl
          conv at e0 => rhs; unfold m_X9_isRow_26
          unfold m_X9_isRow_55 at e0
          rw [if_neg (by rw [nI_le' (by omega) (by omega)]; omega), if_neg (by decide), gd_nI (by omega) (by omega), nI_cl (by omega), lat_w h hk] at e0
          -- the word is a part, or not
          have e1 : m_X9_isRow_26 (nI l.length) W (n + 1 + 1) 1 (bi (f = true)) (nI k) = m_X9_isRow_60 (nI l.length) W (m_X9_isRow_26 (nI l.length) W (n + 1)) (nI k) (bi ((f || ptE (wOf l) k) = true)) := by
            rw [e0]
            unfold ptE
            cases f with
            | true => rw [if_neg (by decide)]; rfl
            | false =>
              rw [if_pos (by decide)]
              by_cases z : wOf l k = 95
              · rw [if_pos ((lg_cmp_eq _ _).mpr z), z]; rfl
              · have : (wOf l k == 95) = false := by simpa using z
                rw [if_neg (fun y => z ((lg_cmp_eq _ _).mp y)), this]; rfl
          rw [e1]
          have e98 : ∀ x y : Int32, m_X9_isRow_98 (nI l.length) W (m_X9_isRow_26 (nI l.length) W (n + 1)) x (nI k) y = m_X9_isRow_26 (nI l.length) W (n + 1) y x (nI (k + 1)) := by
            intro x y
            unfold m_X9_isRow_98
            rw [nI_1]
          unfold m_X9_isRow_60 m_X9_isRow_93
          rw [e98, e98, gd_nI (by omega) (by omega), nI_cl (by omega), lat_w h hk]
          have hfp : (f || ptE (wOf l) k) = anyB (ptE (wOf l)) 0 (k + 1) := by rw [anyB_s, hf.2]
          by_cases z0 : k = 0
          · rw [if_pos (by rw [z0]; rfl)]
            right
            refine ⟨_, rfl, ?_, hfp⟩
            rw [anyB_s, hf.1]
            unfold badE
            have : decide (1 ≤ k) = false := by simp; omega
            rw [this]; rfl
          · rw [if_neg (by rw [nI_eq0' (by omega)]; exact z0)]
            by_cases z : wOf l k = 95
            · rw [if_pos ((lg_cmp_eq _ _).mpr z)]
              obtain ⟨m, hm⟩ : ∃ m, k = m + 1 := ⟨k - 1, by omega⟩
              have hk1 : nI k - 1 = nI m := by rw [hm, nI_pred]
              rw [hk1, gd_nI (by omega) (by omega), nI_cl (by omega), lat_w h (by omega)]
              by_cases z1 : wOf l m = 95
              · rw [if_pos ((lg_cmp_eq _ _).mpr z1), no0]
                left
                rw [bi_f]
                rw [hr, Bool.and_eq_true]
                intro y
                have hb : anyB (badE (wOf l)) 0 l.length = true := anyB_iff.mpr ⟨k, by omega, by omega, by
                  unfold badE
                  rw [z, hm, Nat.add_sub_cancel, z1]
                  simp⟩
                rw [hb] at y
                exact absurd y.1 (by decide)
              · rw [if_neg (fun y => z1 ((lg_cmp_eq _ _).mp y))]
                right
                refine ⟨_, rfl, ?_, hfp⟩
                rw [anyB_s, hf.1]
                unfold badE
                rw [hm, Nat.add_sub_cancel]
                simp [z1]
            · rw [if_neg (fun y => z ((lg_cmp_eq _ _).mp y))]
              right
              refine ⟨_, rfl, ?_, hfp⟩
              rw [anyB_s, hf.1]
              unfold badE
              simp [z])
        l.length 65535 0 false (by omega) (by omega) ⟨rfl, rfl⟩
      exact loop
    · rw [if_pos (by rw [i_10, nI_le' (by omega) (by omega)]; omega), bad, bi_f]
      unfold rowB
      rw [Bool.and_eq_true]
      intro z
      have := z.1
      simp at this
      omega
theorem mLike_ok {C : Nat → Int32} {E : Nat → Int64} {no : Nat} {sz : Nat → Nat} {el : Nat → Nat → Int64} {O : Int32} (G : RG C E O no sz el) {W : Nat → Int64} {l : List Int64} (h : lat W l) (hl : l.length ≤ 750) (hl1 : 1 ≤ l.length) {o : Nat} (ho : o < no) : m_X9_isLike E C W (nI l.length) (nI o) = some (bi ((sz o == l.length && isAtB sz el (wOf l) o 0) = true)) := by
  have hno : no ≤ 30 := G.2.1
  obtain ⟨g1, g2, g3, g4⟩ := G.2.2 o ho
  unfold m_X9_isLike m_X9_isLike_18
  rw [gd_nI (by omega) (by omega), nI_cl (by omega), g1]
  have no0 : ∀ (n e : Nat), m_X9_isLike_21 (nI l.length) E C W (n + 1) (nI o) 0 (nI e) = some 0 := by
    intro n e
    have e0 : m_X9_isLike_21 (nI l.length) E C W (n + 1) (nI o) 0 (nI e) = m_X9_isLike_21 (nI l.length) E C W (n + 1) (nI o) 0 (nI e) := rfl
    conv at e0 => rhs; unfold m_X9_isLike_21
    rw [gb_0, if_pos rfl] at e0
    rw [e0]
    split <;> rfl
  by_cases q : sz o = l.length
  · rw [if_pos (by rw [q])]
    have hl := lpS (fun i e => m_X9_isLike_21 (nI l.length) E C W (i + 1) (nI o) 1 (nI e)) (sz o) (fun e => !(el o e == wOf l (0 + e))) (fun _ => some 0) (some 1)
      (fun i => by
        have e0 : m_X9_isLike_21 (nI l.length) E C W (i + 1 + 1) (nI o) 1 (nI (sz o)) = m_X9_isLike_21 (nI l.length) E C W (i + 1 + 1) (nI o) 1 (nI (sz o)) := rfl
        conv at e0 => rhs; unfold m_X9_isLike_21
        rw [if_pos (by rw [q, nI_le' (by omega) (by omega)]; omega), gb_1] at e0
        exact e0)
      (fun i e he => by
        have e0 : m_X9_isLike_21 (nI l.length) E C W (i + 1 + 1) (nI o) 1 (nI e) = m_X9_isLike_21 (nI l.length) E C W (i + 1 + 1) (nI o) 1 (nI e) := rfl
        conv at e0 => rhs; unfold m_X9_isLike_21
        unfold m_X9_isLike_59 at e0
        rw [if_neg (by rw [nI_le' (by omega) (by omega)]; omega), if_neg (by decide), i_9, pk_mul, nI_add, gd_nI (by omega) (by omega), gd_nI (by omega) (by omega), nI_cl (by omega), nI_cl (by omega), Nat.mul_comm 9 o, g4 e he, lat_w h (by omega), nI_1, no0 i (e + 1)] at e0
        refine e0.trans ?_
        rw [Nat.zero_add]
        by_cases z : el o e = wOf l e
        · rw [if_pos ((lg_cmp_eq _ _).mpr z), if_neg (by simp [z])]
        · rw [if_neg (fun y => z ((lg_cmp_eq _ _).mp y)), if_pos (by simpa using z)])
      (sz o) 65535 0 (by omega) (by omega)
    refine (hl.trans elim_any).trans ?_
    unfold isAtB
    have e1 : (sz o == l.length) = true := by simpa using q
    rw [e1, Bool.true_and]
    by_cases hc : anyB (fun e => !(el o e == wOf l (0 + e))) 0 (sz o) = true
    · rw [if_pos hc, bi_f (by rw [hc]; decide)]
    · rw [if_neg hc, bi_t (by rw [Bool.not_eq_true] at hc; rw [hc]; rfl)]
  · rw [if_neg (by rw [nI_eq' (by omega) (by omega)]; exact q)]
    have e1 : (sz o == l.length) = false := by simpa using q
    rw [e1, Bool.false_and, bi_f (by decide)]
    exact no0 65535 0
