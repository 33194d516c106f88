/-! feed: bytes come behind the text -/
theorem low8 (x y : Int32) (h : ∀ i, i < 8 → x.toBitVec.getLsbD i = y.toBitVec.getLsbD i) : x.toInt8 = y.toInt8 := by
  apply Int8.toBitVec_inj.mp
  show x.toBitVec.signExtend 8 = y.toBitVec.signExtend 8
  apply BitVec.eq_of_getLsbD_eq
  intro i hi
  rw [BitVec.getLsbD_signExtend, BitVec.getLsbD_signExtend]
  simp only [hi, decide_true, Bool.true_and, show i < 32 by omega, if_true]
  exact h i hi
theorem sh8 : ∀ k, k < 8 → (((8 : Int32) * nI k).toInt64 &&& 63).toBitVec.smod 64 = BitVec.ofNat 64 (8 * k) ∧ ((((8 : Int32) * nI k).toInt64.toUInt64 &&& Int64.toUInt64 63).toBitVec % 64).toNat = 8 * k := by decide +kernel
theorem byte_ok (v : Int64) {k : Nat} (hk : k < 8) : ∃ b, b < 256 ∧ ((v >>> ((8 * nI k).toInt64 &&& 63)).toInt32 &&& 255) = nI b ∧ vp_nar .byte ((((v.toUInt64 >>> ((8 * nI k).toInt64.toUInt64 &&& Int64.toUInt64 63)).toInt64).toInt32).toInt8.toInt32) = (nI b).toInt8.toInt32 := by
  obtain ⟨s1, s2⟩ := sh8 k hk
  obtain ⟨b, hb, eb⟩ := pk_andE (v >>> ((8 * nI k).toInt64 &&& 63)).toInt32 (m := 255) 8 (by decide)
  refine ⟨b, by omega, eb, ?_⟩
  rw [pk_vb, ← eb]
  apply congrArg Int8.toInt32
  apply low8
  intro i hi
  have e1 : ((v >>> ((8 * nI k).toInt64 &&& 63)).toInt32 &&& 255).toBitVec.getLsbD i = v.toBitVec.getLsbD (8 * k + i) := by
    show ((v >>> ((8 * nI k).toInt64 &&& 63)).toInt32.toBitVec &&& (255 : Int32).toBitVec).getLsbD i = _
    rw [BitVec.getLsbD_and]
    have h255 : (255 : Int32).toBitVec.getLsbD i = true := by
      have : ∀ i, i < 8 → (255 : Int32).toBitVec.getLsbD i = true := by decide
      exact this i hi
    rw [h255, Bool.and_true]
    show ((v.toBitVec.sshiftRight' ((((8 : Int32) * nI k).toInt64 &&& 63).toBitVec.smod 64)).signExtend 32).getLsbD i = _
    rw [s1, BitVec.getLsbD_signExtend, BitVec.sshiftRight']
    have : (BitVec.ofNat 64 (8 * k)).toNat = 8 * k := by simp; omega
    rw [this]
    simp only [show i < 32 by omega, show i < 64 by omega, decide_true, Bool.true_and, if_true]
    rw [BitVec.getLsbD_sshiftRight]
    simp [show 8 * k + i < 64 by omega, show i < 64 by omega]
  have e2 : ((v.toUInt64 >>> ((8 * nI k).toInt64.toUInt64 &&& Int64.toUInt64 63)).toInt64).toInt32.toBitVec.getLsbD i = v.toBitVec.getLsbD (8 * k + i) := by
    show ((v.toBitVec >>> ((((8 : Int32) * nI k).toInt64.toUInt64 &&& Int64.toUInt64 63).toBitVec % 64)).signExtend 32).getLsbD i = _
    rw [BitVec.getLsbD_signExtend]
    simp only [show i < 32 by omega, show i < 64 by omega, decide_true, Bool.true_and, if_true]
    rw [BitVec.ushiftRight_eq', s2, BitVec.getLsbD_ushiftRight]
  rw [e1, e2]
/-- the text's new bytes -/
theorem feed_ok {n : Nat} {f : Nat → Nat} {X_bytes M_text : Nat → Int32} (T : TX n f X_bytes M_text) (v : Int64) (p : Int32) :
    ∃ r n' f' B' T', m_X8_feed X_bytes (nI n) v p = some (r, B', nI n') ∧ m_X9_feed M_text (nI n) v p = some (r, T', nI n') ∧ TX n' f' B' T' := by
  obtain ⟨hn, hT⟩ := T
  unfold m_X8_feed m_X9_feed
  by_cases q1 : p < 0
  · rw [if_pos q1, if_pos q1]
    exact ⟨_, n, f, _, _, rfl, rfl, hn, hT⟩
  · rw [if_neg q1, if_neg q1]
    by_cases q2 : p ≤ 8
    · rw [if_pos q2, if_pos q2]
      obtain ⟨c, hc, rfl⟩ := nI_of2 (n := 8) (M := 8) (by decide) q1 q2
      by_cases q3 : c = 0
      · subst q3
        rw [if_pos (show nI 0 = 0 from rfl), if_pos (show nI 0 = 0 from rfl)]
        refine ⟨0, 0, f, X_bytes, M_text, rfl, ?_, by omega, fun k hk => by omega⟩
        show (if (0 : Int32) + nI 0 ≤ 1500 then (m_X9_feed_42 FU M_text 0 v (nI 0 - 1)) else _) = _
        rw [if_pos (by decide)]
        rfl
      · rw [if_neg (by rw [i_0, nI_eq' (by omega) (by omega)]; exact q3), if_neg (by rw [i_0, nI_eq' (by omega) (by omega)]; exact q3)]
        show ∃ r n' f' B' T', (if nI n + nI c ≤ 1500 then _ else _) = _ ∧ (if nI n + nI c ≤ 1500 then _ else _) = _ ∧ _
        rw [nI_add, i_1500]
        by_cases q4 : n + c ≤ 1500
        · rw [if_pos (by rw [nI_le' (by omega) (by omega)]; exact q4), if_pos (by rw [nI_le' (by omega) (by omega)]; exact q4)]
          -- both loops in step
          have both : ∀ (j i1 i2 n : Nat) (f : Nat → Nat) (B T : Nat → Int32), j ≤ 8 → n + j ≤ 1500 → j < i1 → j < i2 → (∀ k, k < n → f k < 256 ∧ T k = nI (f k) ∧ B k = (nI (f k)).toInt8.toInt32) → ∃ (f' : Nat → Nat) (B' T' : Nat → Int32), m_X6_append_5 i1 B (nI n) v (nI j - 1) = some (B', nI (n + j)) ∧ m_X9_feed_42 i2 T (nI n) v (nI j - 1) = some (nI (n + j), T', nI (n + j)) ∧ ∀ k, k < n + j → f' k < 256 ∧ T' k = nI (f' k) ∧ B' k = (nI (f' k)).toInt8.toInt32 := by
            intro j
            induction j with
            | zero =>
              intro i1 i2 n f B T h0 h1 h2 h3 h4
              obtain ⟨i1, rfl⟩ : ∃ z, i1 = z + 1 := ⟨i1 - 1, by omega⟩
              obtain ⟨i2, rfl⟩ : ∃ z, i2 = z + 1 := ⟨i2 - 1, by omega⟩
              refine ⟨f, B, T, ?_, ?_, h4⟩
              · rfl
              · rfl
            | succ j ih =>
              intro i1 i2 n f B T h0 h1 h2 h3 h4
              obtain ⟨i1, rfl⟩ : ∃ z, i1 = z + 1 := ⟨i1 - 1, by omega⟩
              obtain ⟨i2, rfl⟩ : ∃ z, i2 = z + 1 := ⟨i2 - 1, by omega⟩
              obtain ⟨b, hb, e1, e2⟩ := byte_ok v (k := j) (by omega)
              have ej : nI (j + 1) - 1 = nI j := nI_pred j
              have ej2 : nI j + (-1) = nI j - 1 := by
                apply Int32.toBitVec_inj.mp
                show (nI j).toBitVec + (-1 : Int32).toBitVec = (nI j).toBitVec - (1 : Int32).toBitVec
                rw [BitVec.sub_eq_add_neg]; rfl
              obtain ⟨f', B', T', a1, a2, a3⟩ := ih i1 i2 (n + 1) (fun k => if k = n then b else f k) (upd B n ((nI b).toInt8.toInt32)) (upd T n (nI b)) (by omega) (by omega) (by omega) (by omega) (by
                intro k hk
                by_cases e : k = n
                · subst e
                  simp only [pk_us, if_true]
                  exact ⟨hb, trivial, trivial⟩
                · rw [pk_un e, pk_un e]
                  simp only [e, if_false]
                  exact h4 k (by omega))
              refine ⟨f', B', T', ?_, ?_, ?_⟩
              · show (if nI (j + 1) - 1 < 0 then _ else (if 1500 ≤ nI n then _ else (gd (nI n) 1500 (m_X6_append_5 i1 (upd B (nI n).toNatClampNeg (vp_nar .byte ((((v.toUInt64 >>> ((8 * (nI (j + 1) - 1)).toInt64.toUInt64 &&& Int64.toUInt64 63)).toInt64).toInt32).toInt8.toInt32))) (nI n + 1) v ((nI (j + 1) - 1) + (-1)))))) = _
                rw [ej, if_neg (by rw [i_0, nI_lt' (by omega) (by omega)]; omega), i_1500, if_neg (by rw [nI_le' (by omega) (by omega)]; omega), gd_nI (by omega) (by omega), nI_cl (by omega), e2, ej2, nI_1, a1]
                rw [show n + 1 + j = n + (j + 1) by omega]
              · show (if nI (j + 1) - 1 < 0 then _ else (gd (nI n) 1500 (m_X9_feed_42 i2 (upd T (nI n).toNatClampNeg (((v >>> ((8 * (nI (j + 1) - 1)).toInt64 &&& 63)).toInt32) &&& 255)) (nI n + 1) v ((nI (j + 1) - 1) + (-1))))) = _
                rw [ej, if_neg (by rw [i_0, nI_lt' (by omega) (by omega)]; omega), gd_nI (by omega) (by omega), nI_cl (by omega), e1, ej2, nI_1, a2]
                rw [show n + 1 + j = n + (j + 1) by omega]
              · intro k hk
                exact a3 k (by omega)
          obtain ⟨f', B', T', a1, a2, a3⟩ := both c FU FU n f X_bytes M_text (by omega) q4 (by rw [FU_v]; omega) (by rw [FU_v]; omega) hT
          refine ⟨nI (n + c), n + c, f', B', T', ?_, a2, by omega, a3⟩
          show Option.bind (m_X6_append_5 FU X_bytes (nI n) v (nI c - 1)) _ = _
          rw [a1]
          rfl
        · rw [if_neg (by rw [nI_le' (by omega) (by omega)]; exact q4), if_neg (by rw [nI_le' (by omega) (by omega)]; exact q4)]
          exact ⟨_, n, f, _, _, rfl, rfl, hn, hT⟩
    · rw [if_neg q2, if_neg q2]
      exact ⟨_, n, f, _, _, rfl, rfl, hn, hT⟩
