/-! the reference's words -/
set_option maxHeartbeats 1000000 in
theorem findWords_ok {n : Nat} {f : Nat → Nat} {X_bytes M_text : Nat → Int32} (T : TX n f X_bytes M_text) (M_word : Nat → Int64) (M_wordCount : Int32) :
    match wordsOf f n with
    | none => ∃ W c, m_X9_findWords M_text (nI n) M_word M_wordCount = some (0, W, c)
    | some l => ∃ W, m_X9_findWords M_text (nI n) M_word M_wordCount = some (1, W, nI l.length) ∧ lat W l := by
  obtain ⟨hn, hT⟩ := T
  have hM : ∀ k, k < n → f k < 256 ∧ M_text k = nI (f k) := fun k hk => ⟨(hT k hk).1, (hT k hk).2.1⟩
  unfold m_X9_findWords
  -- the outer loop from a place on, by how much is left
  suffices H : ∀ (d k i : Nat) (W : Nat → Int64) (acc : List Int64), k + d = n → d < i → lat W acc → (2 * acc.length ≤ k + 1 ∧ (k < n → f k ≠ 32 → 2 * acc.length ≤ k)) → wordsOf f n = (scan f d k 0 0).map (fun l => acc ++ l) →
      (match wordsOf f n with
      | none => ∃ W' c, m_X9_findWords_9 (nI n) M_text i W (nI acc.length) (nI k) 1 = some (0, W', c)
      | some l => ∃ W', m_X9_findWords_9 (nI n) M_text i W (nI acc.length) (nI k) 1 = some (1, W', nI l.length) ∧ lat W' l) by
    have h := H n 0 FU M_word [] (by omega) (by rw [FU_v]; omega) (lat_nil _) ⟨by simp, fun _ _ => by simp⟩ (by rw [map_id']; rfl)
    exact h
  intro d
  induction d using Nat.strongRecOn with
  | ind d ih =>
    intro k i W acc hk hi hW hac hsc
    obtain ⟨i, rfl⟩ : ∃ z, i = z + 1 := ⟨i - 1, by omega⟩
    have e9 : m_X9_findWords_9 (nI n) M_text (i + 1) W (nI acc.length) (nI k) 1 = (if nI n ≤ nI k then (gb 1 (some (1, W, nI acc.length))) else (if (1 : Int32) = 0 then (gb 1 (some (1, W, nI acc.length))) else (gd (nI k) 1500 (if (M_text (nI k).toNatClampNeg) = 32 then (m_X9_findWords_9 (nI n) M_text i W (nI acc.length) (nI k + 1) 1) else (m_X9_findWords_43 (nI n) M_text (m_X9_findWords_9 (nI n) M_text i) FU W (nI acc.length) (nI k) 1 0 0))))) := rfl
    by_cases hkn : k = n
    · have hd : d = 0 := by omega
      subst hd
      rw [if_pos (by rw [nI_le' (by omega) (by omega)]; omega), gb_1] at e9
      have h0 : wordsOf f n = some (acc ++ []) := hsc
      rw [h0]
      refine ⟨W, ?_, ?_⟩
      · rw [e9]; simp
      · simpa using hW
    · have hkl : k < n := by omega
      obtain ⟨hf, hm⟩ := hM k hkl
      rw [if_neg (by rw [nI_le' (by omega) (by omega)]; omega), if_neg (by decide), gd_nI (by omega) (by omega), nI_cl (by omega), hm] at e9
      obtain ⟨d, rfl⟩ : ∃ z, d = z + 1 := ⟨d - 1, by omega⟩
      have hsc0 : wordsOf f n = (if f k = 32 then (scan f d (k + 1) 0 0).map (fun l => if 0 < 0 then (0 : Int64) :: l else l) else if 33 ≤ f k ∧ f k ≤ 126 ∧ 0 < 8 then scan f d (k + 1) (wpush 0 (f k)) (0 + 1) else none).map (fun l => acc ++ l) := hsc
      by_cases q : f k = 32
      · rw [i_32, if_pos (by rw [q]), i_1, nI_add] at e9
        rw [if_pos q] at hsc0
        rw [i_1, e9, ← i_1]
        refine ih d (by omega) (k + 1) i W acc (by omega) (by omega) hW ⟨by omega, fun _ _ => hac.1⟩ ?_
        rw [hsc0]
        cases scan f d (k + 1) 0 0 <;> rfl
      · rw [i_32, if_neg (by rw [nI_eq' (by omega) (by omega)]; exact q)] at e9
        rw [e9]
        have hac2 : 2 * acc.length ≤ k := hac.2 hkl q
        -- the inner loop
        have bad : ∀ (j : Nat) (W : Nat → Int64) (a : Nat) (k' : Nat) (x3 : Int64) (x5 : Int32), a < 760 → k' ≤ n → 1 ≤ i → ∃ W' c, m_X9_findWords_43 (nI n) M_text (m_X9_findWords_9 (nI n) M_text i) (j + 1) W (nI a) (nI k') 0 x3 x5 = some (0, W', c) := by
          intro j W a k' x3 x5 ha hk' hi1
          obtain ⟨i, rfl⟩ : ∃ z, i = z + 1 := ⟨i - 1, by omega⟩
          have r9 : ∀ (W : Nat → Int64) (c : Int32), m_X9_findWords_9 (nI n) M_text (i + 1) W c (nI k') 0 = some (0, W, c) := by
            intro W c
            show (if nI n ≤ nI k' then (gb 0 (some (0, W, c))) else (if (0 : Int32) = 0 then (gb 0 (some (0, W, c))) else _)) = _
            rw [if_pos rfl, gb_0]
            split <;> rfl
          have r123 : m_X9_findWords_123 (nI n) M_text (m_X9_findWords_9 (nI n) M_text (i + 1)) W (nI a) (nI k') 0 x3 = some (0, vp_updL W a x3, nI a + 1) := by
            show gd (nI a) 760 _ = _
            rw [gd_nI (by omega) (by omega), nI_cl (by omega)]
            exact r9 _ _
          refine ⟨_, _, Eq.trans ?_ r123⟩
          show (if nI n ≤ nI k' then _ else _) = _
          by_cases z : n ≤ k'
          · rw [if_pos (by rw [nI_le' (by omega) (by omega)]; exact z)]
          · rw [if_neg (by rw [nI_le' (by omega) (by omega)]; exact z), gd_nI (by omega) (by omega), if_pos (rfl : (0 : Int32) = 0)]
            split <;> rfl
        suffices G : ∀ (e k' j : Nat) (w : Int64) (c : Nat), k' + e = n → e + 1 < j → (c = 0 → k' < n ∧ f k' ≠ 32) → (0 < c → k < k') → k ≤ k' → c ≤ 8 → wordsOf f n = (scan f e k' w c).map (fun l => acc ++ l) →
            (match wordsOf f n with
            | none => ∃ W' c', m_X9_findWords_43 (nI n) M_text (m_X9_findWords_9 (nI n) M_text i) j W (nI acc.length) (nI k') 1 w (nI c) = some (0, W', c')
            | some l => ∃ W', m_X9_findWords_43 (nI n) M_text (m_X9_findWords_9 (nI n) M_text i) j W (nI acc.length) (nI k') 1 w (nI c) = some (1, W', nI l.length) ∧ lat W' l) by
          exact G (d + 1) k FU 0 0 (by omega) (by rw [FU_v]; omega) (fun _ => ⟨hkl, q⟩) (fun z => by omega) (by omega) (by omega) hsc
        intro e
        induction e with
        | zero =>
          intro k' j w c hk' hj h1 h2 h3 h4 h5
          obtain ⟨j, rfl⟩ : ∃ z, j = z + 1 := ⟨j - 1, by omega⟩
          have hc : 0 < c := by
            rcases Nat.eq_zero_or_pos c with z | z
            · have := (h1 z).1; omega
            · exact z
          have h6 : wordsOf f n = some (acc ++ (if 0 < c then [w] else [])) := h5
          rw [if_pos hc] at h6
          have e43 : m_X9_findWords_43 (nI n) M_text (m_X9_findWords_9 (nI n) M_text i) (j + 1) W (nI acc.length) (nI k') 1 w (nI c) = m_X9_findWords_9 (nI n) M_text i (vp_updL W acc.length w) (nI (acc.length + 1)) (nI k') 1 := by
            show (if nI n ≤ nI k' then (gd (nI acc.length) 760 (m_X9_findWords_9 (nI n) M_text i (vp_updL W (nI acc.length).toNatClampNeg w) (nI acc.length + 1) (nI k') 1)) else _) = _
            rw [if_pos (by rw [nI_le' (by omega) (by omega)]; omega), gd_nI (by omega) (by omega), nI_cl (by omega), i_1, nI_add]
          rw [e43]
          have := ih 0 (by omega) k' i (vp_updL W acc.length w) (acc ++ [w]) (by omega) (by omega) (lat_push hW w) ⟨by have := h2 hc; simp; omega, fun z => by omega⟩ (by rw [h6]; simp [scan])
          simpa using this
        | succ e ihe =>
          intro k' j w c hk' hj h1 h2 h3 h4 h5
          obtain ⟨j, rfl⟩ : ∃ z, j = z + 1 := ⟨j - 1, by omega⟩
          obtain ⟨hf', hm'⟩ := hM k' (by omega)
          have h6 : wordsOf f n = (if f k' = 32 then (scan f e (k' + 1) 0 0).map (fun l => if 0 < c then w :: l else l) else if 33 ≤ f k' ∧ f k' ≤ 126 ∧ c < 8 then scan f e (k' + 1) (wpush w (f k')) (c + 1) else none).map (fun l => acc ++ l) := h5
          have e43 : m_X9_findWords_43 (nI n) M_text (m_X9_findWords_9 (nI n) M_text i) (j + 1) W (nI acc.length) (nI k') 1 w (nI c) = (if nI n ≤ nI k' then (m_X9_findWords_123 (nI n) M_text (m_X9_findWords_9 (nI n) M_text i) W (nI acc.length) (nI k') 1 w) else (gd (nI k') 1500 (if (M_text (nI k').toNatClampNeg) = 32 then (m_X9_findWords_123 (nI n) M_text (m_X9_findWords_9 (nI n) M_text i) W (nI acc.length) (nI k') 1 w) else (if (1 : Int32) = 0 then (m_X9_findWords_123 (nI n) M_text (m_X9_findWords_9 (nI n) M_text i) W (nI acc.length) (nI k') 1 w) else (gd (nI k') 1500 (if (M_text (nI k').toNatClampNeg) < 33 then (m_X9_findWords_99 (nI n) M_text (m_X9_findWords_9 (nI n) M_text i) (m_X9_findWords_43 (nI n) M_text (m_X9_findWords_9 (nI n) M_text i) j) W (nI acc.length) (nI k') w (nI c)) else (gd (nI k') 1500 (if 126 < (M_text (nI k').toNatClampNeg) then (m_X9_findWords_99 (nI n) M_text (m_X9_findWords_9 (nI n) M_text i) (m_X9_findWords_43 (nI n) M_text (m_X9_findWords_9 (nI n) M_text i) j) W (nI acc.length) (nI k') w (nI c)) else (if 8 ≤ nI c then (m_X9_findWords_99 (nI n) M_text (m_X9_findWords_9 (nI n) M_text i) (m_X9_findWords_43 (nI n) M_text (m_X9_findWords_9 (nI n) M_text i) j) W (nI acc.length) (nI k') w (nI c)) else (m_X9_findWords_100 (nI n) M_text (m_X9_findWords_9 (nI n) M_text i) (m_X9_findWords_43 (nI n) M_text (m_X9_findWords_9 (nI n) M_text i) j) W (nI acc.length) (nI k') w (nI c) 1)))))))))) := rfl
          rw [if_neg (by rw [nI_le' (by omega) (by omega)]; omega), gd_nI (by omega) (by omega), nI_cl (by omega), hm', if_neg (by decide : ¬ (1 : Int32) = 0), gd_nI (by omega) (by omega), gd_nI (by omega) (by omega)] at e43
          rw [e43]
          by_cases q1 : f k' = 32
          · have hc : 0 < c := by
              rcases Nat.eq_zero_or_pos c with z | z
              · exact absurd q1 (h1 z).2
              · exact z
            rw [if_pos q1] at h6
            simp only [hc, if_true] at h6
            rw [map_map'] at h6
            rw [i_32, if_pos (by rw [q1])]
            have e123 : m_X9_findWords_123 (nI n) M_text (m_X9_findWords_9 (nI n) M_text i) W (nI acc.length) (nI k') 1 w = m_X9_findWords_9 (nI n) M_text i (vp_updL W acc.length w) (nI (acc.length + 1)) (nI k') 1 := by
              show gd (nI acc.length) 760 _ = _
              rw [gd_nI (by omega) (by omega), nI_cl (by omega), i_1, nI_add]
            rw [e123]
            have := ih (e + 1) (by have := h2 hc; omega) k' i (vp_updL W acc.length w) (acc ++ [w]) (by omega) (by have := h2 hc; omega) (lat_push hW w) ⟨by have := h2 hc; simp; omega, fun _ z => absurd q1 z⟩ (by
              rw [h6]
              show _ = ((if f k' = 32 then (scan f e (k' + 1) 0 0).map (fun l => if 0 < 0 then (0 : Int64) :: l else l) else _) : Option (List Int64)).map _
              rw [if_pos q1]
              cases scan f e (k' + 1) 0 0 <;> rfl)
            simpa using this
          · rw [if_neg q1] at h6
            rw [i_32, if_neg (by rw [nI_eq' (by omega) (by omega)]; exact q1)]
            have b99 : ∃ W' c', m_X9_findWords_99 (nI n) M_text (m_X9_findWords_9 (nI n) M_text i) (m_X9_findWords_43 (nI n) M_text (m_X9_findWords_9 (nI n) M_text i) j) W (nI acc.length) (nI k') w (nI c) = some (0, W', c') := by
              obtain ⟨j, rfl⟩ : ∃ z, j = z + 1 := ⟨j - 1, by omega⟩
              obtain ⟨W', c', h⟩ := bad j W acc.length (k' + 1) ((w <<< ((8 : Int32).toInt64 &&& 63)) ||| ((nI (f k')).toInt64)) (nI c + 1) (by omega) (by omega) (by omega)
              refine ⟨W', c', Eq.trans ?_ h⟩
              show gd (nI k') 1500 _ = _
              rw [gd_nI (by omega) (by omega), nI_cl (by omega), hm', i_1, nI_add]
            by_cases q2 : f k' < 33
            · rw [i_33, if_pos (by rw [nI_lt' (by omega) (by omega)]; exact q2)]
              rw [if_neg (by omega)] at h6
              rw [h6]
              exact b99
            · rw [i_33, if_neg (by rw [nI_lt' (by omega) (by omega)]; exact q2)]
              by_cases q3 : 126 < f k'
              · rw [i_126, if_pos (by rw [nI_lt' (by omega) (by omega)]; exact q3)]
                rw [if_neg (by omega)] at h6
                rw [h6]
                exact b99
              · rw [i_126, if_neg (by rw [nI_lt' (by omega) (by omega)]; exact q3)]
                by_cases q4 : 8 ≤ c
                · rw [i_8, if_pos (by rw [nI_le' (by omega) (by omega)]; exact q4)]
                  rw [if_neg (by omega)] at h6
                  rw [h6]
                  exact b99
                · rw [i_8, if_neg (by rw [nI_le' (by omega) (by omega)]; exact q4)]
                  rw [if_pos (by omega)] at h6
                  have e100 : m_X9_findWords_100 (nI n) M_text (m_X9_findWords_9 (nI n) M_text i) (m_X9_findWords_43 (nI n) M_text (m_X9_findWords_9 (nI n) M_text i) j) W (nI acc.length) (nI k') w (nI c) 1 = m_X9_findWords_43 (nI n) M_text (m_X9_findWords_9 (nI n) M_text i) j W (nI acc.length) (nI (k' + 1)) 1 (wpush w (f k')) (nI (c + 1)) := by
                    show gd (nI k') 1500 _ = _
                    rw [gd_nI (by omega) (by omega), nI_cl (by omega), hm', i_1, nI_add, nI_add]
                    rfl
                  rw [e100]
                  exact ihe (k' + 1) j (wpush w (f k')) (c + 1) (by omega) (by omega) (fun z => by omega) (fun _ => by omega) (by omega) (by omega) h6
