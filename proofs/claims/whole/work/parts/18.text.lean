/-! THE TEXT: its bytes, its words -/
def TX (n : Nat) (f : Nat → Nat) (X_bytes : Nat → Int32) (M_text : Nat → Int32) : Prop := n ≤ 1500 ∧ ∀ k, k < n → f k < 256 ∧ M_text k = nI (f k) ∧ X_bytes k = (nI (f k)).toInt8.toInt32
def wpush (w : Int64) (b : Nat) : Int64 := (w <<< ((8 : Int32).toInt64 &&& 63)) ||| (nI b).toInt64
/-- the words behind a place, d bytes being left, of a word of c bytes begun -/
def scan (f : Nat → Nat) : Nat → Nat → Int64 → Nat → Option (List Int64)
  | 0, _, w, c => some (if 0 < c then [w] else [])
  | d + 1, k, w, c => if f k = 32 then (scan f d (k + 1) 0 0).map (fun l => if 0 < c then w :: l else l) else if 33 ≤ f k ∧ f k ≤ 126 ∧ c < 8 then scan f d (k + 1) (wpush w (f k)) (c + 1) else none
def wordsOf (f : Nat → Nat) (n : Nat) : Option (List Int64) := scan f n 0 0 0
def lat (W : Nat → Int64) (l : List Int64) : Prop := ∀ i, i < l.length → l[i]? = some (W i)
theorem lat_nil (W : Nat → Int64) : lat W [] := fun i h => by simp at h
theorem lat_push {W : Nat → Int64} {l : List Int64} (h : lat W l) (w : Int64) : lat (vp_updL W l.length w) (l ++ [w]) := by
  intro i hi
  by_cases e : i = l.length
  · subst e
    rw [pk_uLs]
    simp
  · have hi2 : i < l.length := by simp at hi; omega
    rw [pk_uLn e, List.getElem?_append_left hi2]
    exact h i hi2
theorem map_id' (x : Option (List Int64)) : x.map (fun l => [] ++ l) = x := by cases x <;> rfl
theorem map_map' (x : Option (List Int64)) (a : List Int64) (w : Int64) : (x.map (fun l => w :: l)).map (fun l => a ++ l) = x.map (fun l => (a ++ [w]) ++ l) := by cases x <;> simp
theorem byte_small : ∀ b, b < 256 → ((nI b).toInt8.toInt32 = nI 32 ↔ b = 32) ∧ ((nI b).toInt8.toInt32 < nI 33 ↔ (b < 33 ∨ 128 ≤ b)) ∧ (nI 126 < (nI b).toInt8.toInt32 ↔ (126 < b ∧ b < 128)) ∧ (b < 128 → (nI b).toInt8.toInt32 = nI b) := by decide +kernel
theorem i_m1 (k : Nat) : nI (k + 1) + (-1) = nI k := pk_m1 k
set_option maxHeartbeats 1000000 in
theorem split_ok {n : Nat} {f : Nat → Nat} {X_bytes M_text : Nat → Int32} (T : TX n f X_bytes M_text) (X_words : Nat → Int64) :
    match wordsOf f n with
    | none => ∃ W, m_X6_split X_bytes X_words (nI n) = some (-1, W)
    | some l => ∃ W, m_X6_split X_bytes X_words (nI n) = some (nI l.length, W) ∧ l.length ≤ 750 ∧ lat W l := by
  obtain ⟨hn, hT⟩ := T
  unfold m_X6_split
  have key := lpP (fun i k (s : (Nat → Int64) × Nat × Nat × Int64) => m_X6_split_9 (nI n) X_bytes i s.1 (nI s.2.1) (nI s.2.2.1) s.2.2.2 (nI k))
    (fun r => match wordsOf f n with
      | none => ∃ W, r = some (-1, W)
      | some l => ∃ W, r = some (nI l.length, W) ∧ l.length ≤ 750 ∧ lat W l) (n + 1)
    (fun k s => ∃ acc : List Int64, acc.length = s.2.1 ∧ lat s.1 acc ∧ if k ≤ n then (wordsOf f n = (scan f (n - k) k s.2.2.2 s.2.2.1).map (fun l => acc ++ l) ∧ 2 * s.2.1 + (if 0 < s.2.2.1 then 1 else 0) ≤ k ∧ s.2.2.1 ≤ 8 ∧ (s.2.2.1 = 0 → s.2.2.2 = 0)) else (wordsOf f n = some acc ∧ s.2.1 ≤ 750))
    ?_ ?_ (n + 1) FU 0 (X_words, 0, 0, 0) (by omega) (by rw [FU_v]; omega) ⟨[], rfl, lat_nil _, by
      rw [if_pos (by omega)]
      exact ⟨by rw [map_id']; rfl, by simp, by simp, fun _ => rfl⟩⟩
  · exact key
  · intro i s ⟨acc, h1, h2, h3⟩
    rw [if_neg (by omega)] at h3
    obtain ⟨h3, h4⟩ := h3
    rw [h3]
    refine ⟨s.1, ?_, by omega, h2⟩
    show (if nI n < nI (n + 1) then _ else _) = _
    rw [if_pos (by rw [nI_lt' (by omega) (by omega)]; omega), h1]
  · intro i k s hk ⟨acc, h1, h2, h3⟩
    rw [if_pos (by omega)] at h3
    obtain ⟨h3, h4, h5, h6⟩ := h3
    obtain ⟨W, fo, c, w⟩ := s
    dsimp only at h1 h2 h3 h4 h5 h6 ⊢
    have e9 : m_X6_split_9 (nI n) X_bytes (i + 1) W (nI fo) (nI c) w (nI k) = (if nI n < nI k then (some (nI fo, W)) else (if nI n ≤ nI k then (m_X6_split_39 (nI n) X_bytes (m_X6_split_9 (nI n) X_bytes i) W (nI fo) (nI c) w (nI k) 32) else (gd (nI k) 1500 (m_X6_split_39 (nI n) X_bytes (m_X6_split_9 (nI n) X_bytes i) W (nI fo) (nI c) w (nI k) (X_bytes (nI k).toNatClampNeg))))) := rfl
    rw [if_neg (by rw [nI_lt' (by omega) (by omega)]; omega)] at e9
    have hfo : 2 * fo ≤ k := by omega
    -- the blank: a word ends
    have blank : m_X6_split_39 (nI n) X_bytes (m_X6_split_9 (nI n) X_bytes i) W (nI fo) (nI c) w (nI k) 32 = if 0 < c then m_X6_split_9 (nI n) X_bytes i (vp_updL W fo w) (nI (fo + 1)) 0 0 (nI (k + 1)) else m_X6_split_9 (nI n) X_bytes i W (nI fo) 0 0 (nI (k + 1)) := by
      unfold m_X6_split_39
      rw [if_pos rfl]
      by_cases hc : 0 < c
      · rw [if_pos hc, if_neg (by rw [i_0, nI_le' (by omega) (by omega)]; omega)]
        have : fo < 750 := by rw [if_pos hc] at h4; omega
        simp (disch := omega) only [i_750, nI_le', gd_nI, nI_cl]
        rw [if_neg (by omega)]
        show m_X6_split_9 _ _ _ _ (nI fo + 1) 0 0 (nI k + 1) = _
        rw [i_1, nI_add, nI_add]
      · rw [if_neg hc, if_pos (by rw [i_0, nI_le' (by omega) (by omega)]; omega)]
        show m_X6_split_9 _ _ _ _ (nI fo) 0 0 (nI k + 1) = _
        rw [i_1, nI_add]
    by_cases hkn : k = n
    · -- the end
      subst hkn
      rw [if_pos (by rw [nI_le' (by omega) (by omega)]; omega), blank] at e9
      rw [Nat.sub_self] at h3
      have h3' : wordsOf f k = some (acc ++ (if 0 < c then [w] else [])) := h3
      right
      by_cases hc : 0 < c
      · rw [if_pos hc] at e9 h3'
        refine ⟨(vp_updL W fo w, fo + 1, 0, 0), e9, acc ++ [w], by simp [h1], by rw [← h1]; exact lat_push h2 w, ?_⟩
        rw [if_neg (by omega)]
        rw [if_pos hc] at h4
        exact ⟨h3', by dsimp only; omega⟩
      · rw [if_neg hc] at e9 h3'
        refine ⟨(W, fo, 0, 0), e9, acc, h1, h2, ?_⟩
        rw [if_neg (by omega)]
        exact ⟨by simpa using h3', by dsimp only; omega⟩
    · have hkl : k < n := by omega
      obtain ⟨hf, -, hX⟩ := hT k hkl
      obtain ⟨b1, b2, b3, b4⟩ := byte_small (f k) hf
      rw [if_neg (by rw [nI_le' (by omega) (by omega)]; omega), gd_nI (by omega) (by omega), nI_cl (by omega), hX] at e9
      obtain ⟨d, hd⟩ : ∃ d, n - k = d + 1 := ⟨n - k - 1, by omega⟩
      have hd2 : n - (k + 1) = d := by omega
      rw [hd] at h3
      have h3' : wordsOf f n = (if f k = 32 then (scan f d (k + 1) 0 0).map (fun l => if 0 < c then w :: l else l) else if 33 ≤ f k ∧ f k ≤ 126 ∧ c < 8 then scan f d (k + 1) (wpush w (f k)) (c + 1) else none).map (fun l => acc ++ l) := h3
      by_cases q : f k = 32
      · rw [if_pos q] at h3'
        rw [q] at e9
        have e32 : (nI 32).toInt8.toInt32 = 32 := by decide
        rw [e32, blank] at e9
        right
        by_cases hc : 0 < c
        · rw [if_pos hc] at e9 h4
          refine ⟨(vp_updL W fo w, fo + 1, 0, 0), e9, acc ++ [w], by simp [h1], by rw [← h1]; exact lat_push h2 w, ?_⟩
          rw [if_pos (by omega)]
          refine ⟨?_, by simp; omega, by simp, fun _ => rfl⟩
          rw [hd2, ← map_map', h3']
          simp only [hc, if_true]
        · rw [if_neg hc] at e9 h4
          refine ⟨(W, fo, 0, 0), e9, acc, h1, h2, ?_⟩
          rw [if_pos (by omega)]
          refine ⟨?_, by simp; omega, by simp, fun _ => rfl⟩
          rw [hd2, h3']
          simp only [hc, if_false]
          cases scan f d (k + 1) 0 0 <;> rfl
      · rw [if_neg q] at h3'
        unfold m_X6_split_39 at e9
        have b1' : ¬ (nI (f k)).toInt8.toInt32 = 32 := fun z => q (b1.mp z)
        rw [if_neg b1'] at e9
        by_cases q2 : f k < 33 ∨ 128 ≤ f k
        · rw [i_33, if_pos (b2.mpr q2)] at e9
          rw [if_neg (by omega)] at h3'
          left
          rw [h3']
          exact ⟨W, e9⟩
        · rw [i_33, if_neg (fun z => q2 (b2.mp z))] at e9
          by_cases q3 : 126 < f k
          · rw [i_126, if_pos (b3.mpr ⟨q3, by omega⟩)] at e9
            rw [if_neg (by omega)] at h3'
            left
            rw [h3']
            exact ⟨W, e9⟩
          · rw [i_126, if_neg (fun z => q3 (b3.mp z).1), i_8] at e9
            rw [b4 (by omega)] at e9
            by_cases q4 : c = 8
            · rw [if_pos (by rw [q4])] at e9
              rw [if_neg (by omega)] at h3'
              left
              rw [h3']
              exact ⟨W, e9⟩
            · rw [if_neg (by rw [nI_eq' (by omega) (by omega)]; exact q4)] at e9
              rw [if_pos (by omega)] at h3'
              right
              refine ⟨(W, fo, c + 1, wpush w (f k)), ?_, acc, h1, h2, ?_⟩
              · rw [e9]
                show m_X6_split_9 _ _ _ _ _ (nI c + 1) _ (nI k + 1) = _
                rw [i_1, nI_add, nI_add]
                rfl
              · rw [if_pos (by omega)]
                refine ⟨by rw [hd2]; exact h3', ?_, by simp; omega, fun z => by simp at z⟩
                dsimp only
                split <;> omega
