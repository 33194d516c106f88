/-! the class's chart: all stretches -/
section FILL
variable {R_size : Nat → Int32} {R_elements : Nat → Int64} {F Lt : Nat → Int32} {no : Nat} {sz : Nat → Nat} {el : Nat → Nat → Int64} {w : Nat → Int64} {at0 : Nat → Nat} {tk : Nat → Nat → Nat → Bool} {n : Nat} {C_words : Nat → Int64} {C_atom : Nat → Int32} {nA nT nF nW : Nat}
theorem nI_m1 (k : Nat) : nI k + (-1) = nI k - 1 := by
  apply Int32.toBitVec_inj.mp
  show (nI k).toBitVec + (-1 : Int32).toBitVec = (nI k).toBitVec - (1 : Int32).toBitVec
  rw [BitVec.sub_eq_add_neg]; rfl
/-- an end is opened -/
theorem openEnd_ok {T : Nat → Nat → Nat → Nat} (G : RG R_size R_elements (nI no) no sz el) (hn : n ≤ 40) (hW : no * 10 * (n + 1) ≤ nW) (hWb : nW ≤ 65536) {W : Nat → Int32} {o j : Nat} (ho : o < no) (hj : j ≤ n) :
    ∃ W', m_X0_openEnd nW W (nI n) R_size (nI o) (nI j) = some W' ∧ wyOK no sz el w at0 tk T n W' o j j ∧ (∀ a, a < j → W' (wyN n o (sz o) a) = nI 0) ∧ (∀ q, (∀ e s, e ≤ 9 → s ≤ n → q ≠ wyN n o e s) → W' q = W q) := by
  have hno : no ≤ 30 := G.2.1
  obtain ⟨g1, g2, g3, g4⟩ := G.2.2 o ho
  have hwl : ∀ e s, e ≤ 9 → s ≤ n → wyN n o e s < nW := fun e s he hs => by have := wyN_lt (n := n) (no := no) ho he hs; omega
  unfold m_X0_openEnd
  rw [size_ok (by omega), ob_i, g1]
  have second : ∀ (W1 : Nat → Int32), (∀ e, e < sz o → W1 (wyN n o e j) = nI 0) → (∀ q, (∀ e s, e ≤ 9 → s ≤ n → q ≠ wyN n o e s) → W1 q = W q) → ∃ W', m_X0_openEnd_41 (nI n) nW R_size FU W1 (nI o) (nI j) (nI (sz o)) 0 = some W' ∧ wyOK no sz el w at0 tk T n W' o j j ∧ (∀ a, a < j → W' (wyN n o (sz o) a) = nI 0) ∧ (∀ q, (∀ e s, e ≤ 9 → s ≤ n → q ≠ wyN n o e s) → W' q = W q) := by
    intro W1 h1 h2
    refine lpP (fun k a (s : Nat → Int32) => m_X0_openEnd_41 (nI n) nW R_size k s (nI o) (nI j) (nI (sz o)) (nI a)) (fun r => ∃ W', r = some W' ∧ wyOK no sz el w at0 tk T n W' o j j ∧ (∀ a, a < j → W' (wyN n o (sz o) a) = nI 0) ∧ (∀ q, (∀ e s, e ≤ 9 → s ≤ n → q ≠ wyN n o e s) → W' q = W q)) j (fun a s => (∀ e, e < sz o → s (wyN n o e j) = nI 0) ∧ (∀ b, b < a → s (wyN n o (sz o) b) = nI 0) ∧ (∀ q, (∀ e s, e ≤ 9 → s ≤ n → q ≠ wyN n o e s) → s q = W q)) ?_ ?_ j FU 0 W1 (by omega) (by rw [FU_v]; omega) ⟨h1, fun b h => by omega, h2⟩
    · intro k s ⟨s1, s2, s3⟩
      refine ⟨upd s (wyN n o (sz o) j) 1, ?_, ?_, ?_, ?_⟩
      · show (if nI j ≤ nI j then _ else _) = _
        rw [if_pos (by rw [nI_le' (by omega) (by omega)]; omega), way_ok hn (by omega) (by omega) hj, ob_i, gd_nI (hwl _ _ (by omega) hj) (by omega), nI_cl (by have := hwl (sz o) j (by omega) hj; omega)]
      · intro e he
        by_cases q : e = sz o
        · subst q
          rw [pk_us, Nat.sub_self]
          unfold Wx
          rw [if_pos rfl]; rfl
        · rw [pk_un (fun z => q (wyN_inj (by omega) hj (by omega) hj z).2.1), s1 e (by omega)]
          obtain ⟨d, hd⟩ : ∃ d, sz o - e = d + 1 := ⟨sz o - e - 1, by omega⟩
          rw [hd, Wx_end]; rfl
      · intro a ha
        rw [pk_un (fun z => by have := (wyN_inj (by omega) (by omega) (by omega) hj z).2.2; omega)]
        exact s2 a ha
      · intro q hq
        rw [pk_un (hq (sz o) j (by omega) hj)]
        exact s3 q hq
    · intro k a s ha ⟨s1, s2, s3⟩
      right
      refine ⟨upd s (wyN n o (sz o) a) 0, ?_, ?_, ?_, ?_⟩
      · show (if nI j ≤ nI a then _ else _) = _
        rw [if_neg (by rw [nI_le' (by omega) (by omega)]; omega), way_ok hn (by omega) (by omega) (by omega), ob_i, gd_nI (hwl _ _ (by omega) (by omega)) (by omega), nI_cl (by have := hwl (sz o) a (by omega) (by omega); omega), nI_1]
      · intro e he
        rw [pk_un (fun z => by have := (wyN_inj (by omega) hj (by omega) (by omega) z).2.1; omega)]
        exact s1 e he
      · intro b hb
        by_cases q : b = a
        · subst q; rw [pk_us]; rfl
        · rw [pk_un (fun z => q (wyN_inj (by omega) (by omega) (by omega) (by omega) z).2.2)]
          exact s2 b (by omega)
      · intro q hq
        rw [pk_un (hq (sz o) a (by omega) (by omega))]
        exact s3 q hq
  refine lpP (fun k e (s : Nat → Int32) => m_X0_openEnd_12 (nI n) nW R_size k s (nI o) (nI j) (nI (sz o)) (nI e)) (fun r => ∃ W', r = some W' ∧ wyOK no sz el w at0 tk T n W' o j j ∧ (∀ a, a < j → W' (wyN n o (sz o) a) = nI 0) ∧ (∀ q, (∀ e s, e ≤ 9 → s ≤ n → q ≠ wyN n o e s) → W' q = W q)) (sz o) (fun e s => (∀ b, b < e → s (wyN n o b j) = nI 0) ∧ (∀ q, (∀ e s, e ≤ 9 → s ≤ n → q ≠ wyN n o e s) → s q = W q)) ?_ ?_ (sz o) FU 0 W (by omega) (by rw [FU_v]; omega) ⟨fun b h => by omega, fun _ _ => rfl⟩
  · intro k s ⟨s1, s2⟩
    obtain ⟨W', h1, h2⟩ := second s s1 s2
    refine ⟨W', ?_, h2⟩
    show (if nI (sz o) ≤ nI (sz o) then _ else _) = _
    rw [if_pos (by rw [nI_le' (by omega) (by omega)]; omega)]
    exact h1
  · intro k e s he ⟨s1, s2⟩
    right
    refine ⟨upd s (wyN n o e j) 0, ?_, ?_, ?_⟩
    · show (if nI (sz o) ≤ nI e then _ else _) = _
      rw [if_neg (by rw [nI_le' (by omega) (by omega)]; omega), way_ok hn (by omega) (by omega) hj, ob_i, gd_nI (hwl _ _ (by omega) hj) (by omega), nI_cl (by have := hwl e j (by omega) hj; omega), nI_1]
    · intro b hb
      by_cases q : b = e
      · subst q; rw [pk_us]; rfl
      · rw [pk_un (fun z => q (wyN_inj (by omega) hj (by omega) hj z).2.1)]
        exact s1 b (by omega)
    · intro q hq
      rw [pk_un (hq e j (by omega) hj)]
      exact s2 q hq
/-- stretches that are right -/
def chOK (no : Nat) (sz : Nat → Nat) (el : Nat → Nat → Int64) (w : Nat → Int64) (at0 : Nat → Nat) (tk : Nat → Nat → Nat → Bool) (n : Nat) (al tp fs : Nat → Int32) (P : Nat → Nat → Prop) : Prop :=
  ∀ i j, i < j → j ≤ n → P i j → al (spN i j) = nI (AL no at0 (TT no sz el w at0 tk) i j) ∧ ∀ o, o < no → tp (tpN no o i j) = nI (TT no sz el w at0 tk o i j) ∧ (el o 0 = 95 → fs (tpN no o i j) = nI (HV no at0 tk (TT no sz el w at0 tk) o 0 i j))
set_option maxHeartbeats 2000000 in
theorem fill81_ok (E : CEnv R_size R_elements F Lt no sz el w at0 tk n C_words C_atom nA nT nF nW) (S n_row : Nat) (row : Nat → Int64) (R_operators : Int32) (C_all C_topped C_firsts C_ways : Nat → Int32) :
    ∃ al tp fs W, m_X0_fill_81 S R_operators nA nT nF nW R_size F Lt R_elements n_row row FU C_words C_atom C_all C_topped C_firsts C_ways (nI n) (nI no) 1 = some (C_words, C_atom, nA, al, nT, tp, nF, fs, nW, W, nI n, nI no) ∧ chOK no sz el w at0 tk n al tp fs (fun _ _ => True) := by
  have E0 := E
  obtain ⟨G, hn, hw, ha, ha1, hA, hT, hF, hW, hp, hin, hmF, hmL⟩ := E
  have hno : no ≤ 30 := G.2.1
  -- the starts of one end
  have starts : ∀ (k81 : (Nat → Int64) → (Nat → Int32) → (Nat → Int32) → (Nat → Int32) → (Nat → Int32) → (Nat → Int32) → Int32 → Int32 → Int32 → Option ((Nat → Int64) × (Nat → Int32) × Nat × (Nat → Int32) × Nat × (Nat → Int32) × Nat × (Nat → Int32) × Nat × (Nat → Int32) × Int32 × Int32)) (j : Nat) (al tp fs W : Nat → Int32), 1 ≤ j → j ≤ n → chOK no sz el w at0 tk n al tp fs (fun _ j' => j' < j) → (∀ o, o < no → wyOK no sz el w at0 tk (TT no sz el w at0 tk) n W o j j ∧ ∀ a, a < j → W (wyN n o (sz o) a) = nI 0) → ∃ al' tp' fs' W', m_X0_fill_119 S R_operators nA nT nF nW R_size F Lt R_elements n_row row k81 FU C_words C_atom al tp fs W (nI n) (nI no) (nI j) (nI j - 1) = k81 C_words C_atom al' tp' fs' W' (nI n) (nI no) (nI (j + 1)) ∧ chOK no sz el w at0 tk n al' tp' fs' (fun _ j' => j' < j + 1) := by
    intro k81 j al tp fs W hj1 hj hc hwy
    refine lpD (fun f k (s : (Nat → Int32) × (Nat → Int32) × (Nat → Int32) × (Nat → Int32)) => m_X0_fill_119 S R_operators nA nT nF nW R_size F Lt R_elements n_row row k81 f C_words C_atom s.1 s.2.1 s.2.2.1 s.2.2.2 (nI n) (nI no) (nI j) (nI k - 1)) (fun r => ∃ al' tp' fs' W', r = k81 C_words C_atom al' tp' fs' W' (nI n) (nI no) (nI (j + 1)) ∧ chOK no sz el w at0 tk n al' tp' fs' (fun _ j' => j' < j + 1))
      (fun k s => k ≤ j ∧ chOK no sz el w at0 tk n s.1 s.2.1 s.2.2.1 (fun i' j' => j' < j ∨ (j' = j ∧ k ≤ i')) ∧ ∀ o, o < no → (∀ t, k ≤ t → t ≤ j → wyOK no sz el w at0 tk (TT no sz el w at0 tk) n s.2.2.2 o t j) ∧ ∀ a, a < k → s.2.2.2 (wyN n o (sz o) a) = nI 0) ?_ ?_ j FU (al, tp, fs, W) (by rw [FU_v]; omega) ⟨Nat.le_refl _, fun i' j' h1 h2 h3 => hc i' j' h1 h2 (by rcases h3 with h3 | h3 <;> omega), fun o ho => ⟨fun t t1 t2 => by
          have : t = j := by omega
          subst this; exact (hwy o ho).1, (hwy o ho).2⟩⟩
    · intro f s ⟨s0, s1, s2⟩
      refine ⟨s.1, s.2.1, s.2.2.1, s.2.2.2, ?_, fun i' j' h1 h2 h3 => s1 i' j' h1 h2 (by omega)⟩
      have ez : m_X0_fill_119 S R_operators nA nT nF nW R_size F Lt R_elements n_row row k81 (f + 1) C_words C_atom s.1 s.2.1 s.2.2.1 s.2.2.2 (nI n) (nI no) (nI j) (nI 0 - 1) = k81 C_words C_atom s.1 s.2.1 s.2.2.1 s.2.2.2 (nI n) (nI no) (nI j + 1) := rfl
      rw [ez, nI_1]
    · intro f k s ⟨s0, s1, s2⟩
      right
      obtain ⟨tp', fs', W', h1, h2, h3, h4⟩ := fillSpan_ok E0 (C_all := s.1) (C_topped := s.2.1) (C_firsts := s.2.2.1) (C_ways := s.2.2.2) (i := k) (j := j) (by omega) hj ⟨fun m m1 m2 => ⟨(s1 k m m1 (by omega) (Or.inl m2)).1, fun o ho h0 => ((s1 k m m1 (by omega) (Or.inl m2)).2 o ho).2 h0⟩, fun o ho => ⟨fun t t1 t2 => (s2 o ho).1 t (by omega) t2, (s2 o ho).2 k (by omega)⟩⟩
      refine ⟨(upd s.1 (spN k j) (nI (AL no at0 (TT no sz el w at0 tk) k j)), tp', fs', W'), ?_, by omega, ?_, ?_⟩
      · have ez : m_X0_fill_119 S R_operators nA nT nF nW R_size F Lt R_elements n_row row k81 (f + 1) C_words C_atom s.1 s.2.1 s.2.2.1 s.2.2.2 (nI n) (nI no) (nI j) (nI (k + 1) - 1) = (if nI (k + 1) - 1 < 0 then (k81 C_words C_atom s.1 s.2.1 s.2.2.1 s.2.2.2 (nI n) (nI no) (nI j + 1)) else (Option.bind (m_X0_fillSpan C_words C_atom nA s.1 nT s.2.1 nF s.2.2.1 nW s.2.2.2 (nI n) (nI no) R_size F Lt R_elements (nI (k + 1) - 1) (nI j)) (fun r_3 => m_X0_fill_119 S R_operators nA nT nF nW R_size F Lt R_elements n_row row k81 f C_words C_atom r_3.1 r_3.2.1 r_3.2.2.1 r_3.2.2.2 (nI n) (nI no) (nI j) ((nI (k + 1) - 1) + (-1))))) := rfl
        rw [nI_pred, if_neg (by rw [i_0, nI_lt' (by omega) (by omega)]; omega), h1, ob_i, nI_m1] at ez
        rw [nI_pred]
        exact ez
      · intro i' j' q1 q2 q3
        by_cases q : i' = k ∧ j' = j
        · obtain ⟨rfl, rfl⟩ := q
          refine ⟨pk_us, fun o ho => ⟨(h2 o ho).1, (h2 o ho).2.1⟩⟩
        · have old := s1 i' j' q1 q2 (by
            rcases q3 with q3 | q3
            · exact Or.inl q3
            · refine Or.inr ⟨q3.1, ?_⟩
              rcases Nat.eq_or_lt_of_le q3.2 with z | z
              · exact absurd ⟨z.symm, q3.1⟩ q
              · exact z)
          refine ⟨?_, fun o ho => ?_⟩
          · show upd s.1 _ _ (spN i' j') = _
            rw [pk_un (fun z => q (spN_inj q1 (by omega) z))]
            exact old.1
          · have h5 := h3 (tpN no o i' j') (fun p hp z => q (tpN_inj q1 (by omega) ho hp z).2)
            refine ⟨?_, fun h0 => ?_⟩
            · show tp' _ = _
              rw [h5.1]; exact (old.2 o ho).1
            · show fs' _ = _
              rw [h5.2]; exact (old.2 o ho).2 h0
      · intro o ho
        have hso : sz o ≤ 9 := (G.2.2 o ho).2.2.1
        refine ⟨fun t t1 t2 => ?_, fun a ha' => ?_⟩
        · by_cases q : t = k
          · subst q; exact (h2 o ho).2.2
          · intro e he
            show W' _ = _
            rw [h4 _ (fun p e' hp he' z => q (wyN_inj (by omega) (by omega) he' (by omega) z).2.2)]
            exact (s2 o ho).1 t (by omega) t2 e he
        · show W' _ = _
          rw [h4 _ (fun p e' hp he' z => by have := (wyN_inj (by omega) (by omega) he' (by omega) z).2.2; omega)]
          exact (s2 o ho).2 a (by omega)
  -- the ends
  have ends := lpP (fun f j (s : (Nat → Int32) × (Nat → Int32) × (Nat → Int32) × (Nat → Int32)) => m_X0_fill_81 S R_operators nA nT nF nW R_size F Lt R_elements n_row row f C_words C_atom s.1 s.2.1 s.2.2.1 s.2.2.2 (nI n) (nI no) (nI j)) (fun r => ∃ al tp fs W, r = some (C_words, C_atom, nA, al, nT, tp, nF, fs, nW, W, nI n, nI no) ∧ chOK no sz el w at0 tk n al tp fs (fun _ _ => True)) (n + 1) (fun j s => 1 ≤ j ∧ chOK no sz el w at0 tk n s.1 s.2.1 s.2.2.1 (fun _ j' => j' < j)) ?_ ?_ n FU 1 (C_all, C_topped, C_firsts, C_ways) (by omega) (by rw [FU_v]; omega) ⟨by omega, fun i' j' h1 h2 h3 => by omega⟩
  · exact ends
  · intro f s ⟨s0, s1⟩
    refine ⟨s.1, s.2.1, s.2.2.1, s.2.2.2, ?_, fun i' j' h1 h2 h3 => s1 i' j' h1 h2 (by omega)⟩
    show (if nI n < nI (n + 1) then _ else _) = _
    rw [if_pos (by rw [nI_lt' (by omega) (by omega)]; omega)]
  · intro f j s hj ⟨s0, s1⟩
    right
    -- all ends of operators are opened
    have opens := lpP (fun g o (V : Nat → Int32) => m_X0_fill_92 S R_operators nA nT nF nW R_size F Lt R_elements n_row row (m_X0_fill_81 S R_operators nA nT nF nW R_size F Lt R_elements n_row row f) g C_words C_atom s.1 s.2.1 s.2.2.1 V (nI n) (nI no) (nI j) (nI o)) (fun r => ∃ V, r = m_X0_fill_119 S R_operators nA nT nF nW R_size F Lt R_elements n_row row (m_X0_fill_81 S R_operators nA nT nF nW R_size F Lt R_elements n_row row f) FU C_words C_atom s.1 s.2.1 s.2.2.1 V (nI n) (nI no) (nI j) (nI j - 1) ∧ ∀ o, o < no → wyOK no sz el w at0 tk (TT no sz el w at0 tk) n V o j j ∧ ∀ a, a < j → V (wyN n o (sz o) a) = nI 0) no (fun o V => ∀ p, p < o → wyOK no sz el w at0 tk (TT no sz el w at0 tk) n V p j j ∧ ∀ a, a < j → V (wyN n p (sz p) a) = nI 0) ?_ ?_ no FU 0 s.2.2.2 (by omega) (by rw [FU_v]; omega) (fun p h => by omega)
    · obtain ⟨V, v1, v2⟩ := opens
      obtain ⟨al', tp', fs', W', h1, h2⟩ := starts (m_X0_fill_81 S R_operators nA nT nF nW R_size F Lt R_elements n_row row f) j s.1 s.2.1 s.2.2.1 V s0 (by omega) s1 v2
      refine ⟨(al', tp', fs', W'), ?_, by omega, h2⟩
      show (if nI n < nI j then _ else _) = _
      rw [if_neg (by rw [nI_lt' (by omega) (by omega)]; omega)]
      exact v1.trans h1
    · intro g V hV
      refine ⟨V, ?_, hV⟩
      show (if nI no ≤ nI no then _ else _) = _
      rw [if_pos (by rw [nI_le' (by omega) (by omega)]; omega)]
    · intro g o V ho hV
      right
      have hso : sz o ≤ 9 := (G.2.2 o ho).2.2.1
      obtain ⟨V', h1, h2, h3, h4⟩ := openEnd_ok (w := w) (at0 := at0) (tk := tk) (T := TT no sz el w at0 tk) G hn hW.1 hW.2 (W := V) ho (show j ≤ n by omega)
      refine ⟨V', ?_, ?_⟩
      · show (if nI no ≤ nI o then _ else _) = _
        rw [if_neg (by rw [nI_le' (by omega) (by omega)]; omega), h1, ob_i, nI_1]
      · intro p hp
        by_cases q : p = o
        · subst q; exact ⟨h2, h3⟩
        · have hsp : sz p ≤ 9 := (G.2.2 p (by omega)).2.2.1
          have keep : ∀ e s, e ≤ 9 → s ≤ n → V' (wyN n p e s) = V (wyN n p e s) := fun e s he hs => h4 _ (fun e' s' he' hs' z => q (wyN_inj he hs he' hs' z).1)
          refine ⟨fun e he => ?_, fun a ha' => ?_⟩
          · rw [keep e j (by omega) (by omega)]; exact (hV p (by omega)).1 e he
          · rw [keep (sz p) a (by omega) (by omega)]; exact (hV p (by omega)).2 a ha'
end FILL
