section PARSE
variable {nn no : Nat} {sz : Nat → Nat} {el : Nat → Nat → Int64} {wy hm : Nat → Nat} {ar : Nat → Nat → Bool} {Rt Ti Rs Rh Rw F Lt C Nd Wy : Nat → Int32} {Re E : Nat → Int64} {Rn Ra Mn Ro O : Int32}
set_option maxHeartbeats 2000000 in
theorem parse_ok {n : Nat} {f : Nat → Nat} {Xb Mt : Nat → Int32} (T : TX n f Xb Mt) (G : IG nn ar Rt Rn Ra Mn Ti) (H : IO no sz el wy hm Rs Rh Rw Re Ro O E C Nd Wy) (K : IF no sz el wy hm ar F Lt) {na nt nf nw : Nat} (hna : na ≤ 820) (hnt : nt ≤ 24600) (hnf : nf ≤ 24600) (hnw : nw ≤ 12300) (d1 d2 m1 m2 : Int32) (Xw C1w : Nat → Int64) (C1a al tp fs W : Nat → Int32) (C1s C1o : Int32) (Tk : Nat → Int32) (Wd Cw Z : Nat → Int64) (wc : Int32) (Cs Wo Ih : Nat → Int32) : ∃ r, (∃ Xw' Wd' wc', m_X8_parse (q_X8_parse d1 d2 Xb Xw (nI n) Rs F Lt Re Ro C1w C1a na al nt tp nf fs nw W C1s C1o) d1 d2 Xb Xw (nI n) Rs F Lt Re Ro C1w C1a na al nt tp nf fs nw W C1s C1o = some (r, d1, d2, Xw', C1w, C1a, na, al, nt, tp, nf, fs, nw, W, C1s, C1o) ∧ m_X9_parse Ti O E C Nd Wy Tk Mt (nI n) Wd wc Cw Cs Wo Ih m1 Z m2 = some (r, Tk, Wd', wc', Cw, Cs, Wo, Ih, m1, Z, m2) ∧ q_X8_parse d1 d2 Xb Xw (nI n) Rs F Lt Re Ro C1w C1a na al nt tp nf fs nw W C1s C1o = 0) ∨ ∃ Xw' C1w' C1a' na' al' nt' tp' nf' fs' nw' W' C1s' C1o' Tk' Wd' wc' Cw' Cs' Wo' Ih' Z' n' w', m_X8_parse (q_X8_parse d1 d2 Xb Xw (nI n) Rs F Lt Re Ro C1w C1a na al nt tp nf fs nw W C1s C1o) d1 d2 Xb Xw (nI n) Rs F Lt Re Ro C1w C1a na al nt tp nf fs nw W C1s C1o = some (r, 1, 0, Xw', C1w', C1a', na', al', nt', tp', nf', fs', nw', W', C1s', C1o') ∧ m_X9_parse Ti O E C Nd Wy Tk Mt (nI n) Wd wc Cw Cs Wo Ih m1 Z m2 = some (r, Tk', Wd', wc', Cw', Cs', Wo', Ih', 1, Z', 0) ∧ (na' ≤ 820 ∧ nt' ≤ 24600 ∧ nf' ≤ 24600 ∧ nw' ≤ 12300) ∧ q_X8_parse d1 d2 Xb Xw (nI n) Rs F Lt Re Ro C1w C1a na al nt tp nf fs nw W C1s C1o + phi4 na nt nf nw ≤ phi4 na' nt' nf' nw' ∧ IPd no sz el wy hm ar Rs Re F Lt C1w' C1a' na' al' nt' tp' nf' fs' nw' C1s' C1o' Tk' Cw' Cs' Wo' Ih' n' w' := by
  obtain ⟨g1, g2, g3, g4, g5, g6, g7⟩ := G
  have hG : RG Rs Re (nI no) no sz el := by have := H.1; rw [← this.1]; exact this
  have hM : RG C E (nI no) no sz el := by have := H.2.1; rw [← this.1]; exact this
  have hno : no ≤ 30 := hG.2.1
  have hro := H.2.2.2.2.2.2
  have hsp := split_ok T Xw
  have hfw := findWords_ok T Wd wc
  cases hwo : wordsOf f n with
  | none =>
    rw [hwo] at hsp hfw
    obtain ⟨W1, s1⟩ := hsp
    obtain ⟨W2, c2, s2⟩ := hfw
    refine ⟨-5, Or.inl ⟨W1, W2, c2, ?_, ?_, ?_⟩⟩
    · unfold m_X8_parse
      rw [s1, ob_i]
      dsimp only
      rw [if_neg (by decide)]
    · unfold m_X9_parse
      rw [s2, ob_i, if_pos rfl]
    · unfold q_X8_parse
      rw [s1, Option.elim_some, if_neg (by intro z; exact absurd z.1 (show ¬ (0 : Int32) ≤ -1 by decide))]
  | some l =>
    rw [hwo] at hsp hfw
    obtain ⟨W1, s1, s3, s4⟩ := hsp
    obtain ⟨W2, s2, s5⟩ := hfw
    have h0 : (0 : Int32) ≤ nI l.length := by rw [i_0, nI_le' (by omega) (by omega)]; omega
    by_cases q1 : l.length ≤ 40
    · have h40 : nI l.length ≤ 40 := by rw [i_40, nI_le' (by omega) (by omega)]; exact q1
      by_cases q2 : l.length = 0
      · have hz : nI l.length = 0 := by rw [q2]; rfl
        refine ⟨-2, Or.inl ⟨W1, W2, nI l.length, ?_, ?_, ?_⟩⟩
        · unfold m_X8_parse
          rw [s1, ob_i]
          dsimp only
          rw [if_pos h0, if_pos h40, if_pos hz]
        · unfold m_X9_parse
          rw [s2, ob_i]
          dsimp only
          rw [if_neg (show ¬ (1 : Int32) = 0 by decide), if_pos h40, if_pos hz]
        · unfold q_X8_parse
          rw [s1, Option.elim_some, if_neg (fun z => z.2.2 hz)]
      · have hz : ¬ nI l.length = 0 := by rw [nI_eq0' (by omega)]; exact q2
        have hq : q_X8_parse d1 d2 Xb Xw (nI n) Rs F Lt Re Ro C1w C1a na al nt tp nf fs nw W C1s C1o = q_room na nt nf nw (nI l.length) (nI no) := by
          unfold q_X8_parse
          rw [s1, Option.elim_some, if_pos ⟨h0, h40, hz⟩, H.1.1]
        obtain ⟨C1w', C1a', na', al', nt', tp', nf', fs', nw', W', f1, f2, f3, f4, f5⟩ := fill_ok hG (GrOK_of hG hro K) (n := l.length) (n_row := 750) q1 s3 (by omega) hna hnt hnf hnw C1w C1a al tp fs W C1s C1o W1
        -- the reference: the words
        have loop := lpP (σ := Nat → Int64) (fun k i s => m_X9_parse_34 O (nI n) Ti E C Nd Wy Mt k Tk W2 (nI l.length) s Cs Wo Ih m1 Z m2 (nI i)) (fun r => ∃ Cw', (∀ k, k < l.length → Cw' k = W1 k) ∧ r = (Option.bind (m_X9_findTakes Ti O E C Nd Wy Tk) (fun r_2 => Option.bind (m_X9_findChart O E C r_2 Cw' Cs Wo Ih Z 0 (nI l.length)) (fun r_4 => Option.bind (m_X9_holeAt r_4.2.2.1 0 0 0 (nI l.length)) (fun r_6 => some (r_6, r_2, W2, nI l.length, Cw', r_4.1, r_4.2.1, r_4.2.2.1, 1, r_4.2.2.2, 0)))))) l.length (fun i s => ∀ k, k < i → s k = W1 k)
          (fun k s hs => by
            have e0 : m_X9_parse_34 O (nI n) Ti E C Nd Wy Mt (k + 1) Tk W2 (nI l.length) s Cs Wo Ih m1 Z m2 (nI l.length) = m_X9_parse_34 O (nI n) Ti E C Nd Wy Mt (k + 1) Tk W2 (nI l.length) s Cs Wo Ih m1 Z m2 (nI l.length) := rfl
            conv at e0 => rhs; unfold m_X9_parse_34
            rw [if_pos (by rw [nI_le' (by omega) (by omega)]; omega)] at e0
            exact ⟨s, hs, e0⟩)
          (fun k i s hi hs => by
            right
            have e0 : m_X9_parse_34 O (nI n) Ti E C Nd Wy Mt (k + 1) Tk W2 (nI l.length) s Cs Wo Ih m1 Z m2 (nI i) = m_X9_parse_34 O (nI n) Ti E C Nd Wy Mt (k + 1) Tk W2 (nI l.length) s Cs Wo Ih m1 Z m2 (nI i) := rfl
            conv at e0 => rhs; unfold m_X9_parse_34
            rw [if_neg (by rw [nI_le' (by omega) (by omega)]; omega), gd_nI (by omega) (by omega), gd_nI (by omega) (by omega), nI_cl (by omega), nI_1] at e0
            refine ⟨_, e0, fun k hk => ?_⟩
            by_cases z : k = i
            · rw [z, pk_uLs, lat_w s5 hi, lat_w s4 hi]
            · rw [pk_uLn z]; exact hs k (by omega))
          l.length FU 0 Cw (by omega) (by rw [FU_v]; omega) (fun k h => by omega)
        obtain ⟨Cw', w1, w2⟩ := loop
        have w2 : m_X9_parse_34 O (nI n) Ti E C Nd Wy Mt FU Tk W2 (nI l.length) Cw Cs Wo Ih m1 Z m2 0 = _ := w2
        obtain ⟨Tk', t1, t2, t3⟩ := findTakes_ok (O := O) H.2.1 H.2.2.2.1 H.2.2.2.2.2.1 g5 Tk
        have hTK : TKS no sz el wy hm ar Tk' := ⟨t2, t3⟩
        have hs : ∀ o, o < no → 1 ≤ sz o ∧ (el o 0 = 95 → 2 ≤ sz o) := fun o ho => ⟨(hG.2.2 o ho).2.1, (rowOK_hs hG hro o ho).1⟩
        obtain ⟨Wo', Ih', Z', x1, x2, x3, x4⟩ := findChart_ok (w := W1) (at0 := atN no sz el W1) hM hs (TKS_TK hM hTK) (Cw := Cw') (n := l.length) (c := 0) q1 (by omega) (fun k hk => by rw [Nat.mul_zero, Nat.zero_add]; exact w1 k hk) (fun _ => rfl) Cs Wo Ih Z
        have x1 : m_X9_findChart (nI no) E C Tk' Cw' Cs Wo Ih Z 0 (nI l.length) = _ := x1
        have hAL := (f4 0 l.length (by omega) (Nat.le_refl _) trivial).1
        have hall : m_X0_all na' al' 0 (nI l.length) = some (nI (AL no (atN no sz el W1) (TT no sz el W1 (atN no sz el W1) (tkc ar hm wy sz el)) 0 l.length)) := by
          have hA := f3.2.2.2.2.2.1
          have := allC_ok (al := al') q1 hA.1 hA.2 (i := 0) (j := l.length) (by omega) (Nat.le_refl _)
          rw [hAL] at this
          exact this
        have href : m_X9_holeAt Ih' 0 0 0 (nI l.length) = some (nI (AL no (atN no sz el W1) (TT no sz el W1 (atN no sz el W1) (tkc ar hm wy sz el)) 0 l.length)) := by
          have := holeAt_ok (Ih := Ih') (c := 0) (t := 0) (i := 0) (l := l.length) (by omega) (by omega) (by omega) (by omega)
          have hI := (x2 0 l.length (by omega) (Nat.le_refl _) trivial).2 0 (by omega)
          rw [Nat.sub_zero] at hI
          rw [hI, hv_AL (TKS_TK hM hTK) hno] at this
          exact this
        refine ⟨nI (AL no (atN no sz el W1) (TT no sz el W1 (atN no sz el W1) (tkc ar hm wy sz el)) 0 l.length), Or.inr ⟨W1, C1w', C1a', na', al', nt', tp', nf', fs', nw', W', nI l.length, nI no, Tk', W2, nI l.length, Cw', upd Cs 0 (nI l.length), Wo', Ih', Z', l.length, W1, ?_, ?_, f2, by rw [hq]; exact f5, by omega, f3, f4, rfl, rfl, pk_us, w1, hTK, x2⟩⟩
        · rw [hq]
          unfold m_X8_parse m_X6_words
          rw [s1, ob_i]
          dsimp only
          rw [if_pos h0, if_pos h40, if_neg hz, ob_i, H.1.1, f1, ob_i]
          dsimp only
          rw [hall, ob_i]
        · unfold m_X9_parse
          rw [s2, ob_i]
          dsimp only
          rw [if_neg (show ¬ (1 : Int32) = 0 by decide), if_pos h40, if_neg hz, w2, t1, ob_i, H.2.1.1, x1, ob_i]
          dsimp only
          rw [href, ob_i]
    · have h40 : ¬ nI l.length ≤ 40 := by rw [i_40, nI_le' (by omega) (by omega)]; exact q1
      refine ⟨-4, Or.inl ⟨W1, W2, nI l.length, ?_, ?_, ?_⟩⟩
      · unfold m_X8_parse
        rw [s1, ob_i]
        dsimp only
        rw [if_pos h0, if_neg h40]
      · unfold m_X9_parse
        rw [s2, ob_i]
        dsimp only
        rw [if_neg (show ¬ (1 : Int32) = 0 by decide), if_neg h40]
      · unfold q_X8_parse
        rw [s1, Option.elim_some, if_neg (fun z => h40 z.2.1)]
end PARSE
