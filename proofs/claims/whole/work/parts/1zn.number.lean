/-! THE TWO SIDES: a told tree's number -/
section CW
variable {no : Nat} {sz : Nat → Nat} {el : Nat → Nat → Int64} {w w' : Nat → Int64} {at0 at0' : Nat → Nat} {tk : Nat → Nat → Nat → Bool} {n : Nat}
theorem HV_cw (ha : ∀ k, k < n → at0 k = at0' k) {T T' : Nat → Nat → Nat → Nat} (hT : ∀ p i j, j ≤ n → T p i j = T' p i j) {o e i j : Nat} (hij : i < j) (hj : j ≤ n) : HV no at0 tk T o e i j = HV no at0' tk T' o e i j := by
  unfold HV at1
  have h1 : (if j = i + 1 then at0 i else 0) = (if j = i + 1 then at0' i else 0) := by
    rw [ha i (by omega)]
  rw [h1]
  congr 2
  exact sm_congr (fun p _ _ => by rw [hT p i j hj])
theorem Wx_cw (hw : ∀ k, k < n → w k = w' k) (ha : ∀ k, k < n → at0 k = at0' k) {T T' : Nat → Nat → Nat → Nat} (hT : ∀ p i j, j ≤ n → T p i j = T' p i j) {o : Nat} : ∀ {d i j : Nat}, j ≤ n → Wx no sz el w at0 tk T o d i j = Wx no sz el w' at0' tk T' o d i j := by
  intro d
  induction d with
  | zero => intro i j _; rfl
  | succ d ih =>
    intro i j hj
    unfold Wx
    by_cases q : el o (sz o - (d + 1)) = 95
    · rw [if_pos q, if_pos q]
      exact sm_congr (fun m h1 h2 => by rw [HV_cw ha hT (by omega) (by omega), ih (by omega)])
    · rw [if_neg q, if_neg q]
      by_cases q2 : i < j
      · rw [hw i (by omega), ih hj]
      · rw [if_neg (fun z => q2 z.1), if_neg (fun z => q2 z.1)]
theorem tT_cw (hw : ∀ k, k < n → w k = w' k) (ha : ∀ k, k < n → at0 k = at0' k) : ∀ (L : Nat) (o i j : Nat), j ≤ n → tT no sz el w at0 tk L o i j = tT no sz el w' at0' tk L o i j := by
  intro L
  induction L with
  | zero => intro o i j _; rfl
  | succ L ih =>
    intro o i j hj
    show cap (Wx no sz el w at0 tk (tT no sz el w at0 tk L) o (sz o) i j) = cap (Wx no sz el w' at0' tk (tT no sz el w' at0' tk L) o (sz o) i j)
    rw [Wx_cw hw ha (fun p i j h => ih p i j h) hj]
theorem TT_cw (hw : ∀ k, k < n → w k = w' k) (ha : ∀ k, k < n → at0 k = at0' k) {o i j : Nat} (hj : j ≤ n) : TT no sz el w at0 tk o i j = TT no sz el w' at0' tk o i j := tT_cw hw ha _ o i j hj
theorem chOK_cw (hw : ∀ k, k < n → w k = w' k) (ha : ∀ k, k < n → at0 k = at0' k) {al tp fs : Nat → Int32} (h : chOK no sz el w at0 tk n al tp fs (fun _ _ => True)) : chOK no sz el w' at0' tk n al tp fs (fun _ _ => True) := by
  intro i j hij hj _
  obtain ⟨h1, h2⟩ := h i j hij hj trivial
  have hT : ∀ p i j, j ≤ n → TT no sz el w at0 tk p i j = TT no sz el w' at0' tk p i j := fun p i j hj => TT_cw hw ha hj
  refine ⟨?_, fun o ho => ?_⟩
  · rw [h1]
    unfold AL at1
    have e1 : (if j = i + 1 then at0 i else 0) = (if j = i + 1 then at0' i else 0) := by rw [ha i (by omega)]
    rw [e1, sm_congr (fun p _ _ => hT p i j hj)]
  · obtain ⟨h3, h4⟩ := h2 o ho
    exact ⟨by rw [h3, hT o i j hj], fun z => by rw [h4 z, HV_cw ha hT hij hj]⟩
theorem atN_cw (hw : ∀ k, k < n → w k = w' k) : ∀ k, k < n → atN no sz el w k = atN no sz el w' k := fun k hk => by unfold atN; rw [hw k hk]
theorem CEnv_cw {Rs : Nat → Int32} {Re : Nat → Int64} {F Lt : Nat → Int32} {C1w : Nat → Int64} {C1a : Nat → Int32} {na nt nf nw : Nat} (hw : ∀ k, k < n → w k = w' k) (h : CEnv Rs Re F Lt no sz el w (atN no sz el w) tk n C1w C1a na nt nf nw) : CEnv Rs Re F Lt no sz el w' (atN no sz el w') tk n C1w C1a na nt nf nw := by
  obtain ⟨G, hn, h3, h4, h5, h6⟩ := h
  exact ⟨G, hn, fun k hk => by rw [← hw k hk]; exact h3 k hk, fun k hk => by rw [← atN_cw hw k hk]; exact h4 k hk, fun k => atN_le k, h6⟩
end CW
theorem hd95_one {S : List En} (h : hd95 S = true) : ∃ e, S = [e] ∧ e.1 = 95 := by
  cases S with
  | nil => cases h
  | cons e S =>
    by_cases q : S = []
    · subst q
      have h : (e.1 == 95) = true := h
      exact ⟨e, rfl, by simpa using h⟩
    · rw [hd95_2 q] at h; cases h
section NUMBER
variable {nn no : Nat} {sz : Nat → Nat} {el : Nat → Nat → Int64} {wy hm : Nat → Nat} {ar : Nat → Nat → Bool} {Rt Ti Rs Rh Rw F Lt C Nd Wy : Nat → Int32} {Re E : Nat → Int64} {Rn Ra Mn : Int32}
set_option maxHeartbeats 4000000 in
theorem number_ok {n : Nat} {f : Nat → Nat} {Xb Mt : Nat → Int32} (T : TX n f Xb Mt) (G : IG nn ar Rt Rn Ra Mn Ti) (H : IO no sz el wy hm Rs Rh Rw Re (nI no) (nI no) E C Nd Wy) (K : IF no sz el wy hm ar F Lt) {na nt nf nw : Nat} (hna : na ≤ 820) (hnt : nt ≤ 24600) (hnf : nf ≤ 24600) (hnw : nw ≤ 12300) (Xw C2w : Nat → Int64) (C2a al tp fs W : Nat → Int32) (C2s C2o : Int32) (Ew Sg : Nat → Int64) (Mk : Nat → Int32) (xs xh xd xm : Int32) (T2t T2f T2e T2d : Nat → Int32) (xt : Int32) (Nw Nm Tk : Nat → Int32) (Wd Cw Z Rr : Nat → Int64) (wc : Int32) (Cs Wo Ih To Tf Tw Tu Tel : Nat → Int32) (Tn : Nat → Int64) (tn : Int32) (Ot : Nat → Int32) (Sd : Nat → Int64) (Stt Sf : Nat → Int32) (sn : Int32) : ∃ c d, m_X8_number (q_X8_number Xb Xw (nI n) Rs F Lt Re (nI no) C2w C2a na al nt tp nf fs nw W C2s C2o Ew Sg Mk xs xh xd xm T2t T2f T2e T2d xt Nw Nm) Xb Xw (nI n) Rs F Lt Re (nI no) C2w C2a na al nt tp nf fs nw W C2s C2o Ew Sg Mk xs xh xd xm T2t T2f T2e T2d xt Nw Nm = some c ∧ m_X9_number Ti (nI no) E C Nd Wy Tk Mt (nI n) Wd wc Cw Cs Wo Ih Z Rr To Tf Tw Tu Tel Tn tn Ot Sd Stt Sf sn = some d ∧ c.1 = d.1 ∧ (c.2.2.2.2.1 ≤ 820 ∧ c.2.2.2.2.2.2.1 ≤ 24600 ∧ c.2.2.2.2.2.2.2.2.1 ≤ 24600 ∧ c.2.2.2.2.2.2.2.2.2.2.1 ≤ 12300) ∧ q_X8_number Xb Xw (nI n) Rs F Lt Re (nI no) C2w C2a na al nt tp nf fs nw W C2s C2o Ew Sg Mk xs xh xd xm T2t T2f T2e T2d xt Nw Nm + phi4 na nt nf nw ≤ phi4 c.2.2.2.2.1 c.2.2.2.2.2.2.1 c.2.2.2.2.2.2.2.2.1 c.2.2.2.2.2.2.2.2.2.2.1 ∧ (∀ k, k < 40 → d.2.2.2.2.1 k = Cw k) ∧ d.2.2.2.2.2.1 0 = Cs 0 ∧ (∀ q, q < 50430 → d.2.2.2.2.2.2.1 q = Wo q) ∧ (∀ q, q < 102541 → d.2.2.2.2.2.2.2.1 q = Ih q) ∧ (d.2.1 = Tk ∨ TKS no sz el wy hm ar d.2.1) := by
  obtain ⟨g1, g2, g3, g4, g5, g6, g7⟩ := G
  have hG := H.1
  have hM := H.2.1
  have hno : no ≤ 30 := hG.2.1
  have hro := H.2.2.2.2.2.2
  have p40 := isPart_ok hG 40
  have p41 := isPart_ok hG 41
  have r40 := mPart_ok hM 40
  have r41 := mPart_ok hM 41
  have e1 : ∀ Q, m_X8_number Q Xb Xw (nI n) Rs F Lt Re (nI no) C2w C2a na al nt tp nf fs nw W C2s C2o Ew Sg Mk xs xh xd xm T2t T2f T2e T2d xt Nw Nm = m_X8_number Q Xb Xw (nI n) Rs F Lt Re (nI no) C2w C2a na al nt tp nf fs nw W C2s C2o Ew Sg Mk xs xh xd xm T2t T2f T2e T2d xt Nw Nm := fun _ => rfl
  conv at e1 => intro Q; rhs; unfold m_X8_number m_X6_words m_X3_size m_X3_hasMisfit m_X3_words m_X3_tree
  have e2 : m_X9_number Ti (nI no) E C Nd Wy Tk Mt (nI n) Wd wc Cw Cs Wo Ih Z Rr To Tf Tw Tu Tel Tn tn Ot Sd Stt Sf sn = m_X9_number Ti (nI no) E C Nd Wy Tk Mt (nI n) Wd wc Cw Cs Wo Ih Z Rr To Tf Tw Tu Tel Tn tn Ot Sd Stt Sf sn := rfl
  conv at e2 => rhs; unfold m_X9_number
  by_cases b40 : partB no sz el 40 = true
  · have hq : q_X8_number Xb Xw (nI n) Rs F Lt Re (nI no) C2w C2a na al nt tp nf fs nw W C2s C2o Ew Sg Mk xs xh xd xm T2t T2f T2e T2d xt Nw Nm = 0 := by
      unfold q_X8_number
      rw [p40, p41, Option.elim_some, Option.elim_some, if_neg (fun z => by rw [bi_t b40] at z; exact absurd z.1 (by decide))]
    have e1 := e1 (q_X8_number Xb Xw (nI n) Rs F Lt Re (nI no) C2w C2a na al nt tp nf fs nw W C2s C2o Ew Sg Mk xs xh xd xm T2t T2f T2e T2d xt Nw Nm)
    rw [p40, ob_i, if_neg (by rw [bi_t b40]; decide)] at e1
    rw [r40, ob_i, if_neg (by rw [bi_t b40]; decide)] at e2
    exact ⟨_, _, e1, e2, rfl, ⟨hna, hnt, hnf, hnw⟩, by rw [hq, Nat.zero_add]; exact Nat.le_refl _, fun _ _ => rfl, rfl, fun _ _ => rfl, fun _ _ => rfl, Or.inl rfl⟩
  · rw [r40, ob_i, if_pos (by rw [bi_f b40]), r41, ob_i] at e2
    have e1 : ∀ Q, m_X8_number Q Xb Xw (nI n) Rs F Lt Re (nI no) C2w C2a na al nt tp nf fs nw W C2s C2o Ew Sg Mk xs xh xd xm T2t T2f T2e T2d xt Nw Nm = _ := fun Q => (e1 Q).trans (by rw [p40, ob_i, if_pos (by rw [bi_f b40]), p41, ob_i])
    by_cases b41 : partB no sz el 41 = true
    · have hq : q_X8_number Xb Xw (nI n) Rs F Lt Re (nI no) C2w C2a na al nt tp nf fs nw W C2s C2o Ew Sg Mk xs xh xd xm T2t T2f T2e T2d xt Nw Nm = 0 := by
        unfold q_X8_number
        rw [p40, p41, Option.elim_some, Option.elim_some, if_neg (fun z => by rw [bi_t b41] at z; exact absurd z.2 (by decide))]
      have e1 := e1 (q_X8_number Xb Xw (nI n) Rs F Lt Re (nI no) C2w C2a na al nt tp nf fs nw W C2s C2o Ew Sg Mk xs xh xd xm T2t T2f T2e T2d xt Nw Nm)
      rw [if_neg (by rw [bi_t b41]; decide)] at e1
      rw [if_neg (by rw [bi_t b41]; decide)] at e2
      exact ⟨_, _, e1, e2, rfl, ⟨hna, hnt, hnf, hnw⟩, by rw [hq, Nat.zero_add]; exact Nat.le_refl _, fun _ _ => rfl, rfl, fun _ _ => rfl, fun _ _ => rfl, Or.inl rfl⟩
    · have h41 : ∀ o e, o < no → e < sz o → ¬ el o e = 41 := by
        intro o e ho he z
        apply b41
        unfold partB
        rw [Bool.and_eq_true]
        refine ⟨by decide, anyB_iff.mpr ⟨o, by omega, by omega, anyB_iff.mpr ⟨e, by omega, by omega, by simpa using z⟩⟩⟩
      have hq0 : q_X8_number Xb Xw (nI n) Rs F Lt Re (nI no) C2w C2a na al nt tp nf fs nw W C2s C2o Ew Sg Mk xs xh xd xm T2t T2f T2e T2d xt Nw Nm = (m_X6_split Xb Xw (nI n)).elim 0 (fun r7 => if r7.1 < 0 then 0 else (m_X3_reads Ew Sg Mk xs xh xd xm Rs F Lt Re (nI no) T2t T2f T2e T2d xt 750 r7.2 r7.1).elim 0 (fun r12 => if ¬ r12.1 = 0 ∧ r12.2.2.2.2.1 ≤ 40 ∧ r12.2.2.2.2.2.2.2.1 = 0 then q_room na nt nf nw r12.2.2.2.2.1 (nI no) else 0)) := by
        unfold q_X8_number
        rw [p40, p41, Option.elim_some, Option.elim_some, if_pos ⟨bi_f b40, bi_f b41⟩]
      rw [if_pos (by rw [bi_f b41])] at e2
      have e1 : ∀ Q, m_X8_number Q Xb Xw (nI n) Rs F Lt Re (nI no) C2w C2a na al nt tp nf fs nw W C2s C2o Ew Sg Mk xs xh xd xm T2t T2f T2e T2d xt Nw Nm = _ := fun Q => (e1 Q).trans (if_pos (by rw [bi_f b41]))
      have hsp := split_ok T Xw
      have hfw := findWords_ok T Wd wc
      cases hwo : wordsOf f n with
      | none =>
        rw [hwo] at hsp hfw
        obtain ⟨W1, s1⟩ := hsp
        obtain ⟨W2, c2, s2⟩ := hfw
        have hq : q_X8_number Xb Xw (nI n) Rs F Lt Re (nI no) C2w C2a na al nt tp nf fs nw W C2s C2o Ew Sg Mk xs xh xd xm T2t T2f T2e T2d xt Nw Nm = 0 := by
          rw [hq0, s1, Option.elim_some, if_pos (show (-1 : Int32) < 0 by decide)]
        have e1 := e1 (q_X8_number Xb Xw (nI n) Rs F Lt Re (nI no) C2w C2a na al nt tp nf fs nw W C2s C2o Ew Sg Mk xs xh xd xm T2t T2f T2e T2d xt Nw Nm)
        rw [s1, ob_i, if_pos (show (-1 : Int32) < 0 by decide)] at e1
        rw [s2, ob_i, if_pos rfl] at e2
        exact ⟨_, _, e1, e2, rfl, ⟨hna, hnt, hnf, hnw⟩, by rw [hq, Nat.zero_add]; exact Nat.le_refl _, fun _ _ => rfl, rfl, fun _ _ => rfl, fun _ _ => rfl, Or.inl rfl⟩
      | some ws =>
        rw [hwo] at hsp hfw
        obtain ⟨W1, s1, s3, s4⟩ := hsp
        obtain ⟨W2, s2, s5⟩ := hfw
        have hlp := nI_pos (show ws.length < 2 ^ 31 by omega)
        have e1 : ∀ Q, m_X8_number Q Xb Xw (nI n) Rs F Lt Re (nI no) C2w C2a na al nt tp nf fs nw W C2s C2o Ew Sg Mk xs xh xd xm T2t T2f T2e T2d xt Nw Nm = _ := fun Q => (e1 Q).trans (by rw [s1, ob_i, if_neg hlp, ob_i])
        rw [s2, ob_i, if_neg (show ¬ (1 : Int32) = 0 by decide)] at e2
        have hq0 : q_X8_number Xb Xw (nI n) Rs F Lt Re (nI no) C2w C2a na al nt tp nf fs nw W C2s C2o Ew Sg Mk xs xh xd xm T2t T2f T2e T2d xt Nw Nm = _ := hq0.trans (by rw [s1, Option.elim_some, if_neg hlp])
        obtain ⟨Tk', t1, t2, t3⟩ := findTakes_ok hM H.2.2.2.1 H.2.2.2.2.2.1 g5 Tk
        have hTK : TKS no sz el wy hm ar Tk' := ⟨t2, t3⟩
        have hK := TKS_TK hM hTK
        have hQ := GrOK_of hG hro K
        have hcl := reads_ok hG hQ hK (n_row := 750) s4 s3 (by omega) s3 Ew Sg Mk T2t T2f T2e T2d xs xh xd xm xt
        have hrf := readTold_ok (w := wOf (nb ws)) (at0 := atN no sz el (wOf (nb ws))) (tk := (tkc ar hm wy sz el)) (Tk := Tk') hM h41 rfl (fun _ => rfl) s5 rfl s3 Cw To Tf Tw Tu Tel tn Ot Sd Stt Sf sn
        rcases hcl with ⟨k1, r12, k2, k3⟩ | ⟨S', Ew', Sg', Mk', xs', xh', xd', xm', Tt', Tf', Te', Td', xt', k1, k2, k3, k4, k5, k6, k7⟩
        · rcases hrf with ⟨l1, r45, l2, l3, l4⟩ | ⟨S', Cw', To', Tf', Tw', Tu', Tel', tn', Ot', Sd', Stt', Sf', sn', l1, l2, l3⟩
          · have hq : q_X8_number Xb Xw (nI n) Rs F Lt Re (nI no) C2w C2a na al nt tp nf fs nw W C2s C2o Ew Sg Mk xs xh xd xm T2t T2f T2e T2d xt Nw Nm = 0 := by
              rw [hq0, k2, Option.elim_some, if_neg (fun z => z.1 k3)]
            have e1 := e1 (q_X8_number Xb Xw (nI n) Rs F Lt Re (nI no) C2w C2a na al nt tp nf fs nw W C2s C2o Ew Sg Mk xs xh xd xm T2t T2f T2e T2d xt Nw Nm)
            rw [k2, ob_i, if_pos k3] at e1
            rw [l2, ob_i, l3, if_neg (show ¬ (0 : Int32) ≤ -5 by decide)] at e2
            exact ⟨_, _, e1, e2, rfl, ⟨hna, hnt, hnf, hnw⟩, by rw [hq, Nat.zero_add]; exact Nat.le_refl _, l4, rfl, fun _ _ => rfl, fun _ _ => rfl, Or.inl rfl⟩
          · exact absurd ⟨S', l1, l2⟩ k1
        · rcases hrf with ⟨l1, r45, l2, l3, l4⟩ | ⟨S'', Cw', To', Tfi', Tw', Tu', Tel', tn', Ot', Sd', Stt', Sf', sn', l1, l2, l3, l4, l5, l6, l7⟩
          · exact absurd ⟨S', k1, k2⟩ l1
          · have : S'' = S' := Option.some.inj (l1.symm.trans k1)
            subst this
            obtain ⟨e, he, h95⟩ := hd95_one k2
            subst he
            obtain ⟨r1, r2, r3, r4, r5, r6, r7, r8, r9⟩ := k4
            obtain ⟨y1, y2, y3, y4, y5, y6⟩ := l4
            obtain ⟨-, v2⟩ := l5
            rw [if_neg (by rw [h95]; decide)] at v2
            unfold vgA at v2
            rw [if_pos h95] at v2
            obtain ⟨a1, a2, a3, ⟨Fu, a4⟩, a5⟩ := v2
            have hpos : pos [e] = e.2.2.1 := a5.symm
            have hfl : flatS [e] = e.2.2.2.2.2 := by
              show flatS [] ++ itE e 0 = _
              unfold itE
              rw [if_neg (by rw [h95]; decide)]; rfl
            obtain ⟨v, hv⟩ := a4 0 (by omega)
            have hv : trA Tu' Tel' no sz el (wOf (nb ws)) (atN no sz el (wOf (nb ws))) (tkc ar hm wy sz el) Tk' Fu 0 0 0 e.2.2.1 0 e.2.2.2.2.2 v (fitE Tk' 0 e.2.2.2.1 && e.2.2.2.2.1) := hv
            have hcc := (k5.2.1 h95).1
            have hfit : fitE Tk' 0 e.2.2.2.1 = true := by
              unfold fitE
              by_cases z : e.2.2.2.1 = 0
              · simp [z]
              · rw [t2, bt_m1 (by omega)]; simp
            rw [hfit, Bool.true_and] at hv
            have htr := trA_tr hv
            have hpt : ∀ o, o < no → ∃ e, e < sz o ∧ ¬ el o e = 95 := fun o ho => (hro o ho).1
            have hlen := tr_len hpt htr
            have hm1 : 0 < e.2.2.1 := a2
            rw [hpos] at r1 r3 y1 l3 l6 k6
            rw [hfl] at r7 r8 r9 y4 y5
            have e1 : ∀ Q, m_X8_number Q Xb Xw (nI n) Rs F Lt Re (nI no) C2w C2a na al nt tp nf fs nw W C2s C2o Ew Sg Mk xs xh xd xm T2t T2f T2e T2d xt Nw Nm = _ := fun Q => (e1 Q).trans (by rw [k3, ob_i, if_neg (show ¬ (1 : Int32) = 0 by decide), ob_i])
            rw [l3, ob_i, if_pos (show 0 ≤ nI e.2.2.1 by rw [i_0, nI_le' (by omega) (by omega)]; omega)] at e2
            have hq0 : q_X8_number Xb Xw (nI n) Rs F Lt Re (nI no) C2w C2a na al nt tp nf fs nw W C2s C2o Ew Sg Mk xs xh xd xm T2t T2f T2e T2d xt Nw Nm = _ := hq0.trans (by rw [k3, Option.elim_some])
            have e1 : ∀ Q, m_X8_number Q Xb Xw (nI n) Rs F Lt Re (nI no) C2w C2a na al nt tp nf fs nw W C2s C2o Ew Sg Mk xs xh xd xm T2t T2f T2e T2d xt Nw Nm = _ := fun Q => (e1 Q).trans (by rw [r3])
            rw [r3] at hq0
            by_cases hm : e.2.2.1 ≤ 40
            · have h40 : nI e.2.2.1 ≤ 40 := by rw [i_40, nI_le' (by omega) (by omega)]; exact hm
              have e1 : ∀ Q, m_X8_number Q Xb Xw (nI n) Rs F Lt Re (nI no) C2w C2a na al nt tp nf fs nw W C2s C2o Ew Sg Mk xs xh xd xm T2t T2f T2e T2d xt Nw Nm = _ := fun Q => (e1 Q).trans (if_pos h40)
              have hs : ∀ o, o < no → 1 ≤ sz o ∧ (el o 0 = 95 → 2 ≤ sz o) := fun o ho => ⟨(hG.2.2 o ho).2.1, (rowOK_hs hG hro o ho).1⟩
              obtain ⟨Wo', Ih', Z', x1, x2, x3, x4⟩ := findChart_ok (w := wOf (nb ws)) (at0 := atN no sz el (wOf (nb ws))) hM hs hK (Cw := Cw') (n := e.2.2.1) (c := 1) hm (by omega) (fun k hk => by rw [Nat.mul_one]; exact y1 k hk (by omega)) (fun _ => rfl) Cs Wo Ih Z
              have x1 : m_X9_findChart (nI no) E C Tk' Cw' Cs Wo Ih Z 1 (nI e.2.2.1) = _ := x1
              obtain ⟨Rr', Tn', n1⟩ := num71_ok (ts := nI n) (Ti := Ti) (Nd := Nd) (Wy := Wy) (Tx := Mt) (Wd := W2) (wcI := nI ws.length) (Cs := upd Cs 1 (nI e.2.2.1)) (Z := Z') (tn := tn') (Ot := Ot') (Sd := Sd') (Stt := Stt') (Sf := Sf') (sn := sn') hM hK hm (fun k hk => y1 k hk (by omega)) (fun _ => rfl) x2 y4 (by omega) hv a3 Rr Tn
              rw [if_pos h40, t1, ob_i, x1, ob_i, y5] at e2
              dsimp only at e2
              rw [y5] at n1
              have e2 := e2.trans n1
              have hfr1 : ∀ q, q < 50430 → Wo' q = Wo q := fun q hq => x3 q (fun o i l _ _ _ => by unfold mwN; omega)
              have hfr2 : ∀ q, q < 102541 → Ih' q = Ih q := fun q hq => x4 q (fun o i l _ _ _ => by unfold mhN; omega)
              have hcs0 : upd Cs 1 (nI e.2.2.1) 0 = Cs 0 := pk_un (show 0 ≠ 1 by decide)
              have hxm := r7 (by omega)
              have hxm : xm' = bi ((e.2.2.2.2.1 && true) = false) := hxm
              rw [Bool.and_true] at hxm
              cases hg0 : e.2.2.2.2.1 with
              | false =>
                rw [hg0] at hxm e2
                have hx1 : xm' = 1 := hxm
                have hq : q_X8_number Xb Xw (nI n) Rs F Lt Re (nI no) C2w C2a na al nt tp nf fs nw W C2s C2o Ew Sg Mk xs xh xd xm T2t T2f T2e T2d xt Nw Nm = 0 := by
                  rw [hq0, if_neg (fun z => by rw [hx1] at z; exact absurd z.2.2 (show ¬ (1 : Int32) = 0 by decide))]
                have e1 := e1 (q_X8_number Xb Xw (nI n) Rs F Lt Re (nI no) C2w C2a na al nt tp nf fs nw W C2s C2o Ew Sg Mk xs xh xd xm T2t T2f T2e T2d xt Nw Nm)
                rw [hx1, gb_1, ob_i, if_neg (show ¬ (1 : Int32) = 0 by decide)] at e1
                exact ⟨_, _, e1, e2, rfl, ⟨hna, hnt, hnf, hnw⟩, by rw [hq, Nat.zero_add]; exact Nat.le_refl _, y2, hcs0, hfr1, hfr2, Or.inr hTK⟩
              | true =>
                rw [hg0] at hxm e2
                have hx0 : xm' = 0 := hxm
                have hq : q_X8_number Xb Xw (nI n) Rs F Lt Re (nI no) C2w C2a na al nt tp nf fs nw W C2s C2o Ew Sg Mk xs xh xd xm T2t T2f T2e T2d xt Nw Nm = q_room na nt nf nw (nI e.2.2.1) (nI no) := by
                  rw [hq0, if_pos ⟨show ¬ (1 : Int32) = 0 by decide, h40, hx0⟩]
                obtain ⟨C2w', C2a', na', al', nt', tp', nf', fs', nw', W', f1, f2, f3, f4, f5⟩ := fill_ok hG hQ (n := e.2.2.1) (n_row := 40) hm hm (by omega) hna hnt hnf hnw C2w C2a al tp fs W C2s C2o Ew'
                have hww : ∀ k, k < e.2.2.1 → Ew' k = wOf (nb ws) k := fun k hk => r1 k hk (by omega)
                have hTT : itT Tt' Tf' Te' Td' e.2.2.2.2.2 := by
                  rw [List.take_of_length_le (by omega)] at r8; exact r8
                obtain ⟨Nw', Nm', W'', rk⟩ := rank_ok (CEnv_cw hww f3) (chOK_cw hww (atN_cw hww) f4) hK (by omega) hTT htr Nw Nm W'
                have hxt : xt' = nI e.2.2.2.2.2.length := by rw [r9]; congr 1; omega
                have e1 := e1 (q_room na nt nf nw (nI e.2.2.1) (nI no))
                rw [hx0, gb_0, ob_i, if_pos rfl, ob_i, ob_i, f1, ob_i, ob_i] at e1
                dsimp only at e1
                rw [hxt, rk, ob_i] at e1
                rw [← hq] at e1
                exact ⟨_, _, e1, e2, rfl, f2, by rw [hq]; exact f5, y2, hcs0, hfr1, hfr2, Or.inr hTK⟩
            · have h40 : ¬ nI e.2.2.1 ≤ 40 := by rw [i_40, nI_le' (by omega) (by omega)]; exact hm
              have hq : q_X8_number Xb Xw (nI n) Rs F Lt Re (nI no) C2w C2a na al nt tp nf fs nw W C2s C2o Ew Sg Mk xs xh xd xm T2t T2f T2e T2d xt Nw Nm = 0 := by
                rw [hq0, if_neg (fun z => h40 z.2.1)]
              have e1 := (e1 (q_X8_number Xb Xw (nI n) Rs F Lt Re (nI no) C2w C2a na al nt tp nf fs nw W C2s C2o Ew Sg Mk xs xh xd xm T2t T2f T2e T2d xt Nw Nm)).trans (if_neg h40)
              rw [if_neg h40] at e2
              exact ⟨_, _, e1, e2, rfl, ⟨hna, hnt, hnf, hnw⟩, by rw [hq, Nat.zero_add]; exact Nat.le_refl _, y2, rfl, fun _ _ => rfl, fun _ _ => rfl, Or.inl rfl⟩
end NUMBER
