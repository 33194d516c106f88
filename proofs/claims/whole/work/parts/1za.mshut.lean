theorem spl_some : ∀ {S : List En}, 1 ≤ nop S → ∃ r, spl S = some r := by
  intro S
  induction S with
  | nil => intro h; exact absurd h (by decide)
  | cons e S ih =>
    intro h
    have h : 1 ≤ (if e.1 = 40 then 1 else 0) + nop S := h
    unfold spl
    by_cases q : e.1 = 40
    · rw [if_pos q]; exact ⟨_, rfl⟩
    · rw [if_neg q, Nat.zero_add] at h
      obtain ⟨r, hr⟩ := ih h
      rw [if_neg q, hr]
      exact ⟨_, rfl⟩
section MSHUT
variable {C : Nat → Int32} {E : Nat → Int64} {no : Nat} {sz : Nat → Nat} {el : Nat → Nat → Int64} {w : Nat → Int64} {at0 : Nat → Nat} {tk : Nat → Nat → Nat → Bool} {Tk : Nat → Int32} {Wd Cw0 : Nat → Int64} {wc : Nat}
set_option maxHeartbeats 1000000 in
theorem shutM_ok (G : RG C E (nI no) no sz el) (h41 : ∀ o e, o < no → e < sz o → ¬ el o e = 41) {Cw : Nat → Int64} {To Tf Tw Tu Tel : Nat → Int32} {tn : Int32} {Ot : Nat → Int32} {Sd : Nat → Int64} {Stt Sf : Nat → Int32} {sn : Int32} {S : List En} {k fu : Nat} {v : Int64} (R : RM w Cw0 Cw To Tf Tw tn Ot Sd Stt Sf sn S) (V : vA Tu Tel no sz el w at0 tk Tk S) (hgood : goodS S) (h95 : hd95 S = false) (hk : k < wc) (hwc : wc ≤ 750) (hv : Wd k = v) (hl : S.length ≤ k) (hf : (flatS S).length ≤ k) (hp : pos S ≤ k) (q : v = 41) (h1 : 1 ≤ nop S) : (stepM no sz el Tk S v = none ∧ ∃ r, m_X9_readTold_19 (nI no) (nI wc) E C Wd (fu + 1) Cw To Tf Tw Tu Tel tn Ot Sd Stt Sf sn (nI (nop S)) (nI (pos S)) 0 (nI k) = some r ∧ r.1 = -5 ∧ ∀ k, k < 40 → r.2.1 k = Cw0 k) ∨ ∃ S' Cw' To' Tf' Tw' Tu' Tel' tn' Ot' Sd' Stt' Sf' sn', stepM no sz el Tk S v = some S' ∧ m_X9_readTold_19 (nI no) (nI wc) E C Wd (fu + 1) Cw To Tf Tw Tu Tel tn Ot Sd Stt Sf sn (nI (nop S)) (nI (pos S)) 0 (nI k) = m_X9_readTold_19 (nI no) (nI wc) E C Wd fu Cw' To' Tf' Tw' Tu' Tel' tn' Ot' Sd' Stt' Sf' sn' (nI (nop S')) (nI (pos S')) (bi (hd95 S' = true)) (nI (k + 1)) ∧ RM w Cw0 Cw' To' Tf' Tw' tn' Ot' Sd' Stt' Sf' sn' S' ∧ vA Tu' Tel' no sz el w at0 tk Tk S' ∧ goodS S' := by
  have hcn := cn_le S
  have hnop := nop_le S
  have hno : no ≤ 30 := G.2.1
  have hb := good_1 hgood h1
  obtain ⟨r1, r2, r3, r4, r5, r6⟩ := R
  obtain ⟨⟨seg, o, rest⟩, hspl⟩ := spl_some h1
  obtain ⟨a1, a2, a3⟩ := spl_ok hspl
  have hst : stepM no sz el Tk S v = shutS no sz el Tk S := by
    unfold stepM stepR
    rw [if_neg (by rw [q]; decide), if_neg (by rw [q]; decide), if_pos q]
  have hnopS : nop S = nop rest + 1 := by
    rw [a1, nop_seg a3]
    show (if o.1 = 40 then 1 else 0) + nop rest = _
    rw [if_pos a2]; omega
  have hcnS : cn S = cn rest + seg.length := by rw [a1]; exact cn_seg a2 a3
  have hflS : (flatS S).length = (flatS rest).length + 1 + (flatA seg.reverse).length := by
    rw [a1, flatS_seg a2 a3, List.length_append, List.length_cons]; omega
  obtain ⟨d1, d2⟩ := repD_seg a2 a3 (by rw [← a1]; exact r3)
  obtain ⟨d3, d4⟩ := d2
  rw [if_pos a2] at d3
  have hA := stC_stA d1 (by omega)
  have hop := operatorOf_ok G h41 hA (by rw [List.length_reverse]; omega)
  rw [List.length_reverse, ← hcnS] at hop
  have e0 : m_X9_readTold_19 (nI no) (nI wc) E C Wd (fu + 1) Cw To Tf Tw Tu Tel tn Ot Sd Stt Sf sn (nI (nop S)) (nI (pos S)) 0 (nI k) = m_X9_readTold_19 (nI no) (nI wc) E C Wd (fu + 1) Cw To Tf Tw Tu Tel tn Ot Sd Stt Sf sn (nI (nop S)) (nI (pos S)) 0 (nI k) := rfl
  conv at e0 => rhs; unfold m_X9_readTold_19
  rw [if_neg (by rw [nI_le' (by omega) (by omega)]; omega), gd_nI (by omega) (by omega), if_pos rfl, nI_cl (by omega), hv, if_neg (fun z => absurd (q.symm.trans ((lg_cmp_eq _ _).mp z)) (by decide)), if_pos ((lg_cmp_eq _ _).mpr q), if_neg (by rw [nI_eq0' (by omega)]; omega), nI_m1, hnopS, nI_pred, gd_nI (by omega) (by omega), nI_cl (by omega), gd_nI (by omega) (by omega), d3.1, d3.2, r6, hop, ob_i] at e0
  rw [hst]
  cases hf : findN no sz el (rowOf seg.reverse) 0 seg.length with
  | none =>
    rw [hf] at e0
    have e0 := e0.trans (if_neg (show ¬ (0 : Int32) ≤ -1 by decide))
    refine Or.inl ⟨?_, _, by rw [hnopS, r6]; exact e0, rfl, r2⟩
    unfold shutS
    rw [hspl]
    dsimp only [Option.bind]
    rw [hf]; rfl
  | some p =>
    rw [hf] at e0
    have hsh : shutS no sz el Tk S = some ((95, o.2.1, pos S, p + 1, segf sz Tk p 0 seg.reverse, (p + 1, o.2.1, pos S, nop rest) :: flatA seg.reverse) :: rest) := by
      unfold shutS
      rw [hspl]
      dsimp only [Option.bind]
      rw [hf]; rfl
    have hf' := hf
    unfold findN at hf'
    obtain ⟨-, f2, f3, -⟩ := srch_some hf'
    rw [Bool.and_eq_true] at f3
    have fp : p < no := by omega
    have fs : sz p = seg.length := by simpa using f3.1
    have fe := isAtB_iff.mp f3.2
    obtain ⟨g1, g2, g3, g4⟩ := G.2.2 p fp
    have e0 := e0.trans (if_pos (show (0 : Int32) ≤ nI p by rw [i_0, nI_le' (by omega) (by omega)]; omega))
    rw [gd_nI (by omega) (by omega), gd_nI (by omega) (by omega), gd_nI (by omega) (by omega), nI_cl (by omega)] at e0
    obtain ⟨v1, v2, v3, v4⟩ := vA_seg a2 a3 (by rw [← a1]; exact V)
    rw [← a1] at v1
    have hfo : (flatS S)[(flatS rest).length]? = some (0, o.2.1, o.2.1, nop rest) := by
      rw [a1, flatS_seg a2 a3, List.getElem?_append_right (Nat.le_refl _), Nat.sub_self]; rfl
    obtain ⟨t1, t2, t3⟩ := r4 _ _ hfo
    have hlt := vgA_le v1
    rw [List.length_reverse] at hlt
    rw [t2] at e0
    dsimp only at e0
    obtain ⟨Tel', fu', z1, z2, z3, z4⟩ := elements_ok (w := w) (at0 := at0) (tk := tk) (Tk := Tk) (Wd := Wd) (wc := wc) G fp (x1 := nop rest) (by omega) (k19 := m_X9_readTold_19 (nI no) (nI wc) E C Wd fu) (Cw := Cw) (To := upd To (flatS rest).length (nI p)) (Tf := Tf) (Tw := upd Tw (flatS rest).length (nI (pos S) - nI o.2.1)) (Tu := Tu) (tn := tn) (Ot := Ot) (Sd := Sd) (Stt := Stt) (Sf := Sf) (sn := sn) (x2 := nI (pos S)) (x4 := nI k) (x7 := nI (flatS rest).length) d3.1 seg.reverse 0 ((flatS rest).length + 1) o.2.1 (pos S) FU Tel (by rw [List.length_reverse]; omega) (by omega) (by omega) (by rw [List.length_reverse, FU_v]; omega) d1 v1
    rw [← r6] at e0
    have e1 := e0.trans z1
    -- the end of the elements
    have e2 : m_X9_readTold_175 (nI no) (nI wc) E C Wd (m_X9_readTold_19 (nI no) (nI wc) E C Wd fu) (fu' + 1) Cw (upd To (flatS rest).length (nI p)) Tf (upd Tw (flatS rest).length (nI (pos S) - nI o.2.1)) Tu Tel' tn Ot Sd Stt Sf sn (nI (nop rest)) (nI (pos S)) (nI k) (nI (flatS rest).length) (nI p) (nI (sz p)) = m_X9_readTold_19 (nI no) (nI wc) E C Wd fu Cw (upd To (flatS rest).length (nI p)) Tf (upd Tw (flatS rest).length (nI (pos S) - nI o.2.1)) Tu Tel' tn Ot (vp_updL Sd (cn rest) 0) (upd Stt (cn rest) (nI (flatS rest).length)) Sf (nI (cn rest + 1)) (nI (nop rest)) (nI (pos S)) (bi (nop rest = 0)) (nI (k + 1)) := by
      have y0 : m_X9_readTold_175 (nI no) (nI wc) E C Wd (m_X9_readTold_19 (nI no) (nI wc) E C Wd fu) (fu' + 1) Cw (upd To (flatS rest).length (nI p)) Tf (upd Tw (flatS rest).length (nI (pos S) - nI o.2.1)) Tu Tel' tn Ot Sd Stt Sf sn (nI (nop rest)) (nI (pos S)) (nI k) (nI (flatS rest).length) (nI p) (nI (sz p)) = m_X9_readTold_175 (nI no) (nI wc) E C Wd (m_X9_readTold_19 (nI no) (nI wc) E C Wd fu) (fu' + 1) Cw (upd To (flatS rest).length (nI p)) Tf (upd Tw (flatS rest).length (nI (pos S) - nI o.2.1)) Tu Tel' tn Ot Sd Stt Sf sn (nI (nop rest)) (nI (pos S)) (nI k) (nI (flatS rest).length) (nI p) (nI (sz p)) := rfl
      conv at y0 => rhs; unfold m_X9_readTold_175
      rw [gd_nI (by omega) (by omega), nI_cl (by omega), g1, if_pos (by rw [nI_le' (by omega) (by omega)]; omega), gd_nI (by omega) (by omega), nI_cl (by omega), d3.1] at y0
      unfold m_X9_stand at y0
      rw [gd_nI (by omega) (by omega), gd_nI (by omega) (by omega), ob_i, nI_cl (by omega), nI_1] at y0
      rw [y0]
      unfold m_X9_readTold_249 m_X9_readTold_347
      dsimp only
      rw [nI_1]
      by_cases z : nop rest = 0
      · rw [if_pos (by rw [z]; rfl), bi_t z]
      · rw [if_neg (by rw [nI_eq0' (by omega)]; exact z), bi_f z]
    have e3 := e1.trans e2
    have e95 : ¬ (95 : Int64) = 40 := by decide
    have hbr : ¬ rest = [] → botO rest = true := by
      intro z
      rw [a1, botO_app, botO_cons z] at hb
      exact hb
    have hr0 : hd95 ((95, o.2.1, pos S, p + 1, segf sz Tk p 0 seg.reverse, (p + 1, o.2.1, pos S, nop rest) :: flatA seg.reverse) :: rest) = true ↔ nop rest = 0 := by
      by_cases z : rest = []
      · subst z; exact ⟨fun _ => rfl, fun _ => rfl⟩
      · rw [hd95_2 z]
        have := botO_nop (hbr z)
        exact ⟨fun y => absurd y (by decide), fun y => by omega⟩
    have hfl : flatS ((95, o.2.1, pos S, p + 1, segf sz Tk p 0 seg.reverse, (p + 1, o.2.1, pos S, nop rest) :: flatA seg.reverse) :: rest) = flatS rest ++ ((p + 1, o.2.1, pos S, nop rest) :: flatA seg.reverse) := by
      show flatS rest ++ itE _ _ = _
      unfold itE
      rw [if_neg e95]
    have hpp : pos ((95, o.2.1, pos S, p + 1, segf sz Tk p 0 seg.reverse, (p + 1, o.2.1, pos S, nop rest) :: flatA seg.reverse) :: rest) = pos S := by
      show (if (95 : Int64) = 40 then _ else if (95 : Int64) = 95 then pos S else _) = _
      rw [if_neg e95, if_pos rfl]
    have hnn : nop ((95, o.2.1, pos S, p + 1, segf sz Tk p 0 seg.reverse, (p + 1, o.2.1, pos S, nop rest) :: flatA seg.reverse) :: rest) = nop rest := by
      show (if (95 : Int64) = 40 then 1 else 0) + nop rest = _
      rw [if_neg e95]; omega
    have hcc : cn ((95, o.2.1, pos S, p + 1, segf sz Tk p 0 seg.reverse, (p + 1, o.2.1, pos S, nop rest) :: flatA seg.reverse) :: rest) = cn rest + 1 := by
      show (if (95 : Int64) = 40 then 0 else 1) + cn rest = _
      rw [if_neg e95]; omega
    refine Or.inr ⟨(95, o.2.1, pos S, p + 1, segf sz Tk p 0 seg.reverse, (p + 1, o.2.1, pos S, nop rest) :: flatA seg.reverse) :: rest, Cw, upd To (flatS rest).length (nI p), Tf, upd Tw (flatS rest).length (nI (pos S) - nI o.2.1), Tu, Tel', tn, Ot, vp_updL Sd (cn rest) 0, upd Stt (cn rest) (nI (flatS rest).length), Sf, nI (cn rest + 1), hsh, ?_, ⟨?_, r2, ?_, ?_, ?_, ?_⟩, ?_, ?_⟩
    · rw [hnn, hpp, bi_congr hr0, hnopS]
      exact e3
    · rw [hpp]; exact r1
    · refine ⟨?_, repD_frame (fun q' hq' => ⟨pk_uLn (by omega), pk_un (by omega)⟩) (fun _ _ => ⟨rfl, rfl⟩) d4⟩
      rw [if_neg e95, pk_us]
      exact ⟨fun _ => rfl, fun z => absurd rfl z⟩
    · rw [hfl]
      intro q' it hq'
      by_cases zt : q' = (flatS rest).length
      · subst zt
        rw [List.getElem?_append_right (Nat.le_refl _), Nat.sub_self] at hq'
        have hq' : (p + 1, o.2.1, pos S, nop rest) = it := Option.some.inj hq'
        subst hq'
        refine ⟨by rw [pk_us, topv_s], t2, fun _ => ?_⟩
        rw [pk_us, pk_sub (by omega)]
      · have old : (flatS S)[q']? = some it := by
          rw [a1, flatS_seg a2 a3]
          by_cases zl : q' < (flatS rest).length
          · rw [List.getElem?_append_left zl] at hq' ⊢
            exact hq'
          · rw [List.getElem?_append_right (by omega)] at hq' ⊢
            obtain ⟨m, hm⟩ : ∃ m, q' - (flatS rest).length = m + 1 := ⟨q' - (flatS rest).length - 1, by omega⟩
            rw [hm] at hq' ⊢
            exact hq'
        rw [pk_un zt, pk_un zt]
        exact r4 q' it old
    · rw [hfl, List.length_append, List.length_cons, r5, hflS]
      congr 1
      omega
    · rw [hcc]
    · have := shut_vA (Tu := Tu) (Tel := Tel') (w := w) (at0 := at0) (tk := tk) (Tk := Tk) hno fp (by omega) (fun e he => h41 p e fp he) (seg := seg) (rest := rest) (o := o) a2 a3 fs (fun e he => by rw [fe e he, Nat.zero_add]) (vA_frame (fun q' hq' => ⟨rfl, z4 q' (by omega)⟩) v2) (by rw [← v3, ← a1]; exact z3) v3 v4 z2
      rw [← a1] at this
      exact this
    · by_cases z : rest = []
      · exact Or.inr (Or.inr (hr0.mpr (by subst z; rfl)))
      · exact Or.inr (Or.inl (by rw [botO_cons z]; exact hbr z))
theorem told19_ok (G : RG C E (nI no) no sz el) (h41 : ∀ o e, o < no → e < sz o → ¬ el o e = 41) (ha : ∀ k, at0 k = atN no sz el w k) {all : List Int64} (hw : w = wOf all) {ws0 : List Int64} (hrow : lat Wd ws0) (hwc : ws0.length = wc) (h750 : wc ≤ 750) : ∀ (ws : List Int64) (k fu : Nat) {Cw : Nat → Int64} {To Tf Tw Tu Tel : Nat → Int32} {tn : Int32} {Ot : Nat → Int32} {Sd : Nat → Int64} {Stt Sf : Nat → Int32} {sn : Int32} {S : List En}, ws0.drop k = ws → ws.length + k = wc → RM w Cw0 Cw To Tf Tw tn Ot Sd Stt Sf sn S → vA Tu Tel no sz el w at0 tk Tk S → goodS S → S.length ≤ k → (flatS S).length ≤ k → pos S ≤ k → all.drop (pos S) = nb ws → ws.length < fu →
    (¬ toldM no sz el Tk ws S ∧ (∃ r, m_X9_readTold_19 (nI no) (nI wc) E C Wd fu Cw To Tf Tw Tu Tel tn Ot Sd Stt Sf sn (nI (nop S)) (nI (pos S)) (bi (hd95 S = true)) (nI k) = some r ∧ r.1 = -5 ∧ ∀ k, k < 40 → r.2.1 k = Cw0 k)) ∨ ∃ S' Cw' To' Tf' Tw' Tu' Tel' tn' Ot' Sd' Stt' Sf' sn', rdM no sz el Tk ws S = some S' ∧ hd95 S' = true ∧ m_X9_readTold_19 (nI no) (nI wc) E C Wd fu Cw To Tf Tw Tu Tel tn Ot Sd Stt Sf sn (nI (nop S)) (nI (pos S)) (bi (hd95 S = true)) (nI k) = some (nI (pos S'), Cw', To', Tf', Tw', Tu', Tel', tn', Ot', Sd', Stt', Sf', sn') ∧ RM w Cw0 Cw' To' Tf' Tw' tn' Ot' Sd' Stt' Sf' sn' S' ∧ vA Tu' Tel' no sz el w at0 tk Tk S' ∧ pos S' ≤ 750 ∧ (flatS S').length ≤ 750 := by
  intro ws
  induction ws with
  | nil =>
    intro k fu Cw To Tf Tw Tu Tel tn Ot Sd Stt Sf sn S hdr hln R V hg g1 g2 g3 hall hfu
    obtain ⟨fu, rfl⟩ : ∃ z, fu = z + 1 := ⟨fu - 1, by omega⟩
    have hk : k = wc := by simpa using hln
    have e0 : m_X9_readTold_19 (nI no) (nI wc) E C Wd (fu + 1) Cw To Tf Tw Tu Tel tn Ot Sd Stt Sf sn (nI (nop S)) (nI (pos S)) (bi (hd95 S = true)) (nI k) = m_X9_readTold_19 (nI no) (nI wc) E C Wd (fu + 1) Cw To Tf Tw Tu Tel tn Ot Sd Stt Sf sn (nI (nop S)) (nI (pos S)) (bi (hd95 S = true)) (nI k) := rfl
    conv at e0 => rhs; unfold m_X9_readTold_19
    rw [if_pos (by rw [nI_le' (by omega) (by omega)]; omega)] at e0
    rw [e0]
    by_cases q : hd95 S = true
    · rw [if_neg (by rw [bi_eq0]; simpa using q)]
      exact Or.inr ⟨S, Cw, To, Tf, Tw, Tu, Tel, tn, Ot, Sd, Stt, Sf, sn, rfl, q, rfl, R, V, by omega, by omega⟩
    · rw [if_pos (by rw [bi_eq0]; exact q)]
      refine Or.inl ⟨?_, _, rfl, rfl, R.2.1⟩
      intro ⟨S', h1, h2⟩
      have h1 := Option.some.inj h1
      subst h1
      exact q h2
  | cons v ws ih =>
    intro k fu Cw To Tf Tw Tu Tel tn Ot Sd Stt Sf sn S hdr hln R V hg g1 g2 g3 hall hfu
    obtain ⟨fu, rfl⟩ : ∃ z, fu = z + 1 := ⟨fu - 1, by omega⟩
    rw [List.length_cons] at hln hfu
    have hkl : k < ws0.length := by omega
    rw [List.drop_eq_getElem_cons hkl] at hdr
    obtain ⟨hdr1, hdr2⟩ := List.cons.inj hdr
    have hv : Wd k = v := by
      have := hrow k hkl
      rw [List.getElem?_eq_getElem hkl] at this
      rw [← Option.some.inj this]; exact hdr1
    have hnop := nop_le S
    have hwv : ¬ v = 40 → ¬ v = 41 → w (pos S) = v ∧ all.drop (pos S + 1) = nb ws := by
      intro q1 q2
      have hnb2 : nb (v :: ws) = v :: nb ws := by
        unfold nb
        rw [List.filter_cons]
        simp [q1, q2]
      rw [hnb2] at hall
      have hlt : pos S < all.length := by
        rcases Nat.lt_or_ge (pos S) all.length with z | z
        · exact z
        · rw [List.drop_eq_nil_of_le z] at hall; cases hall
      rw [List.drop_eq_getElem_cons hlt] at hall
      obtain ⟨h1a, h1b⟩ := List.cons.inj hall
      exact ⟨by rw [hw]; unfold wOf; rw [List.getElem?_eq_getElem hlt]; exact h1a, h1b⟩
    by_cases q : hd95 S = true
    · -- more words after a whole tree
      have e0 : m_X9_readTold_19 (nI no) (nI wc) E C Wd (fu + 1) Cw To Tf Tw Tu Tel tn Ot Sd Stt Sf sn (nI (nop S)) (nI (pos S)) (bi (hd95 S = true)) (nI k) = m_X9_readTold_19 (nI no) (nI wc) E C Wd (fu + 1) Cw To Tf Tw Tu Tel tn Ot Sd Stt Sf sn (nI (nop S)) (nI (pos S)) (bi (hd95 S = true)) (nI k) := rfl
      conv at e0 => rhs; unfold m_X9_readTold_19
      rw [if_neg (by rw [nI_le' (by omega) (by omega)]; omega), gd_nI (by omega) (by omega), if_neg (by rw [bi_eq0]; simpa using q)] at e0
      exact Or.inl ⟨bad_next h41 (fun S' hs => hd_good hg q hs), _, e0, rfl, R.2.1⟩
    · have q : hd95 S = false := by simpa using q
      have hbi : bi (hd95 S = true) = 0 := bi_f (by rw [q]; decide)
      rw [hbi]
      -- what ends it
      have stop : ∀ r : Int32 × (Nat → Int64) × (Nat → Int32) × (Nat → Int32) × (Nat → Int32) × (Nat → Int32) × (Nat → Int32) × Int32 × (Nat → Int32) × (Nat → Int64) × (Nat → Int32) × (Nat → Int32) × Int32, m_X9_readTold_19 (nI no) (nI wc) E C Wd (fu + 1) Cw To Tf Tw Tu Tel tn Ot Sd Stt Sf sn (nI (nop S)) (nI (pos S)) 0 (nI k) = some r → r.1 = -5 → (∀ k, k < 40 → r.2.1 k = Cw0 k) → (∀ S', stepM no sz el Tk S v = some S' → badS S') → (¬ toldM no sz el Tk (v :: ws) S ∧ (∃ r, m_X9_readTold_19 (nI no) (nI wc) E C Wd (fu + 1) Cw To Tf Tw Tu Tel tn Ot Sd Stt Sf sn (nI (nop S)) (nI (pos S)) 0 (nI k) = some r ∧ r.1 = -5 ∧ ∀ k, k < 40 → r.2.1 k = Cw0 k)) := fun r h1 h2 h3 h4 => ⟨bad_next h41 h4, r, h1, h2, h3⟩
      have next : (∃ S' Cw' To' Tf' Tw' Tu' Tel' tn' Ot' Sd' Stt' Sf' sn', stepM no sz el Tk S v = some S' ∧ m_X9_readTold_19 (nI no) (nI wc) E C Wd (fu + 1) Cw To Tf Tw Tu Tel tn Ot Sd Stt Sf sn (nI (nop S)) (nI (pos S)) 0 (nI k) = m_X9_readTold_19 (nI no) (nI wc) E C Wd fu Cw' To' Tf' Tw' Tu' Tel' tn' Ot' Sd' Stt' Sf' sn' (nI (nop S')) (nI (pos S')) (bi (hd95 S' = true)) (nI (k + 1)) ∧ RM w Cw0 Cw' To' Tf' Tw' tn' Ot' Sd' Stt' Sf' sn' S' ∧ vA Tu' Tel' no sz el w at0 tk Tk S' ∧ goodS S') → (¬ toldM no sz el Tk (v :: ws) S ∧ (∃ r, m_X9_readTold_19 (nI no) (nI wc) E C Wd (fu + 1) Cw To Tf Tw Tu Tel tn Ot Sd Stt Sf sn (nI (nop S)) (nI (pos S)) 0 (nI k) = some r ∧ r.1 = -5 ∧ ∀ k, k < 40 → r.2.1 k = Cw0 k)) ∨ ∃ S' Cw' To' Tf' Tw' Tu' Tel' tn' Ot' Sd' Stt' Sf' sn', rdM no sz el Tk (v :: ws) S = some S' ∧ hd95 S' = true ∧ m_X9_readTold_19 (nI no) (nI wc) E C Wd (fu + 1) Cw To Tf Tw Tu Tel tn Ot Sd Stt Sf sn (nI (nop S)) (nI (pos S)) 0 (nI k) = some (nI (pos S'), Cw', To', Tf', Tw', Tu', Tel', tn', Ot', Sd', Stt', Sf', sn') ∧ RM w Cw0 Cw' To' Tf' Tw' tn' Ot' Sd' Stt' Sf' sn' S' ∧ vA Tu' Tel' no sz el w at0 tk Tk S' ∧ pos S' ≤ 750 ∧ (flatS S').length ≤ 750 := by
        intro ⟨S1, Cw1, To1, Tf1, Tw1, Tu1, Tel1, tn1, Ot1, Sd1, Stt1, Sf1, sn1, a1, a2, a3, a4, a5⟩
        have hrd : rdM no sz el Tk (v :: ws) S = rdM no sz el Tk ws S1 := by
          show (stepM no sz el Tk S v).bind _ = _
          rw [a1]; rfl
        have htd : toldM no sz el Tk (v :: ws) S = toldM no sz el Tk ws S1 := by unfold toldM; rw [hrd]
        have hsl : S1.length ≤ S.length + 1 ∧ (flatS S1).length ≤ (flatS S).length + 1 ∧ pos S1 = pos S + (if v = 40 ∨ v = 41 then 0 else 1) := by
          by_cases z : v = 95
          · unfold stepM at a1
            rw [if_pos z] at a1
            have a1 := Option.some.inj a1
            subst a1
            refine ⟨Nat.le_refl _, ?_, ?_⟩
            · show (flatS S ++ itE _ _).length ≤ _
              unfold itE
              rw [if_neg (show ¬ (41 : Int64) = 40 by decide), List.length_append]; exact Nat.le_succ _
            · show (if (41 : Int64) = 40 then _ else if (41 : Int64) = 95 then _ else _) = _
              rw [if_neg (by decide), if_neg (by decide), if_neg (by rw [z]; decide)]
          · unfold stepM at a1
            rw [if_neg z] at a1
            exact step_len a1
        obtain ⟨s1, s2, s3⟩ := hsl
        have hall' : all.drop (pos S1) = nb ws := by
          by_cases q : v = 40 ∨ v = 41
          · rw [if_pos q, Nat.add_zero] at s3
            rw [s3, hall]
            unfold nb
            rw [List.filter_cons]
            rcases q with q | q <;> simp [q]
          · rw [if_neg q] at s3
            rw [s3]
            exact (hwv (fun z => q (Or.inl z)) (fun z => q (Or.inr z))).2
        have hp' : pos S1 ≤ k + 1 := by
          rw [s3]
          split <;> omega
        rw [hrd, htd, a2]
        exact ih (k + 1) fu hdr2 (by omega) a3 a4 a5 (by omega) (by omega) hp' hall' (by omega)
      have e0 : m_X9_readTold_19 (nI no) (nI wc) E C Wd (fu + 1) Cw To Tf Tw Tu Tel tn Ot Sd Stt Sf sn (nI (nop S)) (nI (pos S)) 0 (nI k) = m_X9_readTold_19 (nI no) (nI wc) E C Wd (fu + 1) Cw To Tf Tw Tu Tel tn Ot Sd Stt Sf sn (nI (nop S)) (nI (pos S)) 0 (nI k) := rfl
      conv at e0 => rhs; unfold m_X9_readTold_19
      rw [if_neg (by rw [nI_le' (by omega) (by omega)]; omega), gd_nI (by omega) (by omega), if_pos rfl, nI_cl (by omega), hv] at e0
      by_cases q1 : v = 40
      · exact next (open_ok R V hg q (by omega) h750 hv g1 g2 g3 q1)
      · by_cases q2 : v = 41
        · by_cases z : nop S = 0
          · have hS := good_0 hg z q
            subst hS
            rw [if_neg (fun z => q1 ((lg_cmp_eq _ _).mp z)), if_pos ((lg_cmp_eq _ _).mpr q2), if_pos (show nI (nop []) = 0 from rfl)] at e0
            refine Or.inl (stop _ e0 rfl R.2.1 (fun S' hs => ?_))
            unfold stepM stepR at hs
            rw [if_neg (by rw [q2]; decide), if_neg (by rw [q2]; decide), if_pos q2] at hs
            cases hs
          · rcases shutM_ok (no := no) (w := w) (at0 := at0) (tk := tk) (Tk := Tk) G h41 R V hg q (by omega) h750 hv g1 g2 g3 q2 (by omega) (fu := fu) with ⟨s1, r, s2, s3, s4⟩ | h
            · exact Or.inl (stop r s2 s3 s4 (fun S' hs => by rw [s1] at hs; cases hs))
            · exact next h
        · obtain ⟨hw1, hw2⟩ := hwv q1 q2
          by_cases qa : atomB no sz el v = true
          · exact next (atom_ok G ha R V hg q (by omega) h750 hv g1 g2 g3 q1 q2 hw1 qa)
          · have qa : atomB no sz el v = false := by simpa using qa
            by_cases z : nop S = 0
            · have hS := good_0 hg z q
              subst hS
              rw [if_neg (fun z => q1 ((lg_cmp_eq _ _).mp z)), if_neg (fun z => q2 ((lg_cmp_eq _ _).mp z)), mAtom_ok G v, ob_i, if_pos (by rw [bi_eq0, qa]; decide), if_pos (show nI (nop []) = 0 from rfl)] at e0
              refine Or.inl (stop _ e0 rfl R.2.1 (fun S' hs => ?_))
              rcases stepM_cases hs with ⟨y, _⟩ | ⟨_, x, rfl, y1, y2, y3⟩
              · exact absurd y q2
              · by_cases y4 : v = 95
                · exact Or.inl ⟨x, List.mem_cons_self .., y3 y4⟩
                · have hpt : partB no sz el v = true := by
                    unfold atomB at qa
                    have : (v == 95) = false := by simpa using y4
                    rw [this] at qa
                    simpa using qa
                  refine Or.inr ⟨by simp, ?_, ?_⟩
                  · show (x.1 == 40) = false
                    have : ¬ x.1 = 40 := fun z => q1 (y1.mp z)
                    simpa using this
                  · show (x.1 == 95) = false
                    have : ¬ x.1 = 95 := fun z => (y2.mp z).2.2 hpt
                    simpa using this
            · exact next (part_ok G R V hg q (by omega) h750 hv g1 g2 g3 q1 q2 hw1 qa (by omega))
theorem readTold_ok (G : RG C E (nI no) no sz el) (h41 : ∀ o e, o < no → e < sz o → ¬ el o e = 41) {ws : List Int64} (hw : w = wOf (nb ws)) (ha : ∀ k, at0 k = atN no sz el w k) (hrow : lat Wd ws) (hwc : ws.length = wc) (h750 : wc ≤ 750) (Cw : Nat → Int64) (To Tf Tw Tu Tel : Nat → Int32) (tn : Int32) (Ot : Nat → Int32) (Sd : Nat → Int64) (Stt Sf : Nat → Int32) (sn : Int32) :
    (¬ told no sz el Tk ws [] ∧ ∃ r, m_X9_readTold (nI no) E C Wd (nI wc) Cw To Tf Tw Tu Tel tn Ot Sd Stt Sf sn = some r ∧ r.1 = -5 ∧ ∀ k, k < 40 → r.2.1 k = Cw k) ∨ ∃ S' Cw' To' Tf' Tw' Tu' Tel' tn' Ot' Sd' Stt' Sf' sn', rdS no sz el Tk ws [] = some S' ∧ hd95 S' = true ∧ m_X9_readTold (nI no) E C Wd (nI wc) Cw To Tf Tw Tu Tel tn Ot Sd Stt Sf sn = some (nI (pos S'), Cw', To', Tf', Tw', Tu', Tel', tn', Ot', Sd', Stt', Sf', sn') ∧ RM w Cw Cw' To' Tf' Tw' tn' Ot' Sd' Stt' Sf' sn' S' ∧ vA Tu' Tel' no sz el w at0 tk Tk S' ∧ pos S' ≤ 750 ∧ (flatS S').length ≤ 750 := by
  unfold m_X9_readTold
  rcases told19_ok (at0 := at0) (tk := tk) (Tk := Tk) (Cw0 := Cw) G h41 ha hw hrow hwc h750 ws 0 FU (Cw := Cw) (To := To) (Tf := Tf) (Tw := Tw) (Tu := Tu) (Tel := Tel) (tn := 0) (Ot := Ot) (Sd := Sd) (Stt := Stt) (Sf := Sf) (sn := 0) (S := []) rfl (by omega) ⟨fun k hk => absurd hk (Nat.not_lt_zero k), fun _ _ => rfl, trivial, fun q it hq => absurd (show ([] : List It)[q]? = some it from hq) (by simp), rfl, rfl⟩ trivial (Or.inl rfl) (Nat.le_refl _) (Nat.le_refl _) (Nat.le_refl _) rfl (by rw [FU_v]; omega) with ⟨h1, h2⟩ | ⟨S', Cw', To', Tf', Tw', Tu', Tel', tn', Ot', Sd', Stt', Sf', sn', h1, h2, h3, h4⟩
  · refine Or.inl ⟨?_, h2⟩
    intro ⟨S', g1, g2⟩
    exact h1 ⟨S', rd_rdM g1, g2⟩
  · refine Or.inr ⟨S', Cw', To', Tf', Tw', Tu', Tel', tn', Ot', Sd', Stt', Sf', sn', rdM_rd h41 h1 ?_, h2, h3, h4⟩
    intro z
    rw [hd95_41 z] at h2; cases h2
end MSHUT
