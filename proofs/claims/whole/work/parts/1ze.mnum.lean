/-! the reference finds a told tree's number -/
section MNUM
variable {C : Nat → Int32} {E : Nat → Int64} {no : Nat} {sz : Nat → Nat} {el : Nat → Nat → Int64} {w : Nat → Int64} {at0 : Nat → Nat} {tk : Nat → Nat → Nat → Bool} {Tk : Nat → Int32} {Cw Wd Z Sd : Nat → Int64} {Ih To Tf Tw Tu Tel Wo Cs Ti Nd Wy Tx Ot Stt Sf : Nat → Int32} {ts wcI tn sn : Int32} {n : Nat}
set_option maxHeartbeats 1000000 in
theorem mnode_ok (G : RG C E (nI no) no sz el) (K : TKOK no sz tk Tk) (hn : n ≤ 40) (hw : ∀ k, k < n → Cw (40 + k) = w k) (ha : ∀ k, at0 k = atN no sz el w k) (hM : mcOK no sz el w at0 tk Tk n 1 Wo Ih (fun _ _ => True)) (k71 : (Nat → Int32) → (Nat → Int64) → Int32 → (Nat → Int64) → (Nat → Int32) → (Nat → Int32) → (Nat → Int32) → (Nat → Int64) → (Nat → Int64) → (Nat → Int32) → (Nat → Int32) → (Nat → Int32) → (Nat → Int32) → (Nat → Int32) → (Nat → Int64) → Int32 → (Nat → Int32) → (Nat → Int64) → (Nat → Int32) → (Nat → Int32) → Int32 → Int32 → Option (Int32 × (Nat → Int32) × (Nat → Int64) × Int32 × (Nat → Int64) × (Nat → Int32) × (Nat → Int32) × (Nat → Int32) × (Nat → Int64) × (Nat → Int64) × (Nat → Int32) × (Nat → Int32) × (Nat → Int32) × (Nat → Int32) × (Nat → Int32) × (Nat → Int64) × Int32 × (Nat → Int32) × (Nat → Int64) × (Nat → Int32) × (Nat → Int32) × Int32)) {p i j b t : Nat} {L : List Cd} {Tn : Nat → Int64} (hp : p < no) (hij : i < j) (hj : j ≤ n) (hb : b < 760) (ht : t ≤ 2 * no) (ho : To b = nI p) (hf : Tf b = nI i) (hl : Tw b = nI (j - i)) (hc : chs sz el w p j (sz p) i L) (hk : chA (kidC Tw Tu Tel Tn b) (b + 1) L) (hL : b + 1 + (flat L).length ≤ 760) (Rs : Nat → Int64) : ∃ Rs', m_X9_number_109 (nI no) ts Ti E C Nd Wy Tx k71 Tk Wd wcI Cw Cs Wo Ih Z Rs To Tf Tw Tu Tel Tn tn Ot Sd Stt Sf sn (nI b) (nI t) = if bt' (Tk t) p = true then k71 Tk Wd wcI Cw Cs Wo Ih Z Rs' To Tf Tw Tu Tel (vp_updL Tn b (lN (cap (at1 at0 i j + sm (fun q => if bt' (Tk t) q = true then TT no sz el w at0 tk q i j else 0) 0 p + chv no sz el w at0 tk p j (sz p) i L)))) tn Ot Sd Stt Sf sn (nI b - 1) else some (-6, Tk, Wd, wcI, Cw, Cs, Wo, Ih, Z, Rs', To, Tf, Tw, Tu, Tel, Tn, tn, Ot, Sd, Stt, Sf, sn) := by
  have hno : no ≤ 30 := G.2.1
  have h1 : at1 at0 i j ≤ 1 := at1_le (fun k => by rw [ha]; exact atN_le k) i j
  obtain ⟨Rs', r1⟩ := mbefore_ok (To := To) (Tf := Tf) (Tn := Tn) G K hn hw hM hp hij hj hb ho hf hl hc hk hL Rs
  have e0 : m_X9_number_109 (nI no) ts Ti E C Nd Wy Tx k71 Tk Wd wcI Cw Cs Wo Ih Z Rs To Tf Tw Tu Tel Tn tn Ot Sd Stt Sf sn (nI b) (nI t) = m_X9_number_109 (nI no) ts Ti E C Nd Wy Tx k71 Tk Wd wcI Cw Cs Wo Ih Z Rs To Tf Tw Tu Tel Tn tn Ot Sd Stt Sf sn (nI b) (nI t) := rfl
  conv at e0 => rhs; unfold m_X9_number_109
  rw [gd_nI hb (by omega), nI_cl (by omega), ho, if_neg (by rw [i_0, nI_lt' (by omega) (by omega)]; omega), gd_nI (by omega) (by omega), nI_cl (by omega)] at e0
  rw [e0]
  by_cases q : bt' (Tk t) p = true
  · refine ⟨Rs', ?_⟩
    rw [if_pos q, if_neg (fun z => (bit0 (Tk t) (show p < 32 by omega)).mp z q)]
    -- what is before by operators
    have loop := lpP (σ := Nat) (fun k q s => m_X9_number_189 (nI no) ts Ti E C Nd Wy Tx k71 k Tk Wd wcI Cw Cs Wo Ih Z Rs To Tf Tw Tu Tel Tn tn Ot Sd Stt Sf sn (nI b) (nI t) (nI p) (lN s) (nI q)) (fun r => r = k71 Tk Wd wcI Cw Cs Wo Ih Z Rs' To Tf Tw Tu Tel (vp_updL Tn b (lN (cap (at1 at0 i j + sm (fun q => if bt' (Tk t) q = true then TT no sz el w at0 tk q i j else 0) 0 p + chv no sz el w at0 tk p j (sz p) i L)))) tn Ot Sd Stt Sf sn (nI b - 1)) p (fun q s => s = cap (at1 at0 i j + sm (fun q => if bt' (Tk t) q = true then TT no sz el w at0 tk q i j else 0) 0 q))
      (fun k s hs => by
        have y0 : m_X9_number_189 (nI no) ts Ti E C Nd Wy Tx k71 (k + 1) Tk Wd wcI Cw Cs Wo Ih Z Rs To Tf Tw Tu Tel Tn tn Ot Sd Stt Sf sn (nI b) (nI t) (nI p) (lN s) (nI p) = m_X9_number_189 (nI no) ts Ti E C Nd Wy Tx k71 (k + 1) Tk Wd wcI Cw Cs Wo Ih Z Rs To Tf Tw Tu Tel Tn tn Ot Sd Stt Sf sn (nI b) (nI t) (nI p) (lN s) (nI p) := rfl
        conv at y0 => rhs; unfold m_X9_number_189
        rw [if_pos (by rw [nI_le' (by omega) (by omega)]; omega), r1, ob_i, lN_add, capped_ok (by have := cap_le (chv no sz el w at0 tk p j (sz p) i L); have := cap_le (at1 at0 i j + sm (fun q => if bt' (Tk t) q = true then TT no sz el w at0 tk q i j else 0) 0 p); omega), ob_i] at y0
        unfold m_X9_number_262 at y0
        rw [gd_nI hb (by omega), nI_cl (by omega), hs, cap_addl, cap_addr, nI_m1] at y0
        rw [hs]
        exact y0)
      (fun k q s hq hs => by
        right
        have hsl : s ≤ 1000000000 := by rw [hs]; exact cap_le _
        have hTl := TT_le (no := no) (sz := sz) (el := el) (w := w) (at0 := at0) (tk := tk) (o := q) (i := i) (j := j)
        have y0 : m_X9_number_189 (nI no) ts Ti E C Nd Wy Tx k71 (k + 1) Tk Wd wcI Cw Cs Wo Ih Z Rs To Tf Tw Tu Tel Tn tn Ot Sd Stt Sf sn (nI b) (nI t) (nI p) (lN s) (nI q) = m_X9_number_189 (nI no) ts Ti E C Nd Wy Tx k71 (k + 1) Tk Wd wcI Cw Cs Wo Ih Z Rs To Tf Tw Tu Tel Tn tn Ot Sd Stt Sf sn (nI b) (nI t) (nI p) (lN s) (nI q) := rfl
        conv at y0 => rhs; unfold m_X9_number_189
        have e236 : ∀ x : Nat, x ≤ 1000000000 → m_X9_number_236 (nI no) ts Ti E C Nd Wy Tx k71 (m_X9_number_189 (nI no) ts Ti E C Nd Wy Tx k71 k) Tk Wd wcI Cw Cs Wo Ih Z Rs To Tf Tw Tu Tel Tn tn Ot Sd Stt Sf sn (nI b) (nI t) (nI p) (nI q) (nI x) (lN s) = m_X9_number_189 (nI no) ts Ti E C Nd Wy Tx k71 k Tk Wd wcI Cw Cs Wo Ih Z Rs To Tf Tw Tu Tel Tn tn Ot Sd Stt Sf sn (nI b) (nI t) (nI p) (lN (cap (s + x))) (nI (q + 1)) := by
          intro x hx
          unfold m_X9_number_236
          rw [nI_l (by omega), lN_add, capped_ok (by omega), ob_i, nI_1]
        have hWo := (hM i j hij hj trivial).1 q (by omega)
        rw [if_neg (by rw [nI_le' (by omega) (by omega)]; omega), gd_nI (by omega) (by omega), nI_cl (by omega), gd_nI hb (by omega), gd_nI hb (by omega), nI_cl (by omega), hf, hl] at y0
        have hwa : m_X9_withAt Wo 1 (nI q) (nI i) (nI (j - i)) = some (nI (TT no sz el w at0 tk q i j)) := by
          have := withAt_ok (Wo := Wo) (c := 1) (o := q) (i := i) (l := j - i) (by omega) (by omega) (by omega) (by omega)
          rw [hWo] at this
          exact this
        rw [hwa, ob_i, e236 _ hTl] at y0
        have e0' := e236 0 (by omega)
        refine ⟨_, ?_, rfl⟩
        refine y0.trans ?_
        rw [sm_l, Nat.zero_add]
        by_cases z : bt' (Tk t) q = true
        · rw [if_pos ((bit1 _ (by omega)).mpr z), if_pos z, hs, cap_addl, Nat.add_assoc]
        · rw [if_neg (fun y => z ((bit1 _ (by omega)).mp y)), if_neg z]
          refine e0'.trans ?_
          rw [hs, cap_addl]; rfl)
      p FU 0 (at1 at0 i j) (by omega) (by rw [FU_v]; omega) (by rw [sm_0, show at1 at0 i j + 0 = at1 at0 i j from rfl, cap_id (by omega)])
    have loop : m_X9_number_184 (nI no) ts Ti E C Nd Wy Tx k71 Tk Wd wcI Cw Cs Wo Ih Z Rs To Tf Tw Tu Tel Tn tn Ot Sd Stt Sf sn (nI b) (nI t) (nI p) (lN (at1 at0 i j)) = _ := loop
    rw [← loop]
    have y0 : m_X9_number_140 (nI no) ts Ti E C Nd Wy Tx k71 Tk Wd wcI Cw Cs Wo Ih Z Rs To Tf Tw Tu Tel Tn tn Ot Sd Stt Sf sn (nI b) (nI t) (nI p) = m_X9_number_140 (nI no) ts Ti E C Nd Wy Tx k71 Tk Wd wcI Cw Cs Wo Ih Z Rs To Tf Tw Tu Tel Tn tn Ot Sd Stt Sf sn (nI b) (nI t) (nI p) := rfl
    conv at y0 => rhs; unfold m_X9_number_140
    rw [if_neg (by rw [i_0, nI_lt' (by omega) (by omega)]; omega), gd_nI hb (by omega), nI_cl (by omega), hl, hf, gd_nI hb (by omega), i_40, nI_add, gd_nI (by omega) (by omega), nI_cl (by omega), hw i (by omega), mAtom_ok G, ob_i] at y0
    unfold m_X9_number_183 at y0
    rw [y0]
    unfold at1
    by_cases z : j = i + 1
    · rw [if_pos (by rw [i_1, nI_eq' (by omega) (by omega)]; omega), if_pos z, ha]
      unfold atN
      by_cases za : atomB no sz el (w i) = true
      · rw [if_neg (by rw [bi_eq0]; simpa using za), if_pos za]; rfl
      · rw [if_pos (by rw [bi_eq0]; exact za), if_neg za]; rfl
    · rw [if_neg (by rw [i_1, nI_eq' (by omega) (by omega)]; omega), if_neg z]; rfl
  · refine ⟨Rs, ?_⟩
    rw [if_neg q, if_pos ((bit0 (Tk t) (show p < 32 by omega)).mpr q)]
/-- the hole that a told tree stands in -/
def rootT (no : Nat) (sz : Nat → Nat) (To Tu Tel : Nat → Int32) (b t : Nat) : Prop := (Tu b = -1 ∧ t = 0) ∨ ∃ u o e, Tu b = nI u ∧ u < 760 ∧ To u = nI o ∧ o < no ∧ Tel b = nI e ∧ e < sz o ∧ t = tyN sz o e
theorem mroot_ok (G : RG C E (nI no) no sz el) {b t fu : Nat} {Tn Rs : Nat → Int64} (hb : b < 760) (h : rootT no sz To Tu Tel b t) : m_X9_number_71 (nI no) ts Ti E C Nd Wy Tx (fu + 1) Tk Wd wcI Cw Cs Wo Ih Z Rs To Tf Tw Tu Tel Tn tn Ot Sd Stt Sf sn (nI b) = m_X9_number_109 (nI no) ts Ti E C Nd Wy Tx (m_X9_number_71 (nI no) ts Ti E C Nd Wy Tx fu) Tk Wd wcI Cw Cs Wo Ih Z Rs To Tf Tw Tu Tel Tn tn Ot Sd Stt Sf sn (nI b) (nI t) := by
  have hno : no ≤ 30 := G.2.1
  have e0 : m_X9_number_71 (nI no) ts Ti E C Nd Wy Tx (fu + 1) Tk Wd wcI Cw Cs Wo Ih Z Rs To Tf Tw Tu Tel Tn tn Ot Sd Stt Sf sn (nI b) = m_X9_number_71 (nI no) ts Ti E C Nd Wy Tx (fu + 1) Tk Wd wcI Cw Cs Wo Ih Z Rs To Tf Tw Tu Tel Tn tn Ot Sd Stt Sf sn (nI b) := rfl
  conv at e0 => rhs; unfold m_X9_number_71
  rw [if_neg (by rw [i_0, nI_lt' (by omega) (by omega)]; omega), gd_nI hb (by omega), nI_cl (by omega)] at e0
  rcases h with ⟨h1, h2⟩ | ⟨u, o, e, h1, h2, h3, h4, h5, h6, h7⟩
  · rw [h1, if_neg (by decide)] at e0
    rw [h2]; exact e0
  · rw [h1, if_pos (by rw [i_0, nI_le' (by omega) (by omega)]; omega), gd_nI hb (by omega), gd_nI h2 (by omega), gd_nI hb (by omega), nI_cl (by omega), h3, h5, mType_ok G h4 h6, ob_i, ← h7] at e0
    exact e0
set_option maxHeartbeats 1000000 in
theorem num_tree (G : RG C E (nI no) no sz el) (K : TKOK no sz tk Tk) (hn : n ≤ 40) (hw : ∀ k, k < n → Cw (40 + k) = w k) (ha : ∀ k, at0 k = atN no sz el w k) (hM : mcOK no sz el w at0 tk Tk n 1 Wo Ih (fun _ _ => True)) {its0 : List It} (hI : itR To Tf Tw its0) (h760 : its0.length ≤ 760) : ∀ (f b t i j d : Nat) (its : List It) (v : Nat) (g : Bool) (fu : Nat) (Rs Tn : Nat → Int64), trA Tu Tel no sz el w at0 tk Tk f b t i j d its v g → j ≤ n → plc its0 b its → b + its.length ≤ its0.length → rootT no sz To Tu Tel b t → t ≤ 2 * no →
    (g = true ∧ ∃ Rs' Tn', m_X9_number_71 (nI no) ts Ti E C Nd Wy Tx (fu + its.length) Tk Wd wcI Cw Cs Wo Ih Z Rs To Tf Tw Tu Tel Tn tn Ot Sd Stt Sf sn (nI (b + its.length) - 1) = m_X9_number_71 (nI no) ts Ti E C Nd Wy Tx fu Tk Wd wcI Cw Cs Wo Ih Z Rs' To Tf Tw Tu Tel Tn' tn Ot Sd Stt Sf sn (nI b - 1) ∧ Tn' b = lN (cap v) ∧ ∀ q, (q < b ∨ b + its.length ≤ q) → Tn' q = Tn q) ∨ (g = false ∧ ∃ Rs' Tn', m_X9_number_71 (nI no) ts Ti E C Nd Wy Tx (fu + its.length) Tk Wd wcI Cw Cs Wo Ih Z Rs To Tf Tw Tu Tel Tn tn Ot Sd Stt Sf sn (nI (b + its.length) - 1) = some (-6, Tk, Wd, wcI, Cw, Cs, Wo, Ih, Z, Rs', To, Tf, Tw, Tu, Tel, Tn', tn, Ot, Sd, Stt, Sf, sn)) := by
  have hno : no ≤ 30 := G.2.1
  intro f
  induction f with
  | zero => intro b t i j d its v g fu Rs Tn h; exact h.elim
  | succ f ih =>
    intro b t i j d its v g fu Rs Tn h hj hpl hle hrt ht
    rcases h with ⟨h1, h2, h3, h4, h5⟩ | ⟨p, L, h1, h2, h3, h4, h5, h6, h7⟩
    · subst h3 h4 h5
      have hle : b + 1 ≤ its0.length := hle
      have hit := (plc_cons hpl).1
      have ho : To b = -1 := (hI b _ hit).1
      refine Or.inl ⟨rfl, Rs, vp_updL Tn b 0, ?_, pk_uLs, fun q hq => pk_uLn (by have : [((0 : Nat), i, j, d)].length = 1 := rfl; omega)⟩
      show m_X9_number_71 (nI no) ts Ti E C Nd Wy Tx (fu + 1) Tk Wd wcI Cw Cs Wo Ih Z Rs To Tf Tw Tu Tel Tn tn Ot Sd Stt Sf sn (nI (b + 1) - 1) = _
      rw [nI_pred, mroot_ok G (by omega) hrt]
      unfold m_X9_number_109
      rw [gd_nI (by omega) (by omega), nI_cl (by omega), ho, if_pos (by decide)]
      unfold m_X9_number_140
      rw [if_pos (by decide)]
      unfold m_X9_number_262
      rw [gd_nI (by omega) (by omega), nI_cl (by omega), nI_m1]
    · subst h3
      rw [List.length_cons] at hle ⊢
      obtain ⟨hit, hpl2⟩ := plc_cons hpl
      obtain ⟨i1, i2, i3⟩ := hI b _ hit
      have i1 : To b = nI p := by rw [i1]; exact topv_s p
      have i2 : Tf b = nI i := i2
      have i3 : Tw b = nI (j - i) := i3 h2
      -- the trees in its holes, the last first
      have hcs : ∀ {dd i : Nat} {L : List Cd}, chs sz el w p j dd i L → dd ≤ sz p → ∀ c, c ∈ L → c.2.1 ≤ j ∧ c.1 < c.2.1 ∧ c.2.2.1 < sz p := by
        intro dd
        induction dd with
        | zero => intro i L hc _ c hm; obtain ⟨_, rfl⟩ := hc; cases hm
        | succ dd ihd =>
          intro i L hc hdd c hm
          unfold chs at hc
          by_cases q : el p (sz p - (dd + 1)) = 95
          · rw [if_pos q] at hc
            obtain ⟨c', L', rfl, a1, a2, a3, a4, a5⟩ := hc
            rcases List.mem_cons.mp hm with rfl | hm
            · exact ⟨a3, by omega, by omega⟩
            · exact ihd a5 (by omega) c hm
          · rw [if_neg q] at hc
            exact ihd hc.2.2 (by omega) c hm
      have key : ∀ (L' : List Cd) (bc fu : Nat) (Rs Tn : Nat → Int64), (∀ c, c ∈ L' → c ∈ L) → chA (fun c bc => Tu bc = nI b ∧ Tel bc = nI c.2.2.1 ∧ trA Tu Tel no sz el w at0 tk Tk f bc (tyN sz p c.2.2.1) c.1 c.2.1 (d + 1) c.2.2.2.2.2 c.2.2.2.1 c.2.2.2.2.1) bc L' → plc its0 bc (flat L') → bc + (flat L').length ≤ its0.length → (allg L' = true ∧ ∃ Rs' Tn', m_X9_number_71 (nI no) ts Ti E C Nd Wy Tx (fu + (flat L').length) Tk Wd wcI Cw Cs Wo Ih Z Rs To Tf Tw Tu Tel Tn tn Ot Sd Stt Sf sn (nI (bc + (flat L').length) - 1) = m_X9_number_71 (nI no) ts Ti E C Nd Wy Tx fu Tk Wd wcI Cw Cs Wo Ih Z Rs' To Tf Tw Tu Tel Tn' tn Ot Sd Stt Sf sn (nI bc - 1) ∧ chA (fun c q => Tn' q = lN (cap c.2.2.2.1)) bc L' ∧ ∀ q, (q < bc ∨ bc + (flat L').length ≤ q) → Tn' q = Tn q) ∨ (allg L' = false ∧ ∃ Rs' Tn', m_X9_number_71 (nI no) ts Ti E C Nd Wy Tx (fu + (flat L').length) Tk Wd wcI Cw Cs Wo Ih Z Rs To Tf Tw Tu Tel Tn tn Ot Sd Stt Sf sn (nI (bc + (flat L').length) - 1) = some (-6, Tk, Wd, wcI, Cw, Cs, Wo, Ih, Z, Rs', To, Tf, Tw, Tu, Tel, Tn', tn, Ot, Sd, Stt, Sf, sn)) := by
        intro L'
        induction L' with
        | nil =>
          intro bc fu Rs Tn _ _ _ _
          exact Or.inl ⟨rfl, Rs, Tn, rfl, trivial, fun _ _ => rfl⟩
        | cons c L' ihL =>
          intro bc fu Rs Tn hL hch hpl' hle'
          have efl : (flat (c :: L')).length = c.2.2.2.2.2.length + (flat L').length := by
            show (c.2.2.2.2.2 ++ flat L').length = _
            rw [List.length_append]
          obtain ⟨⟨w1, w2, w3⟩, w4⟩ := hch
          obtain ⟨pl1, pl2⟩ := plc_app (show plc its0 bc (c.2.2.2.2.2 ++ flat L') from hpl')
          obtain ⟨cj1, cj2, cj3⟩ := hcs h4 (Nat.le_refl _) c (hL c (List.mem_cons_self ..))
          have hp0 := trA_pos w3
          rw [efl, show fu + (c.2.2.2.2.2.length + (flat L').length) = fu + c.2.2.2.2.2.length + (flat L').length by omega, show bc + (c.2.2.2.2.2.length + (flat L').length) = bc + c.2.2.2.2.2.length + (flat L').length by omega]
          have eg : allg (c :: L') = (c.2.2.2.2.1 && allg L') := rfl
          rcases ihL (bc + c.2.2.2.2.2.length) (fu + c.2.2.2.2.2.length) Rs Tn (fun c' hc' => hL c' (List.mem_cons_of_mem _ hc')) w4 pl2 (by omega) with ⟨y1, Rs1, Tn1, y2, y3, y4⟩ | ⟨y1, Rs1, Tn1, y2⟩
          · rcases ih bc _ _ _ _ _ _ _ fu Rs1 Tn1 w3 (by omega) pl1 (by omega) (Or.inr ⟨b, p, c.2.2.1, w1, by omega, i1, h1, w2, cj3, rfl⟩) (tyN_le hno h1) with ⟨x1, Rs2, Tn2, x2, x3, x4⟩ | ⟨x1, Rs2, Tn2, x2⟩
            · refine Or.inl ⟨by rw [eg, x1, y1]; rfl, Rs2, Tn2, y2.trans x2, ⟨x3, chA_mono (fun c' b' _ hb' _ hw' => ?_) y3⟩, fun q hq => ?_⟩
              · rw [x4 b' (Or.inr hb')]; exact hw'
              · rw [x4 q (by omega), y4 q (by omega)]
            · exact Or.inr ⟨by rw [eg, x1]; rfl, Rs2, Tn2, y2.trans x2⟩
          · exact Or.inr ⟨by rw [eg, y1, Bool.and_false], Rs1, Tn1, y2⟩
      rw [show fu + ((flat L).length + 1) = fu + 1 + (flat L).length by omega, show b + ((flat L).length + 1) = b + 1 + (flat L).length by omega]
      rcases key L (b + 1) (fu + 1) Rs Tn (fun _ h => h) h5 hpl2 (by omega) with ⟨y1, Rs1, Tn1, y2, y3, y4⟩ | ⟨y1, Rs1, Tn1, y2⟩
      · rw [nI_pred, mroot_ok G (by omega) hrt] at y2
        have hkid : chA (kidC Tw Tu Tel Tn1 b) (b + 1) L := by
          have both : ∀ {L' : List Cd} {bc : Nat}, (∀ c, c ∈ L' → c ∈ L) → chA (fun c bc => Tu bc = nI b ∧ Tel bc = nI c.2.2.1 ∧ trA Tu Tel no sz el w at0 tk Tk f bc (tyN sz p c.2.2.1) c.1 c.2.1 (d + 1) c.2.2.2.2.2 c.2.2.2.1 c.2.2.2.2.1) bc L' → chA (fun c q => Tn1 q = lN (cap c.2.2.2.1)) bc L' → plc its0 bc (flat L') → chA (kidC Tw Tu Tel Tn1 b) bc L' := by
            intro L'
            induction L' with
            | nil => intro bc _ _ _ _; trivial
            | cons c L' ihL =>
              intro bc hL ⟨⟨w1, w2, w3⟩, w4⟩ ⟨u1, u2⟩ hpl'
              obtain ⟨pl1, pl2⟩ := plc_app (show plc its0 bc (c.2.2.2.2.2 ++ flat L') from hpl')
              refine ⟨⟨w1, w2, ?_, u1, trA_up w3, trA_pos w3⟩, ihL (fun c' hc' => hL c' (List.mem_cons_of_mem _ hc')) w4 u2 pl2⟩
              obtain ⟨cj1, cj2, cj3⟩ := hcs h4 (Nat.le_refl _) c (hL c (List.mem_cons_self ..))
              obtain ⟨⟨cc, l, hcl, _⟩, _⟩ := tr_head (trA_tr w3)
              rw [hcl] at pl1
              exact (hI bc _ (plc_cons pl1).1).2.2 cj2
          exact both (fun _ h => h) h5 y3 hpl2
        obtain ⟨Rs2, z⟩ := mnode_ok (Cs := Cs) (Z := Z) (Wd := Wd) (wcI := wcI) (ts := ts) (Ti := Ti) (Nd := Nd) (Wy := Wy) (Tx := Tx) (tn := tn) (Ot := Ot) (Sd := Sd) (Stt := Stt) (Sf := Sf) (sn := sn) (To := To) (Tf := Tf) (t := t) G K hn hw ha hM (m_X9_number_71 (nI no) ts Ti E C Nd Wy Tx fu) h1 h2 hj (by omega) ht i1 i2 i3 h4 hkid (by omega) Rs1
        have y5 := y2.trans z
        by_cases q : bt' (Tk t) p = true
        · rw [if_pos q] at y5
          refine Or.inl ⟨by rw [h7, q, y1]; rfl, Rs2, _, y5, by rw [pk_uLs, h6], fun q' hq' => ?_⟩
          rw [pk_uLn (by omega), y4 q' (by omega)]
        · rw [if_neg q] at y5
          have q : bt' (Tk t) p = false := by simpa using q
          exact Or.inr ⟨by rw [h7, q]; rfl, Rs2, Tn1, y5⟩
      · exact Or.inr ⟨by rw [h7, y1, Bool.and_false], Rs1, Tn1, y2⟩
theorem num71_ok (G : RG C E (nI no) no sz el) (K : TKOK no sz tk Tk) (hn : n ≤ 40) (hw : ∀ k, k < n → Cw (40 + k) = w k) (ha : ∀ k, at0 k = atN no sz el w k) (hM : mcOK no sz el w at0 tk Tk n 1 Wo Ih (fun _ _ => True)) {its : List It} (hI : itR To Tf Tw its) (h760 : its.length ≤ 760) {f v : Nat} {g : Bool} (htr : trA Tu Tel no sz el w at0 tk Tk f 0 0 0 n 0 its v g) (hu : Tu 0 = -1) (Rs Tn : Nat → Int64) :
    ∃ Rs' Tn', m_X9_number_71 (nI no) ts Ti E C Nd Wy Tx FU Tk Wd wcI Cw Cs Wo Ih Z Rs To Tf Tw Tu Tel Tn tn Ot Sd Stt Sf sn (nI its.length - 1) = some ((if g = true then nI (cap v) else -6), Tk, Wd, wcI, Cw, Cs, Wo, Ih, Z, Rs', To, Tf, Tw, Tu, Tel, Tn', tn, Ot, Sd, Stt, Sf, sn) := by
  obtain ⟨fu, hfu⟩ : ∃ fu, FU = (fu + 1) + its.length := ⟨FU - 1 - its.length, by rw [FU_v]; omega⟩
  have h := num_tree (Cs := Cs) (Z := Z) (Wd := Wd) (wcI := wcI) (ts := ts) (Ti := Ti) (Nd := Nd) (Wy := Wy) (Tx := Tx) (tn := tn) (Ot := Ot) (Sd := Sd) (Stt := Stt) (Sf := Sf) (sn := sn) (To := To) (Tf := Tf) (Tw := Tw) G K hn hw ha hM hI h760 f 0 0 0 n 0 its v g (fu + 1) Rs Tn htr (Nat.le_refl _) (fun q _ => by rw [Nat.zero_add]) (by omega) (Or.inl ⟨hu, rfl⟩) (by omega)
  rw [Nat.zero_add, ← hfu] at h
  rcases h with ⟨h1, Rs', Tn', h2, h3, h4⟩ | ⟨h1, Rs', Tn', h2⟩
  · refine ⟨Rs', Tn', h2.trans ?_⟩
    rw [if_pos h1]
    have e0 : m_X9_number_71 (nI no) ts Ti E C Nd Wy Tx (fu + 1) Tk Wd wcI Cw Cs Wo Ih Z Rs' To Tf Tw Tu Tel Tn' tn Ot Sd Stt Sf sn (nI 0 - 1) = m_X9_number_71 (nI no) ts Ti E C Nd Wy Tx (fu + 1) Tk Wd wcI Cw Cs Wo Ih Z Rs' To Tf Tw Tu Tel Tn' tn Ot Sd Stt Sf sn (nI 0 - 1) := rfl
    conv at e0 => rhs; unfold m_X9_number_71
    have hg : ∀ r : Option (Int32 × (Nat → Int32) × (Nat → Int64) × Int32 × (Nat → Int64) × (Nat → Int32) × (Nat → Int32) × (Nat → Int32) × (Nat → Int64) × (Nat → Int64) × (Nat → Int32) × (Nat → Int32) × (Nat → Int32) × (Nat → Int32) × (Nat → Int32) × (Nat → Int64) × Int32 × (Nat → Int32) × (Nat → Int64) × (Nat → Int32) × (Nat → Int32) × Int32), gd 0 760 r = r := fun r => gd_nI (i := 0) (by omega) (by omega)
    rw [if_pos (show nI 0 - 1 < 0 by decide), hg] at e0
    refine e0.trans ?_
    have : Tn' (0 : Int32).toNatClampNeg = lN (cap v) := h3
    rw [this, lN_i]
  · refine ⟨Rs', Tn', h2.trans ?_⟩
    rw [if_neg (by rw [h1]; decide)]
end MNUM
