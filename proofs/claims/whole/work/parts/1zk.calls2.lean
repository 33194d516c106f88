/-! THE TWO SIDES: what is parsed is asked -/
theorem lt_m1 {p : Int32} (h : p < 0) (h2 : ¬ p = -1) : p < -1 := by
  rw [Int32.lt_iff_toInt_lt] at h ⊢
  have h3 : p.toInt ≠ (-1 : Int32).toInt := fun z => h2 (Int32.toInt_inj.mp z)
  have e1 : (-1 : Int32).toInt = -1 := by decide
  have e0 : (0 : Int32).toInt = 0 := by decide
  omega
theorem spans {n : Nat} (hn : n ≤ 40) {Cs : Nat → Int32} (hC : Cs 0 = nI n) (p0 p1 : Int32) : (m_X0_hasWords (nI n) p0 p1 = some 0 ∧ m_X9_isSpan Cs p0 p1 = some 0) ∨ ∃ i l, p0 = nI i ∧ p1 = nI l ∧ 1 ≤ l ∧ i + l ≤ n ∧ m_X0_hasWords (nI n) p0 p1 = some 1 ∧ m_X9_isSpan Cs p0 p1 = some 1 := by
  have hg : ∀ r : Option Int32, gd 0 2 r = r := fun r => gd_nI (i := 0) (by omega) (by omega)
  have hC' : Cs (0 : Int32).toNatClampNeg = nI n := hC
  unfold m_X0_hasWords m_X9_isSpan
  rw [hg, hg, hC']
  by_cases z : p0 < 0
  · rw [if_pos z]; exact Or.inl ⟨rfl, rfl⟩
  · rw [if_neg z]
    by_cases z2 : nI n ≤ p0
    · rw [if_pos z2]; exact Or.inl ⟨rfl, rfl⟩
    · rw [if_neg z2]
      by_cases z3 : p1 < 1
      · rw [if_pos z3]; exact Or.inl ⟨rfl, rfl⟩
      · rw [if_neg z3]
        obtain ⟨i, hi, rfl⟩ := nI_of z
        obtain ⟨l, hl, rfl⟩ := nI_of (x := p1) (fun h => z3 (by
          rw [Int32.lt_iff_toInt_lt] at h ⊢
          have e1 : (1 : Int32).toInt = 1 := by decide
          have e0 : (0 : Int32).toInt = 0 := by decide
          omega))
        rw [nI_le' (by omega) hi] at z2
        rw [i_1, nI_lt' hl (by omega)] at z3
        rw [pk_sub (by omega)]
        by_cases z4 : n - i < l
        · rw [if_pos (by rw [nI_lt' (by omega) hl]; exact z4)]; exact Or.inl ⟨rfl, rfl⟩
        · rw [if_neg (by rw [nI_lt' (by omega) hl]; exact z4)]
          exact Or.inr ⟨i, l, rfl, rfl, by omega, by omega, rfl, rfl⟩
section CALLS2
variable {nn no : Nat} {sz : Nat → Nat} {el : Nat → Nat → Int64} {wy hm : Nat → Nat} {ar : Nat → Nat → Bool} {Rt Ti Rs Rh Rw F Lt C Nd Wy : Nat → Int32} {Re E : Nat → Int64} {Rn Ra Mn Ro O : Int32} {C1w : Nat → Int64} {C1a : Nat → Int32} {na : Nat} {al : Nat → Int32} {nt : Nat} {tp : Nat → Int32} {nf : Nat} {fs : Nat → Int32} {nw : Nat} {C1s C1o : Int32} {Tk : Nat → Int32} {Cw : Nat → Int64} {Cs Wo Ih : Nat → Int32} {n : Nat} {w : Nat → Int64}
theorem allC_ok (hn : n ≤ 40) (hA : tri (n + 1) ≤ na) (hAb : na ≤ 65536) {i j : Nat} (hij : i < j) (hj : j ≤ n) : m_X0_all na al (nI i) (nI j) = some (al (spN i j)) := by
  have := spN_lt hij hj
  unfold m_X0_all
  rw [span_ok (by omega) (by omega) (by omega), ob_i, gd_nI (by omega) (by omega), nI_cl (by omega)]
theorem trees_ok (H : IO no sz el wy hm Rs Rh Rw Re Ro O E C Nd Wy) (P : IPd no sz el wy hm ar Rs Re F Lt C1w C1a na al nt tp nf fs nw C1s C1o Tk Cw Cs Wo Ih n w) (p0 p1 : Int32) : ∃ r, m_X8_trees 1 na al C1s p0 p1 = some r ∧ m_X9_trees Cs Ih 1 p0 p1 = some r := by
  obtain ⟨n1, Ev, Hc, c1, c2, c3, c4, c5, c6⟩ := P
  have hn : n ≤ 40 := Ev.2.1
  have hno : no ≤ 30 := H.1.2.1
  unfold m_X8_trees m_X9_trees
  rw [if_neg (by decide), if_neg (by decide), c1]
  rcases spans hn c3 p0 p1 with ⟨s1, s2⟩ | ⟨i, l, rfl, rfl, hl, hil, s1, s2⟩
  · rw [s1, s2, ob_i, ob_i, if_pos rfl, if_pos rfl]
    exact ⟨_, rfl, rfl⟩
  · have hA := Ev.2.2.2.2.2.1
    rw [s1, s2, ob_i, ob_i, if_neg (by decide), if_neg (by decide), nI_add, allC_ok hn hA.1 hA.2 (by omega) hil, ob_i, (Hc i (i + l) (by omega) hil trivial).1]
    have := holeAt_ok (Ih := Ih) (c := 0) (t := 0) (i := i) (l := l) (by omega) (by omega) (by omega) (by omega)
    have hI := (c6 i (i + l) (by omega) hil trivial).2 0 (by omega)
    rw [Nat.add_sub_cancel_left] at hI
    rw [hI, hv_AL (TKS_TK H.2.1 c5) hno] at this
    have : m_X9_holeAt Ih 0 0 (nI i) (nI l) = some _ := this
    rw [this, ob_i]
    exact ⟨_, rfl, rfl⟩
theorem with_ok (H : IO no sz el wy hm Rs Rh Rw Re Ro O E C Nd Wy) (P : IPd no sz el wy hm ar Rs Re F Lt C1w C1a na al nt tp nf fs nw C1s C1o Tk Cw Cs Wo Ih n w) (p0 p1 p2 : Int32) : ∃ r, m_X8_with 1 Ro C1a nt tp C1s C1o p0 p1 p2 = some r ∧ m_X9_with O E C Cw Cs Wo 1 p0 p1 p2 = some r := by
  obtain ⟨n1, Ev, Hc, c1, c2, c3, c4, c5, c6⟩ := P
  have hn : n ≤ 40 := Ev.2.1
  have hno : no ≤ 30 := H.1.2.1
  unfold m_X8_with m_X9_with m_X4_hasOperator
  rw [if_neg (show ¬ (1 : Int32) = 0 by decide), if_neg (show ¬ (1 : Int32) = 0 by decide), c1, c2, H.1.1, H.2.1.1]
  rcases spans hn c3 p0 p1 with ⟨s1, s2⟩ | ⟨i, l, rfl, rfl, hl, hil, s1, s2⟩
  · rw [s1, s2, ob_i, ob_i, if_pos rfl, if_pos rfl]
    exact ⟨_, rfl, rfl⟩
  · rw [s1, s2, ob_i, ob_i, if_neg (show ¬ (1 : Int32) = 0 by decide), if_neg (show ¬ (1 : Int32) = 0 by decide), nI_add]
    by_cases z : p2 < 0
    · by_cases z1 : p2 = -1
      · subst z1
        rw [if_pos rfl, if_neg (show ¬ (-1 : Int32) < -1 by decide), if_pos (show (-1 : Int32) < nI no by
          rw [Int32.lt_iff_toInt_lt]
          have e1 : (-1 : Int32).toInt = -1 := by decide
          rw [nI_toInt (by omega)]
          omega), if_neg (show ¬ (0 : Int32) ≤ -1 by decide), atoms_ok hn Ev.2.2.2.1 (by omega) hil, ob_i, gd_nI (by omega) (by omega), nI_cl (by omega), c4 i (by omega), mAtom_ok (show RG C E (nI no) no sz el by have := H.2.1; rw [← this.1]; exact this), ob_i]
        refine ⟨_, rfl, ?_⟩
        unfold at1 atN
        by_cases q : l = 1
        · rw [if_pos (show nI l = 1 by rw [q]; rfl), if_pos (show i + l = i + 1 by omega)]
          by_cases q2 : atomB no sz el (w i) = true
          · rw [if_neg (by rw [bi_eq0]; simpa using q2), if_pos q2]; rfl
          · rw [if_pos (by rw [bi_eq0]; exact q2), if_neg q2]; rfl
        · rw [if_neg (show ¬ nI l = 1 by rw [i_1, nI_eq' (by omega) (by omega)]; exact q), if_neg (show ¬ i + l = i + 1 by omega)]; rfl
      · rw [if_neg z1, if_pos z, ob_i, if_pos rfl, if_pos (lt_m1 z z1)]
        exact ⟨_, rfl, rfl⟩
    · obtain ⟨o, ho, rfl⟩ := nI_of z
      rw [if_neg (show ¬ nI o = -1 from fun h => z (by rw [h]; decide)), if_neg z, if_neg (show ¬ nI o < -1 from fun h => z (by
        rw [Int32.lt_iff_toInt_lt] at h ⊢
        have e1 : (-1 : Int32).toInt = -1 := by decide
        have e0 : (0 : Int32).toInt = 0 := by decide
        omega))]
      by_cases q : o < no
      · rw [if_neg (by rw [nI_le' (by omega) ho]; omega), ob_i, if_neg (show ¬ (1 : Int32) = 0 by decide), if_pos (show nI o < nI no by rw [nI_lt' ho (by omega)]; exact q), if_pos (show 0 ≤ nI o by rw [i_0, nI_le' (by omega) ho]; omega)]
        have hT := Ev.2.2.2.2.2.2.1
        rw [topped_ok hn hno hT.1 hT.2 q (by omega) hil, ob_i, ((Hc i (i + l) (by omega) hil trivial).2 o q).1]
        have := withAt_ok (Wo := Wo) (c := 0) (o := o) (i := i) (l := l) (by omega) (by omega) (by omega) (by omega)
        have hI := (c6 i (i + l) (by omega) hil trivial).1 o q
        rw [Nat.add_sub_cancel_left] at hI
        rw [hI] at this
        have : m_X9_withAt Wo 0 (nI o) (nI i) (nI l) = some _ := this
        rw [this, ob_i]
        exact ⟨_, rfl, rfl⟩
      · rw [if_pos (by rw [nI_le' (by omega) ho]; omega), ob_i, if_pos rfl, if_neg (show ¬ nI o < nI no by rw [nI_lt' ho (by omega)]; exact q)]
        exact ⟨_, rfl, rfl⟩
theorem cv_op {at0 : Nat → Nat} : ∀ {f o e i j d : Nat} {its : List It}, cv no sz el w at0 f o e i j d its → ∀ it, it ∈ its → it.1 ≤ no := by
  intro f
  induction f with
  | zero => intro o e i j d its h; exact h.elim
  | succ f ih =>
    intro o e i j d its h it hit
    unfold cv at h
    by_cases q : e = sz o
    · rw [if_pos q] at h
      rw [h.2] at hit; cases hit
    · rw [if_neg q] at h
      by_cases q2 : el o e = 95
      · rw [if_pos q2] at h
        obtain ⟨m, c, r, h1, h2, rfl, h4, h5⟩ := h
        rcases List.mem_append.mp hit with hit | hit
        · rcases h4 with ⟨_, _, rfl⟩ | ⟨p, b, h6, rfl, h7⟩
          · have : it = (0, i, m, d) := by simpa using hit
            rw [this]; exact Nat.zero_le _
          · rcases List.mem_cons.mp hit with rfl | hit
            · exact h6
            · exact ih h7 it hit
        · exact ih h5 it hit
      · rw [if_neg q2] at h
        exact ih h.2.2 it hit
theorem tre_rng {at0 : Nat → Nat} {f d : Nat} {its : List It} (hn1 : 1 ≤ n) (h : tre no sz el w at0 f 0 n d its) : ∀ it, it ∈ its → it.1 ≤ no ∧ it.2.1 < it.2.2.1 ∧ it.2.2.1 ≤ n := by
  intro it hit
  rcases h with ⟨h1, _, rfl⟩ | ⟨p, b, h1, rfl, h2⟩
  · have : it = (0, 0, n, d) := by simpa using hit
    subst this
    exact ⟨Nat.zero_le _, by show 0 < n; omega, Nat.le_refl _⟩
  · rcases List.mem_cons.mp hit with rfl | hit
    · exact ⟨h1, by show 0 < n; omega, Nat.le_refl _⟩
    · have := (cv_rng h2).2 it hit
      exact ⟨cv_op h2 it hit, this.2.1, this.2.2⟩
theorem item_ok {Tt Tf Te Td Io If Iw Id : Nat → Int32} {ts mi : Int32} (hn1 : 1 ≤ n) (K : ITk no sz el n w Tt Tf Te Td ts Io If Iw Id mi) (p0 p1 : Int32) : ∃ r, m_X8_item 1 Tt Tf Te Td ts p0 p1 = some r ∧ m_X9_item 1 Io If Iw Id mi p0 p1 = some r := by
  obtain ⟨its, Fu, hl, h1, rfl, h2, rfl, h3⟩ := K
  unfold m_X8_item m_X9_item m_X7_size
  rw [if_neg (show ¬ (1 : Int32) = 0 by decide), if_neg (show ¬ (1 : Int32) = 0 by decide), ob_i]
  rcases pk_ix p0 (show its.length < 2 ^ 31 by omega) with z | z | ⟨q, hq, rfl⟩
  · rw [if_pos z, if_pos z]; exact ⟨_, rfl, rfl⟩
  · by_cases z0 : p0 < 0
    · rw [if_pos z0, if_pos z0]; exact ⟨_, rfl, rfl⟩
    · obtain ⟨j, hj, rfl⟩ := nI_of z0
      rw [nI_le' (by omega) hj] at z
      rw [if_neg z0, if_neg z0, if_neg (by rw [nI_lt' hj (by omega)]; omega), if_neg (by rw [nI_lt' hj (by omega)]; omega)]
      exact ⟨_, rfl, rfl⟩
  · have hp := nI_pos (show q < 2 ^ 31 by omega)
    have hlt : nI q < nI its.length := by rw [nI_lt' (by omega) (by omega)]; exact hq
    obtain ⟨it, hit⟩ : ∃ it, its[q]? = some it := ⟨its[q], List.getElem?_eq_getElem hq⟩
    obtain ⟨a1, a2, a3, a4⟩ := h1 q it hit
    obtain ⟨b1, b2, b3, b4⟩ := h2 q it hit
    have hr := tre_rng hn1 h3 it (List.mem_of_getElem? hit)
    rw [if_neg hp, if_neg hp, if_pos hlt, if_pos hlt]
    unfold m_X7_top m_X7_first m_X7_end m_X7_depth
    simp (disch := omega) only [gd_nI, nI_cl, ob_i]
    rw [a1, a2, a3, a4, b1, b2, b3, b4, pk_sub (by omega)]
    split
    · exact ⟨_, rfl, rfl⟩
    · split
      · exact ⟨_, rfl, rfl⟩
      · split
        · exact ⟨_, rfl, rfl⟩
        · split
          · exact ⟨_, rfl, rfl⟩
          · exact ⟨_, rfl, rfl⟩
/-- what is written -/
def IW (Pb : Nat → Int32) (pl : Int32) (Mo : Nat → Int32) (os : Int32) : Prop := ∃ l : List Nat, l.length ≤ 600 ∧ pl = nI l.length ∧ os = nI l.length ∧ rpB Pb l ∧ rpB Mo l
theorem octet_ok {Pb Mo : Nat → Int32} {pl os : Int32} (K : IW Pb pl Mo os) (p0 : Int32) : ∃ r, m_X8_octet Pb pl p0 = some r ∧ m_X9_octet Mo os p0 = some r := by
  obtain ⟨l, hl, rfl, rfl, h1, h2⟩ := K
  unfold m_X8_octet m_X9_octet m_X1_length m_X1_at
  rw [ob_i]
  rcases pk_ix p0 (show l.length < 2 ^ 31 by omega) with z | z | ⟨q, hq, rfl⟩
  · rw [if_pos z, if_pos z]; exact ⟨_, rfl, rfl⟩
  · by_cases z0 : p0 < 0
    · rw [if_pos z0, if_pos z0]; exact ⟨_, rfl, rfl⟩
    · obtain ⟨j, hj, rfl⟩ := nI_of z0
      rw [nI_le' (by omega) hj] at z
      rw [if_neg z0, if_neg z0, if_neg (by rw [nI_lt' hj (by omega)]; omega), if_neg (by rw [nI_lt' hj (by omega)]; omega)]
      exact ⟨_, rfl, rfl⟩
  · have hp := nI_pos (show q < 2 ^ 31 by omega)
    have hlt : nI q < nI l.length := by rw [nI_lt' (by omega) (by omega)]; exact hq
    rw [if_neg hp, if_neg hp, if_pos hlt, if_pos hlt, gd_nI (by omega) (by omega), gd_nI (by omega) (by omega), ob_i, nI_cl (by omega), h1 q _ (List.getElem?_eq_getElem hq), h2 q _ (List.getElem?_eq_getElem hq)]
    exact ⟨_, rfl, rfl⟩
theorem write_ok (H : IO no sz el wy hm Rs Rh Rw Re Ro O E C Nd Wy) (P : IPd no sz el wy hm ar Rs Re F Lt C1w C1a na al nt tp nf fs nw C1s C1o Tk Cw Cs Wo Ih n w) {Tt Tf Te Td Io If Iw Id : Nat → Int32} {ts mi : Int32} (K : ITk no sz el n w Tt Tf Te Td ts Io If Iw Id mi) (Pb : Nat → Int32) (pl : Int32) (Mo : Nat → Int32) (os : Int32) (oi oe : Nat → Int32) : ∃ r Pb' pl' Mo' os' oi' oe', m_X8_write 1 C1w C1s Tt Tf Te ts Pb pl = some (r, Pb', pl') ∧ m_X9_write E C Cw 1 Io If Mo os oi oe = some (r, Mo', os', oi', oe') ∧ IW Pb' pl' Mo' os' := by
  obtain ⟨n1, Ev, Hc, c1, c2, c3, c4, c5, c6⟩ := P
  obtain ⟨its, Fu, hl, h1, rfl, h2, rfl, h3⟩ := K
  have hn : n ≤ 40 := Ev.2.1
  have hno : no ≤ 30 := H.1.2.1
  have hr := tre_rng n1 h3
  have h600 := PP_600 w (A := its) hn hl
  obtain ⟨Pb', f1, f2⟩ := fillP_ok hn Ev.2.2.1 h1 hl (fun it hit => by have := hr it hit; omega) Pb pl
  have hM : RG C E (nI no) no sz el := by have := H.2.1; rw [← this.1]; exact this
  obtain ⟨Mo', oi', oe', g1, g2⟩ := mwrite_ok hM n1 hn (Cw := Cw) (by intro k hk; rw [Nat.mul_zero, Nat.zero_add]; exact c4 k hk) h3 hl (fun q it hq => by
    have := h2 q it hq
    rw [Nat.zero_add]
    exact ⟨this.1, this.2.1⟩) h600 Mo os oi oe
  unfold m_X8_write m_X1_length
  rw [if_neg (by decide), c1, f1, ob_i, ob_i, g1]
  exact ⟨_, Pb', _, Mo', _, oi', oe', rfl, rfl, _, h600, rfl, rfl, f2, g2⟩
theorem operators_ok {Tt Tf Te Td : Nat → Int32} {L : List It} (h : itT Tt Tf Te Td L) (hl : L.length ≤ 40) (hop : ∀ it, it ∈ L → it.1 ≤ 40) : m_X7_operators Tt (nI L.length) = some (nI (cntO L)) := by
  unfold m_X7_operators
  have key : ∀ (r q fu s : Nat), q + r = L.length → r < fu → m_X7_operators_4 (nI L.length) Tt fu (nI s) (nI q) = some (nI (s + cntO (L.drop q))) := by
    intro r
    induction r with
    | zero =>
      intro q fu s hq hf
      obtain ⟨fu, rfl⟩ : ∃ z, fu = z + 1 := ⟨fu - 1, by omega⟩
      have e0 : m_X7_operators_4 (nI L.length) Tt (fu + 1) (nI s) (nI q) = m_X7_operators_4 (nI L.length) Tt (fu + 1) (nI s) (nI q) := rfl
      conv at e0 => rhs; unfold m_X7_operators_4
      rw [if_pos (by rw [nI_le' (by omega) (by omega)]; omega)] at e0
      rw [e0, List.drop_eq_nil_of_le (by omega)]; rfl
    | succ r ih =>
      intro q fu s hq hf
      obtain ⟨fu, rfl⟩ : ∃ z, fu = z + 1 := ⟨fu - 1, by omega⟩
      have e0 : m_X7_operators_4 (nI L.length) Tt (fu + 1) (nI s) (nI q) = m_X7_operators_4 (nI L.length) Tt (fu + 1) (nI s) (nI q) := rfl
      conv at e0 => rhs; unfold m_X7_operators_4
      unfold m_X7_operators_25 at e0
      have hql : q < L.length := by omega
      have hT := (h q _ (List.getElem?_eq_getElem hql)).1
      have hb := hop _ (List.getElem_mem hql)
      rw [if_neg (by rw [nI_le' (by omega) (by omega)]; omega), gd_nI (by omega) (by omega), nI_cl (by omega), hT, nI_1, nI_1] at e0
      rw [e0, List.drop_eq_getElem_cons hql]
      show _ = some (nI (s + ((if (L[q]).1 = 0 then 0 else 1) + cntO (L.drop (q + 1)))))
      by_cases z : (L[q]).1 = 0
      · rw [if_pos (by rw [z]; rfl), if_pos z, Nat.zero_add, ih (q + 1) fu s (by omega) (by omega)]
      · rw [if_neg (by
          unfold topv
          rw [if_neg z]
          intro y
          have : nI ((L[q]).1 - 1) < 0 := by rw [y]; decide
          rw [i_0, nI_lt' (by omega) (by omega)] at this
          omega), if_neg z, ih (q + 1) fu (s + 1) (by omega) (by omega), Nat.add_assoc]
  have := key L.length 0 FU 0 (by omega) (by rw [FU_v]; omega)
  rw [Nat.zero_add, List.drop_zero] at this
  exact this
end CALLS2
