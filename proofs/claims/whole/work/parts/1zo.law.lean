/-! THE LAW: what holds between two calls -/
def IPK (no : Nat) (sz : Nat → Nat) (el : Nat → Nat → Int64) (wy hm : Nat → Nat) (ar : Nat → Nat → Bool) (Rs : Nat → Int32) (Re : Nat → Int64) (F Lt : Nat → Int32) (C1w : Nat → Int64) (C1a : Nat → Int32) (na : Nat) (al : Nat → Int32) (nt : Nat) (tp : Nat → Int32) (nf : Nat) (fs : Nat → Int32) (nw : Nat) (C1s C1o : Int32) (Tk : Nat → Int32) (Cw : Nat → Int64) (Cs Wo Ih : Nat → Int32) (d1 d2 m1 m2 : Int32) (Tt Tf Te Td : Nat → Int32) (ts : Int32) (Io If Iw Id : Nat → Int32) (mi : Int32) : Prop := (d1 = 0 ∧ m1 = 0 ∧ d2 = 0 ∧ m2 = 0) ∨ (d1 = 1 ∧ m1 = 1 ∧ ∃ n w, IPd no sz el wy hm ar Rs Re F Lt C1w C1a na al nt tp nf fs nw C1s C1o Tk Cw Cs Wo Ih n w ∧ ((d2 = 0 ∧ m2 = 0) ∨ (d2 = 1 ∧ m2 = 1 ∧ ITk no sz el n w Tt Tf Te Td ts Io If Iw Id mi)))
def INV (sl : Nat) (D_isParsed : Int32) (D_isTaken : Int32) (X_bytes : (Nat → Int32)) (X_length : Int32) (R_tighter : (Nat → Int32)) (R_size : (Nat → Int32)) (R_home : (Nat → Int32)) (R_way : (Nat → Int32)) (R_firstTakes : (Nat → Int32)) (R_lastTakes : (Nat → Int32)) (R_elements : (Nat → Int64)) (R_nodes : Int32) (R_arrows : Int32) (R_operators : Int32) (C1_words : (Nat → Int64)) (C1_atom : (Nat → Int32)) (n_C1_all : Nat) (C1_all : (Nat → Int32)) (n_C1_topped : Nat) (C1_topped : (Nat → Int32)) (n_C1_firsts : Nat) (C1_firsts : (Nat → Int32)) (n_C1_ways : Nat) (C1_size : Int32) (C1_operators : Int32) (n_C2_all : Nat) (n_C2_topped : Nat) (n_C2_firsts : Nat) (n_C2_ways : Nat) (T1_top : (Nat → Int32)) (T1_first : (Nat → Int32)) (T1_end : (Nat → Int32)) (T1_depth : (Nat → Int32)) (T1_size : Int32) (P_bytes : (Nat → Int32)) (P_length : Int32) (M_nodes : Int32) (M_isTighter : (Nat → Int32)) (M_operators : Int32) (M_elements : (Nat → Int64)) (M_elementCount : (Nat → Int32)) (M_nodeOf : (Nat → Int32)) (M_wayOf : (Nat → Int32)) (M_takes : (Nat → Int32)) (M_text : (Nat → Int32)) (M_textSize : Int32) (M_chartWord : (Nat → Int64)) (M_chartSize : (Nat → Int32)) (M_withOperator : (Nat → Int32)) (M_inHole : (Nat → Int32)) (M_isParsed : Int32) (M_isTaken : Int32) (M_itemOperator : (Nat → Int32)) (M_itemFirst : (Nat → Int32)) (M_itemWords : (Nat → Int32)) (M_itemDepth : (Nat → Int32)) (M_items : Int32) (M_out : (Nat → Int32)) (M_outSize : Int32) : Prop := ∃ n f nn ar no sz el wy hm, TX n f X_bytes M_text ∧ X_length = nI n ∧ M_textSize = nI n ∧ IG nn ar R_tighter R_nodes R_arrows M_nodes M_isTighter ∧ IO no sz el wy hm R_size R_home R_way R_elements R_operators M_operators M_elements M_elementCount M_nodeOf M_wayOf ∧ IF no sz el wy hm ar R_firstTakes R_lastTakes ∧ (n_C1_all ≤ 820 ∧ n_C1_topped ≤ 24600 ∧ n_C1_firsts ≤ 24600 ∧ n_C1_ways ≤ 12300) ∧ (n_C2_all ≤ 820 ∧ n_C2_topped ≤ 24600 ∧ n_C2_firsts ≤ 24600 ∧ n_C2_ways ≤ 12300) ∧ sl + (186960 - phi4 n_C1_all n_C1_topped n_C1_firsts n_C1_ways) + (186960 - phi4 n_C2_all n_C2_topped n_C2_firsts n_C2_ways) ≤ 7302250 ∧ IW P_bytes P_length M_out M_outSize ∧ IPK no sz el wy hm ar R_size R_elements R_firstTakes R_lastTakes C1_words C1_atom n_C1_all C1_all n_C1_topped C1_topped n_C1_firsts C1_firsts n_C1_ways C1_size C1_operators M_takes M_chartWord M_chartSize M_withOperator M_inHole D_isParsed D_isTaken M_isParsed M_isTaken T1_top T1_first T1_end T1_depth T1_size M_itemOperator M_itemFirst M_itemWords M_itemDepth M_items
theorem phi4_le {a b c d : Nat} (h : a ≤ 820 ∧ b ≤ 24600 ∧ c ≤ 24600 ∧ d ≤ 12300) : phi4 a b c d ≤ 186960 := by
  unfold phi4 phi
  have h1 : (if a = 820 then 3 * 820 else 2 * a) ≤ 2460 := by split <;> omega
  have h2 : (if b = 24600 then 3 * 24600 else 2 * b) ≤ 73800 := by split <;> omega
  have h3 : (if c = 24600 then 3 * 24600 else 2 * c) ≤ 73800 := by split <;> omega
  have h4 : (if d = 12300 then 3 * 12300 else 2 * d) ≤ 36900 := by split <;> omega
  omega
/-- what the numbering leaves of what is parsed -/
theorem IPd_frame {no : Nat} {sz : Nat → Nat} {el : Nat → Nat → Int64} {wy hm : Nat → Nat} {ar : Nat → Nat → Bool} {Rs : Nat → Int32} {Re : Nat → Int64} {F Lt : Nat → Int32} {C1w : Nat → Int64} {C1a : Nat → Int32} {na : Nat} {al : Nat → Int32} {nt : Nat} {tp : Nat → Int32} {nf : Nat} {fs : Nat → Int32} {nw : Nat} {C1s C1o : Int32} {Tk Tk' : Nat → Int32} {Cw Cw' : Nat → Int64} {Cs Wo Ih Cs' Wo' Ih' : Nat → Int32} {n : Nat} {w : Nat → Int64} (h : IPd no sz el wy hm ar Rs Re F Lt C1w C1a na al nt tp nf fs nw C1s C1o Tk Cw Cs Wo Ih n w) (h1 : ∀ k, k < 40 → Cw' k = Cw k) (h2 : Cs' 0 = Cs 0) (h3 : ∀ q, q < 50430 → Wo' q = Wo q) (h4 : ∀ q, q < 102541 → Ih' q = Ih q) (h5 : Tk' = Tk ∨ TKS no sz el wy hm ar Tk') : IPd no sz el wy hm ar Rs Re F Lt C1w C1a na al nt tp nf fs nw C1s C1o Tk' Cw' Cs' Wo' Ih' n w := by
  obtain ⟨n1, Ev, Hc, c1, c2, c3, c4, c5, c6⟩ := h
  have hn : n ≤ 40 := Ev.2.1
  have hno : no ≤ 30 := Ev.1.2.1
  have hT : TKS no sz el wy hm ar Tk' := by
    rcases h5 with h5 | h5
    · rw [h5]; exact c5
    · exact h5
  refine ⟨n1, Ev, Hc, c1, c2, by rw [h2]; exact c3, fun k hk => by rw [h1 k (by omega)]; exact c4 k hk, hT, ?_⟩
  intro i j hij hj _
  obtain ⟨a1, a2⟩ := c6 i j hij hj trivial
  refine ⟨fun o ho => ?_, fun t ht => ?_⟩
  · rw [h3 _ (by unfold mwN; omega)]; exact a1 o ho
  · rw [h4 _ (by unfold mhN; omega), a2 t ht]
    unfold hvN
    rw [TKS_eq hno c5 hT ht]
