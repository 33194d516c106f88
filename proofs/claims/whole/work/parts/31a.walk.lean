theorem dX4_operators_0 : decode cX4_operators 0 = .ok (.aload_n 0, 1) := by decide +kernel
theorem dX4_operators_1 : decode cX4_operators 1 = .ok (.getfield 41, 3) := by decide +kernel
theorem dX4_operators_4 : decode cX4_operators 4 = .ok (.ireturn, 1) := by decide +kernel
/-! MixfixDesk$Rules.operators()I -/
abbrev rm_X4_operators : Room := { frames := 0, cells := 0, slots := 0, locals := 0 }
theorem X4_operators_inX4 : ∀ w ∈ wsX40, w ∈ wsX4_operators := by decide +kernel
abbrev RT_X4_operators (p : Program) (l : Launch) (e : Env) (s : State) (m : MethodId) (args : Array Value) (below : List Frame) (meth : Method) (c : Code) (Q : State → Prop) (dC : Nat → ClassId) (dI : Nat → Nat → Nat) (cI cJ cB cZ : ClassId) (A : Nat → Prop) (aR : Nat → Nat) (R_nodes : Int32) (R_arrows : Int32) (R_operators : Int32) (res : Int32) : Prop := ∀ (v : Int32) , some v = some res → ∀ (pc : Nat) (H : Heap) (locs : List Loc) (ls : Array Slot), decode cX4_operators pc = .ok (.ireturn, 1) → va_P (dC, dI) vwCl [((aR 0), .inr (4, [.ref (aR 1), .ref (aR 2), .ref (aR 3), .ref (aR 4), .ref (aR 5), .ref (aR 6), .ref (aR 7), .int R_nodes, .int R_arrows, .int R_operators]))] H → va_D A [((aR 0), .inr (4, [.ref (aR 1), .ref (aR 2), .ref (aR 3), .ref (aR 4), .ref (aR 5), .ref (aR 6), .ref (aR 7), .int R_nodes, .int R_arrows, .int R_operators]))] → va_S A s.heap H locs → W p l e rm_X4_operators s m args below meth c H locs 0 0 Q (F0 m pc ls [.int v])
set_option maxHeartbeats 4000000 in
set_option maxRecDepth 100000 in
theorem k_X4_operators_E {p : Program} {l : Launch} {e : Env} {s : State} {m : MethodId} {args : Array Value} {below : List Frame} {meth : Method} {c : Code} {Q : State → Prop} {dC : Nat → ClassId} {dI : Nat → Nat → Nat} {cI cJ cB cZ : ClassId} {A : Nat → Prop} (C0 : Cx p s m meth c args cX4_operators 1 (some .int) wsX4_operators RX4) (hK : va_K (dC, dI) vwCl [(cI, .int), (cJ, .long), (cB, .byte), (cZ, .boolean)] s) (hN : NW s) (hA : ∀ q, s.heap.size ≤ q → A q) (aR : Nat → Nat) (R_nodes : Int32) (R_arrows : Int32) (R_operators : Int32) (res : Int32) (RET : RT_X4_operators p l e s m args below meth c Q dC dI cI cJ cB cZ A aR R_nodes R_arrows R_operators res) : m_X4_operators R_operators = some res → ∀ (H : Heap) (locs : List Loc), va_P (dC, dI) vwCl [((aR 0), .inr (4, [.ref (aR 1), .ref (aR 2), .ref (aR 3), .ref (aR 4), .ref (aR 5), .ref (aR 6), .ref (aR 7), .int R_nodes, .int R_arrows, .int R_operators]))] H → va_D A [((aR 0), .inr (4, [.ref (aR 1), .ref (aR 2), .ref (aR 3), .ref (aR 4), .ref (aR 5), .ref (aR 6), .ref (aR 7), .int R_nodes, .int R_arrows, .int R_operators]))] → va_S A s.heap H locs → ∀ (ls : Array Slot), lv_has ls 1 [(0, .ref (aR 0))] → W p l e rm_X4_operators s m args below meth c H locs 0 0 Q (F0 m 0 ls []) := by
  obtain ⟨⟨hx, hb, hml, hown, hts⟩, hr, hlocks⟩ := id C0
  intro  hm H locs hP hD hS ls hl
  have hm : (some R_operators) = some res := hm
  refine lv_aload_n hx hb dX4_operators_0 rfl (lv_at hl 0 rfl) ?_
  refine va_get (D := (dC, dI)) (ci := 4) (v := .int R_operators) (C := RX4) (T := TX4) (N := 10) hx hb hts X4_operators_inX4 hown hK hP 0 rfl rfl 9 (by decide) (hts (.fieldLink RX4 41 "MixfixDesk$Rules" "operators" "I") (by decide +kernel)) (fun _ h9 => h9) rfl dX4_operators_1 ?_
  exact RET R_operators hm _ H locs ls dX4_operators_4 hP hD hS
set_option maxHeartbeats 4000000 in
set_option maxRecDepth 100000 in
theorem c_X4_operators (l : Launch) (dC : Nat → ClassId) (dI : Nat → Nat → Nat) (cI cJ cB cZ : ClassId) (aR : Nat → Nat) (sz : Nat) (R_nodes : Int32) (R_arrows : Int32) (R_operators : Int32) (res : Int32) (hm : m_X4_operators R_operators = some res) : Met l yX4_operators wsX4_operators rm_X4_operators (cP (dC, dI) vwCl [(cI, .int), (cJ, .long), (cB, .byte), (cZ, .boolean)] [.ref (aR 0)] [((aR 0), .inr (4, [.ref (aR 1), .ref (aR 2), .ref (aR 3), .ref (aR 4), .ref (aR 5), .ref (aR 6), .ref (aR 7), .int R_nodes, .int R_arrows, .int R_operators]))] sz) (cQi res (dC, dI) vwCl [((aR 0), .inr (4, [.ref (aR 1), .ref (aR 2), .ref (aR 3), .ref (aR 4), .ref (aR 5), .ref (aR 6), .ref (aR 7), .int R_nodes, .int R_arrows, .int R_operators]))] [((aR 0), .inr (4, [.ref (aR 1), .ref (aR 2), .ref (aR 3), .ref (aR 4), .ref (aR 5), .ref (aR 6), .ref (aR 7), .int R_nodes, .int R_arrows, .int R_operators]))] sz) 0 0 (va_A [((aR 0), .inr (4, [.ref (aR 1), .ref (aR 2), .ref (aR 3), .ref (aR 4), .ref (aR 5), .ref (aR 6), .ref (aR 7), .int R_nodes, .int R_arrows, .int R_operators]))] sz) := by
  refine cx_of (cc := cX4_operators) (maxL := 1) (ret := (some .int)) (own := RX4) (by decide) rfl rfl (Nat.le_of_ble_eq_true rfl) ?_
  intro p e s m below meth c A C0 hinN hK hN hsz hAe hA hP hD hS ls hl
  refine k_X4_operators_E C0 hK hN hA aR R_nodes R_arrows R_operators res ?_  hm _ _ hP hD hS ls hl
  intro v he pc H locs ls hdg hP hD hS
  have he := Option.some.inj he
  subst he
  exact cx_reti C0 hsz hAe hdg hP hD hS

theorem dX4_element_0 : decode cX4_element 0 = .ok (.aload_n 0, 1) := by decide +kernel
theorem dX4_element_1 : decode cX4_element 1 = .ok (.getfield 30, 3) := by decide +kernel
theorem dX4_element_4 : decode cX4_element 4 = .ok (.iload_n 1, 1) := by decide +kernel
theorem dX4_element_5 : decode cX4_element 5 = .ok (.bipush 9, 2) := by decide +kernel
theorem dX4_element_7 : decode cX4_element 7 = .ok (.imul, 1) := by decide +kernel
theorem dX4_element_8 : decode cX4_element 8 = .ok (.iload_n 2, 1) := by decide +kernel
theorem dX4_element_9 : decode cX4_element 9 = .ok (.iadd, 1) := by decide +kernel
theorem dX4_element_10 : decode cX4_element 10 = .ok (.laload, 1) := by decide +kernel
theorem dX4_element_11 : decode cX4_element 11 = .ok (.lreturn, 1) := by decide +kernel
/-! MixfixDesk$Rules.element(II)J -/
abbrev rm_X4_element : Room := { frames := 0, cells := 0, slots := 0, locals := 0 }
theorem X4_element_inX4 : ∀ w ∈ wsX40, w ∈ wsX4_element := by decide +kernel
abbrev RT_X4_element (p : Program) (l : Launch) (e : Env) (s : State) (m : MethodId) (args : Array Value) (below : List Frame) (meth : Method) (c : Code) (Q : State → Prop) (dC : Nat → ClassId) (dI : Nat → Nat → Nat) (cI cJ cB cZ : ClassId) (A : Nat → Prop) (aR : Nat → Nat) (R_nodes : Int32) (R_arrows : Int32) (R_operators : Int32) (R_elements : Nat → Int64) (res : Int64) : Prop := ∀ (v : Int64) , some v = some res → ∀ (pc : Nat) (H : Heap) (locs : List Loc) (ls : Array Slot), decode cX4_element pc = .ok (.lreturn, 1) → va_P (dC, dI) vwCl [((aR 0), .inr (4, [.ref (aR 1), .ref (aR 2), .ref (aR 3), .ref (aR 4), .ref (aR 5), .ref (aR 6), .ref (aR 7), .int R_nodes, .int R_arrows, .int R_operators])), ((aR 7), .inl (cJ, 270, .inr (.inl R_elements)))] H → va_D A [((aR 0), .inr (4, [.ref (aR 1), .ref (aR 2), .ref (aR 3), .ref (aR 4), .ref (aR 5), .ref (aR 6), .ref (aR 7), .int R_nodes, .int R_arrows, .int R_operators])), ((aR 7), .inl (cJ, 270, .inr (.inl R_elements)))] → va_S A s.heap H locs → W p l e rm_X4_element s m args below meth c H locs 0 0 Q (F0 m pc ls [.long v])
set_option maxHeartbeats 4000000 in
set_option maxRecDepth 100000 in
theorem k_X4_element_E {p : Program} {l : Launch} {e : Env} {s : State} {m : MethodId} {args : Array Value} {below : List Frame} {meth : Method} {c : Code} {Q : State → Prop} {dC : Nat → ClassId} {dI : Nat → Nat → Nat} {cI cJ cB cZ : ClassId} {A : Nat → Prop} (C0 : Cx p s m meth c args cX4_element 3 (some .long) wsX4_element RX4) (hK : va_K (dC, dI) vwCl [(cI, .int), (cJ, .long), (cB, .byte), (cZ, .boolean)] s) (hN : NW s) (hA : ∀ q, s.heap.size ≤ q → A q) (aR : Nat → Nat) (R_nodes : Int32) (R_arrows : Int32) (R_operators : Int32) (R_elements : Nat → Int64) (res : Int64) (RET : RT_X4_element p l e s m args below meth c Q dC dI cI cJ cB cZ A aR R_nodes R_arrows R_operators R_elements res) : ∀ (p0 : Int32) (p1 : Int32), m_X4_element R_elements p0 p1 = some res → ∀ (H : Heap) (locs : List Loc), va_P (dC, dI) vwCl [((aR 0), .inr (4, [.ref (aR 1), .ref (aR 2), .ref (aR 3), .ref (aR 4), .ref (aR 5), .ref (aR 6), .ref (aR 7), .int R_nodes, .int R_arrows, .int R_operators])), ((aR 7), .inl (cJ, 270, .inr (.inl R_elements)))] H → va_D A [((aR 0), .inr (4, [.ref (aR 1), .ref (aR 2), .ref (aR 3), .ref (aR 4), .ref (aR 5), .ref (aR 6), .ref (aR 7), .int R_nodes, .int R_arrows, .int R_operators])), ((aR 7), .inl (cJ, 270, .inr (.inl R_elements)))] → va_S A s.heap H locs → ∀ (ls : Array Slot), lv_has ls 3 [(0, .ref (aR 0)), (1, .int p0), (2, .int p1)] → W p l e rm_X4_element s m args below meth c H locs 0 0 Q (F0 m 0 ls []) := by
  obtain ⟨⟨hx, hb, hml, hown, hts⟩, hr, hlocks⟩ := id C0
  intro p0 p1 hm H locs hP hD hS ls hl
  have hm : (gd ((p0 * 9) + p1) 270 (some (R_elements ((p0 * 9) + p1).toNatClampNeg))) = some res := hm
  refine lv_aload_n hx hb dX4_element_0 rfl (lv_at hl 0 rfl) ?_
  refine va_get (D := (dC, dI)) (ci := 4) (v := .ref (aR 7)) (C := RX4) (T := TX4) (N := 10) hx hb hts X4_element_inX4 hown hK hP 0 rfl rfl 6 (by decide) (hts (.fieldLink RX4 30 "MixfixDesk$Rules" "elements" "[J") (by decide +kernel)) (fun _ h9 => h9) rfl dX4_element_1 ?_
  refine lv_iload_n hx hb dX4_element_4 rfl (lv_at hl 1 rfl) ?_
  refine lv_bipush (v := 9) hx hb dX4_element_5 (by decide) ?_
  refine lv_imul hx hb dX4_element_7 ?_
  refine lv_iload_n hx hb dX4_element_8 rfl (lv_at hl 2 rfl) ?_
  refine lv_iadd hx hb dX4_element_9 ?_
  obtain ⟨hi_1, hm⟩ := gd_some hm
  refine va_lald (D := (dC, dI)) hx hb hK hP 1 1 rfl rfl hi_1 dX4_element_10 ?_
  exact RET (R_elements ((p0 * 9) + p1).toNatClampNeg) hm _ H locs ls dX4_element_11 hP hD hS
set_option maxHeartbeats 4000000 in
set_option maxRecDepth 100000 in
theorem c_X4_element (l : Launch) (dC : Nat → ClassId) (dI : Nat → Nat → Nat) (cI cJ cB cZ : ClassId) (aR : Nat → Nat) (sz : Nat) (R_nodes : Int32) (R_arrows : Int32) (R_operators : Int32) (R_elements : Nat → Int64) (p0 : Int32) (p1 : Int32) (res : Int64) (hm : m_X4_element R_elements p0 p1 = some res) : Met l yX4_element wsX4_element rm_X4_element (cP (dC, dI) vwCl [(cI, .int), (cJ, .long), (cB, .byte), (cZ, .boolean)] [.ref (aR 0), .int p0, .int p1] [((aR 0), .inr (4, [.ref (aR 1), .ref (aR 2), .ref (aR 3), .ref (aR 4), .ref (aR 5), .ref (aR 6), .ref (aR 7), .int R_nodes, .int R_arrows, .int R_operators])), ((aR 7), .inl (cJ, 270, .inr (.inl R_elements)))] sz) (cQl res (dC, dI) vwCl [((aR 0), .inr (4, [.ref (aR 1), .ref (aR 2), .ref (aR 3), .ref (aR 4), .ref (aR 5), .ref (aR 6), .ref (aR 7), .int R_nodes, .int R_arrows, .int R_operators])), ((aR 7), .inl (cJ, 270, .inr (.inl R_elements)))] [((aR 0), .inr (4, [.ref (aR 1), .ref (aR 2), .ref (aR 3), .ref (aR 4), .ref (aR 5), .ref (aR 6), .ref (aR 7), .int R_nodes, .int R_arrows, .int R_operators])), ((aR 7), .inl (cJ, 270, .inr (.inl R_elements)))] sz) 0 0 (va_A [((aR 0), .inr (4, [.ref (aR 1), .ref (aR 2), .ref (aR 3), .ref (aR 4), .ref (aR 5), .ref (aR 6), .ref (aR 7), .int R_nodes, .int R_arrows, .int R_operators])), ((aR 7), .inl (cJ, 270, .inr (.inl R_elements)))] sz) := by
  refine cx_of (cc := cX4_element) (maxL := 3) (ret := (some .long)) (own := RX4) (by decide) rfl rfl (Nat.le_of_ble_eq_true rfl) ?_
  intro p e s m below meth c A C0 hinN hK hN hsz hAe hA hP hD hS ls hl
  refine k_X4_element_E C0 hK hN hA aR R_nodes R_arrows R_operators R_elements res ?_ p0 p1 hm _ _ hP hD hS ls hl
  intro v he pc H locs ls hdg hP hD hS
  have he := Option.some.inj he
  subst he
  exact cx_retl C0 hsz hAe hdg hP hD hS

set_option maxRecDepth 20000 in
theorem ggX4_isPart_X4_element : GoodIn wsX4_isPart wsX4_element := goodIn_r _ [8, 9, 10, 11, 12, 13, 14, 15, 16, 17, 18, 19] (by decide +kernel) (by decide +kernel)
set_option maxRecDepth 20000 in
theorem gX4_isPart_X4_element : GoodIn wsX4_isPart (wsV RX4 72 RX4 yX4_element wsX4_element) := goodIn_app (goodIn_of _ (by decide +kernel)) ggX4_isPart_X4_element
theorem dX4_isPart_0 : decode cX4_isPart 0 = .ok (.lload_n 1, 1) := by decide +kernel
theorem dX4_isPart_1 : decode cX4_isPart 1 = .ok (.ldc2_w 44, 3) := by decide +kernel
theorem dX4_isPart_4 : decode cX4_isPart 4 = .ok (.lcmp, 1) := by decide +kernel
theorem dX4_isPart_5 : decode cX4_isPart 5 = .ok (.ifCond .ne 5, 3) := by decide +kernel
theorem dX4_isPart_8 : decode cX4_isPart 8 = .ok (.iconst 0, 1) := by decide +kernel
theorem dX4_isPart_9 : decode cX4_isPart 9 = .ok (.ireturn, 1) := by decide +kernel
theorem dX4_isPart_10 : decode cX4_isPart 10 = .ok (.iconst 0, 1) := by decide +kernel
theorem dX4_isPart_11 : decode cX4_isPart 11 = .ok (.istore_n 3, 1) := by decide +kernel
theorem dX4_isPart_12 : decode cX4_isPart 12 = .ok (.iload_n 3, 1) := by decide +kernel
theorem dX4_isPart_13 : decode cX4_isPart 13 = .ok (.aload_n 0, 1) := by decide +kernel
theorem dX4_isPart_14 : decode cX4_isPart 14 = .ok (.getfield 41, 3) := by decide +kernel
theorem dX4_isPart_17 : decode cX4_isPart 17 = .ok (.if_icmp .ge 43, 3) := by decide +kernel
theorem dX4_isPart_20 : decode cX4_isPart 20 = .ok (.iconst 0, 1) := by decide +kernel
theorem dX4_isPart_21 : decode cX4_isPart 21 = .ok (.istore 4, 2) := by decide +kernel
theorem dX4_isPart_23 : decode cX4_isPart 23 = .ok (.iload 4, 2) := by decide +kernel
theorem dX4_isPart_25 : decode cX4_isPart 25 = .ok (.aload_n 0, 1) := by decide +kernel
theorem dX4_isPart_26 : decode cX4_isPart 26 = .ok (.getfield 15, 3) := by decide +kernel
theorem dX4_isPart_29 : decode cX4_isPart 29 = .ok (.iload_n 3, 1) := by decide +kernel
theorem dX4_isPart_30 : decode cX4_isPart 30 = .ok (.iaload, 1) := by decide +kernel
theorem dX4_isPart_31 : decode cX4_isPart 31 = .ok (.if_icmp .ge 23, 3) := by decide +kernel
theorem dX4_isPart_34 : decode cX4_isPart 34 = .ok (.aload_n 0, 1) := by decide +kernel
theorem dX4_isPart_35 : decode cX4_isPart 35 = .ok (.iload_n 3, 1) := by decide +kernel
theorem dX4_isPart_36 : decode cX4_isPart 36 = .ok (.iload 4, 2) := by decide +kernel
theorem dX4_isPart_38 : decode cX4_isPart 38 = .ok (.invokevirtual 72, 3) := by decide +kernel
theorem dX4_isPart_41 : decode cX4_isPart 41 = .ok (.lload_n 1, 1) := by decide +kernel
theorem dX4_isPart_42 : decode cX4_isPart 42 = .ok (.lcmp, 1) := by decide +kernel
theorem dX4_isPart_43 : decode cX4_isPart 43 = .ok (.ifCond .ne 5, 3) := by decide +kernel
theorem dX4_isPart_46 : decode cX4_isPart 46 = .ok (.iconst 1, 1) := by decide +kernel
theorem dX4_isPart_47 : decode cX4_isPart 47 = .ok (.ireturn, 1) := by decide +kernel
theorem dX4_isPart_48 : decode cX4_isPart 48 = .ok (.iinc 4 1, 3) := by decide +kernel
theorem dX4_isPart_51 : decode cX4_isPart 51 = .ok (.goto (-28), 3) := by decide +kernel
theorem dX4_isPart_54 : decode cX4_isPart 54 = .ok (.iinc 3 1, 3) := by decide +kernel
theorem dX4_isPart_57 : decode cX4_isPart 57 = .ok (.goto (-45), 3) := by decide +kernel
theorem dX4_isPart_60 : decode cX4_isPart 60 = .ok (.iconst 0, 1) := by decide +kernel
theorem dX4_isPart_61 : decode cX4_isPart 61 = .ok (.ireturn, 1) := by decide +kernel
/-! MixfixDesk$Rules.isPart(J)Z -/
abbrev rm_X4_isPart : Room := { frames := 1, cells := 0, slots := 0, locals := 22 }
theorem X4_isPart_inX4 : ∀ w ∈ wsX40, w ∈ wsX4_isPart := by decide +kernel
abbrev RT_X4_isPart (p : Program) (l : Launch) (e : Env) (s : State) (m : MethodId) (args : Array Value) (below : List Frame) (meth : Method) (c : Code) (Q : State → Prop) (dC : Nat → ClassId) (dI : Nat → Nat → Nat) (cI cJ cB cZ : ClassId) (A : Nat → Prop) (aR : Nat → Nat) (R_nodes : Int32) (R_arrows : Int32) (R_operators : Int32) (R_size : Nat → Int32) (R_elements : Nat → Int64) (res : Int32) : Prop := ∀ (v : Int32) , some v = some res → narrow .boolean (.int v) = .int v → ∀ (pc : Nat) (H : Heap) (locs : List Loc) (ls : Array Slot), decode cX4_isPart pc = .ok (.ireturn, 1) → va_P (dC, dI) vwCl [((aR 0), .inr (4, [.ref (aR 1), .ref (aR 2), .ref (aR 3), .ref (aR 4), .ref (aR 5), .ref (aR 6), .ref (aR 7), .int R_nodes, .int R_arrows, .int R_operators])), ((aR 2), .inl (cI, 30, .inl R_size)), ((aR 7), .inl (cJ, 270, .inr (.inl R_elements)))] H → va_D A [((aR 0), .inr (4, [.ref (aR 1), .ref (aR 2), .ref (aR 3), .ref (aR 4), .ref (aR 5), .ref (aR 6), .ref (aR 7), .int R_nodes, .int R_arrows, .int R_operators])), ((aR 2), .inl (cI, 30, .inl R_size)), ((aR 7), .inl (cJ, 270, .inr (.inl R_elements)))] → va_S A s.heap H locs → W p l e rm_X4_isPart s m args below meth c H locs 0 0 Q (F0 m pc ls [.int v])
set_option maxHeartbeats 4000000 in
set_option maxRecDepth 100000 in
theorem k_X4_isPart_23 {p : Program} {l : Launch} {e : Env} {s : State} {m : MethodId} {args : Array Value} {below : List Frame} {meth : Method} {c : Code} {Q : State → Prop} {dC : Nat → ClassId} {dI : Nat → Nat → Nat} {cI cJ cB cZ : ClassId} {A : Nat → Prop} (C0 : Cx p s m meth c args cX4_isPart 5 (some .boolean) wsX4_isPart RX4) (hK : va_K (dC, dI) vwCl [(cI, .int), (cJ, .long), (cB, .byte), (cZ, .boolean)] s) (hN : NW s) (hA : ∀ q, s.heap.size ≤ q → A q) (aR : Nat → Nat) (R_nodes : Int32) (R_arrows : Int32) (R_operators : Int32) (R_size : Nat → Int32) (R_elements : Nat → Int64) (res : Int32) (RET : RT_X4_isPart p l e s m args below meth c Q dC dI cI cJ cB cZ A aR R_nodes R_arrows R_operators R_size R_elements res) (k12 : Int64 → Int32 → Option (Int32)) (hk12 : ∀ (x1 : Int64) (x3 : Int32), k12 x1 x3 = some res → ∀ (H : Heap) (locs : List Loc), va_P (dC, dI) vwCl [((aR 0), .inr (4, [.ref (aR 1), .ref (aR 2), .ref (aR 3), .ref (aR 4), .ref (aR 5), .ref (aR 6), .ref (aR 7), .int R_nodes, .int R_arrows, .int R_operators])), ((aR 2), .inl (cI, 30, .inl R_size)), ((aR 7), .inl (cJ, 270, .inr (.inl R_elements)))] H → va_D A [((aR 0), .inr (4, [.ref (aR 1), .ref (aR 2), .ref (aR 3), .ref (aR 4), .ref (aR 5), .ref (aR 6), .ref (aR 7), .int R_nodes, .int R_arrows, .int R_operators])), ((aR 2), .inl (cI, 30, .inl R_size)), ((aR 7), .inl (cJ, 270, .inr (.inl R_elements)))] → va_S A s.heap H locs → ∀ (ls : Array Slot), lv_has ls 5 [(0, .ref (aR 0)), (1, .long x1), (3, .int x3)] → W p l e rm_X4_isPart s m args below meth c H locs 0 0 Q (F0 m 12 ls [])) : ∀ (n : Nat) (x1 : Int64) (x3 : Int32) (x4 : Int32), m_X4_isPart_23 R_operators R_size R_elements k12 n x1 x3 x4 = some res → ∀ (H : Heap) (locs : List Loc), va_P (dC, dI) vwCl [((aR 0), .inr (4, [.ref (aR 1), .ref (aR 2), .ref (aR 3), .ref (aR 4), .ref (aR 5), .ref (aR 6), .ref (aR 7), .int R_nodes, .int R_arrows, .int R_operators])), ((aR 2), .inl (cI, 30, .inl R_size)), ((aR 7), .inl (cJ, 270, .inr (.inl R_elements)))] H → va_D A [((aR 0), .inr (4, [.ref (aR 1), .ref (aR 2), .ref (aR 3), .ref (aR 4), .ref (aR 5), .ref (aR 6), .ref (aR 7), .int R_nodes, .int R_arrows, .int R_operators])), ((aR 2), .inl (cI, 30, .inl R_size)), ((aR 7), .inl (cJ, 270, .inr (.inl R_elements)))] → va_S A s.heap H locs → ∀ (ls : Array Slot), lv_has ls 5 [(0, .ref (aR 0)), (1, .long x1), (3, .int x3), (4, .int x4)] → W p l e rm_X4_isPart s m args below meth c H locs 0 0 Q (F0 m 23 ls []) := by
  obtain ⟨⟨hx, hb, hml, hown, hts⟩, hr, hlocks⟩ := id C0
  intro n
  induction n with
  | zero =>
    intro x1 x3 x4 hm
    exact absurd hm (by intro h; cases h)
  | succ n ih =>
    intro x1 x3 x4 hm H locs hP hD hS ls hl
    have hm : (gd x3 30 (if (R_size x3.toNatClampNeg) ≤ x4 then (k12 x1 (x3 + 1)) else (Option.bind (m_X4_element R_elements x3 x4) (fun r_3 => if (lg_cmp r_3 x1) = 0 then (some 1) else (m_X4_isPart_23 R_operators R_size R_elements k12 n x1 x3 (x4 + 1)))))) = some res := hm
    refine lv_iload hx hb dX4_isPart_23 (lv_at hl 3 rfl) ?_
    refine lv_aload_n hx hb dX4_isPart_25 rfl (lv_at hl 0 rfl) ?_
    refine va_get (D := (dC, dI)) (ci := 4) (v := .ref (aR 2)) (C := RX4) (T := TX4) (N := 10) hx hb hts X4_isPart_inX4 hown hK hP 0 rfl rfl 1 (by decide) (hts (.fieldLink RX4 15 "MixfixDesk$Rules" "size" "[I") (by decide +kernel)) (fun _ h9 => h9) rfl dX4_isPart_26 ?_
    refine lv_iload_n hx hb dX4_isPart_29 rfl (lv_at hl 2 rfl) ?_
    obtain ⟨hi_1, hm⟩ := gd_some hm
    refine va_iald (D := (dC, dI)) hx hb hK hP 1 0 rfl rfl hi_1 dX4_isPart_30 ?_
    refine lv_icmp_ge (tgt := 54) hx hb dX4_isPart_31 (by decide) (fun c_2 => ?_) (fun c_2 => ?_)
    · have hm := it_some c_2 hm
      refine lv_iinc (v := x3 + 1) (lv' := [(3, .int (x3 + 1)), (0, .ref (aR 0)), (1, .long x1), (4, .int x4)]) hx hb dX4_isPart_54 hl (k := 2) rfl rfl (by decide) rfl (fun ls hl => ?_)
      refine lv_goto (tgt := 12) hx hb dX4_isPart_57 (by decide) ?_
      exact hk12 x1 (x3 + 1) hm H locs hP hD hS ls (lv_sub hl [1, 2, 0] rfl)
    · have hm := if_some' c_2 hm
      refine lv_aload_n hx hb dX4_isPart_34 rfl (lv_at hl 0 rfl) ?_
      refine lv_iload_n hx hb dX4_isPart_35 rfl (lv_at hl 2 rfl) ?_
      refine lv_iload hx hb dX4_isPart_36 (lv_at hl 3 rfl) ?_
      obtain ⟨r_3, hc_4, hm⟩ := ob_some hm
      refine cx_l (wr := [((aR 2), .inl (cI, 30, .inl R_size))]) (va_runV (As := [.int x3, .int x4]) (rest := []) C0.1 (c_X4_element l dC dI cI cJ cB cZ aR H.size R_nodes R_arrows R_operators R_elements x3 x4 r_3 hc_4) (cwV 2 hts gX4_isPart_X4_element rfl rfl rfl (by decide +kernel) ⟨Nat.le_of_ble_eq_true rfl, Nat.le_of_ble_eq_true rfl⟩) (cP_V (ci := 4) (q0 := 0) hK hN hP hD rfl rfl [0, 2] (by decide) rfl) rfl rfl hl.1 rfl (lv_room (Nat.le_of_ble_eq_true rfl)) dX4_isPart_38 ⟨Nat.le_of_ble_eq_true rfl, Nat.le_of_ble_eq_true rfl⟩) hP hD hS hA [0, 2] [1] rfl rfl (by decide) (by decide) (fun H locs hP hD hS => ?_)
      have hP : va_P (dC, dI) vwCl [((aR 2), .inl (cI, 30, .inl R_size)), ((aR 0), .inr (4, [.ref (aR 1), .ref (aR 2), .ref (aR 3), .ref (aR 4), .ref (aR 5), .ref (aR 6), .ref (aR 7), .int R_nodes, .int R_arrows, .int R_operators])), ((aR 7), .inl (cJ, 270, .inr (.inl R_elements)))] H := hP
      have hD : va_D A [((aR 2), .inl (cI, 30, .inl R_size)), ((aR 0), .inr (4, [.ref (aR 1), .ref (aR 2), .ref (aR 3), .ref (aR 4), .ref (aR 5), .ref (aR 6), .ref (aR 7), .int R_nodes, .int R_arrows, .int R_operators])), ((aR 7), .inl (cJ, 270, .inr (.inl R_elements)))] := hD
      refine lv_lload_n hx hb dX4_isPart_41 rfl (lv_at hl 1 rfl) ?_
      refine W.lcmp hx hb dX4_isPart_42 ?_
      refine lv_if_ne (tgt := 48) hx hb dX4_isPart_43 (by decide) (fun c_5 => ?_) (fun c_5 => ?_)
      · have hm := if_some' c_5 hm
        refine lv_iinc (v := x4 + 1) (lv' := [(4, .int (x4 + 1)), (0, .ref (aR 0)), (1, .long x1), (3, .int x3)]) hx hb dX4_isPart_48 hl (k := 3) rfl rfl (by decide) rfl (fun ls hl => ?_)
        refine lv_goto (tgt := 23) hx hb dX4_isPart_51 (by decide) ?_
        exact ih x1 x3 (x4 + 1) hm H locs (P_sub' hP [1, 0, 2] rfl) (hD.sub [1, 0, 2] (by decide) rfl) hS ls (lv_sub hl [1, 2, 3, 0] rfl)
      · have hm := it_some c_5 hm
        refine lv_iconst (v := 1) hx hb dX4_isPart_46 (by decide) ?_
        exact RET 1 hm rfl _ H locs ls dX4_isPart_47 (P_sub' hP [1, 0, 2] rfl) (hD.sub [1, 0, 2] (by decide) rfl) hS
set_option maxHeartbeats 4000000 in
set_option maxRecDepth 100000 in
theorem k_X4_isPart_12 {p : Program} {l : Launch} {e : Env} {s : State} {m : MethodId} {args : Array Value} {below : List Frame} {meth : Method} {c : Code} {Q : State → Prop} {dC : Nat → ClassId} {dI : Nat → Nat → Nat} {cI cJ cB cZ : ClassId} {A : Nat → Prop} (C0 : Cx p s m meth c args cX4_isPart 5 (some .boolean) wsX4_isPart RX4) (hK : va_K (dC, dI) vwCl [(cI, .int), (cJ, .long), (cB, .byte), (cZ, .boolean)] s) (hN : NW s) (hA : ∀ q, s.heap.size ≤ q → A q) (aR : Nat → Nat) (R_nodes : Int32) (R_arrows : Int32) (R_operators : Int32) (R_size : Nat → Int32) (R_elements : Nat → Int64) (res : Int32) (RET : RT_X4_isPart p l e s m args below meth c Q dC dI cI cJ cB cZ A aR R_nodes R_arrows R_operators R_size R_elements res)   : ∀ (n : Nat) (x1 : Int64) (x3 : Int32), m_X4_isPart_12 R_operators R_size R_elements n x1 x3 = some res → ∀ (H : Heap) (locs : List Loc), va_P (dC, dI) vwCl [((aR 0), .inr (4, [.ref (aR 1), .ref (aR 2), .ref (aR 3), .ref (aR 4), .ref (aR 5), .ref (aR 6), .ref (aR 7), .int R_nodes, .int R_arrows, .int R_operators])), ((aR 2), .inl (cI, 30, .inl R_size)), ((aR 7), .inl (cJ, 270, .inr (.inl R_elements)))] H → va_D A [((aR 0), .inr (4, [.ref (aR 1), .ref (aR 2), .ref (aR 3), .ref (aR 4), .ref (aR 5), .ref (aR 6), .ref (aR 7), .int R_nodes, .int R_arrows, .int R_operators])), ((aR 2), .inl (cI, 30, .inl R_size)), ((aR 7), .inl (cJ, 270, .inr (.inl R_elements)))] → va_S A s.heap H locs → ∀ (ls : Array Slot), lv_has ls 5 [(0, .ref (aR 0)), (1, .long x1), (3, .int x3)] → W p l e rm_X4_isPart s m args below meth c H locs 0 0 Q (F0 m 12 ls []) := by
  obtain ⟨⟨hx, hb, hml, hown, hts⟩, hr, hlocks⟩ := id C0
  intro n
  induction n with
  | zero =>
    intro x1 x3 hm
    exact absurd hm (by intro h; cases h)
  | succ n ih =>
    intro x1 x3 hm H locs hP hD hS ls hl
    have hm : (if R_operators ≤ x3 then (some 0) else (m_X4_isPart_23 R_operators R_size R_elements (m_X4_isPart_12 R_operators R_size R_elements n) FU x1 x3 0)) = some res := hm
    refine lv_iload_n hx hb dX4_isPart_12 rfl (lv_at hl 2 rfl) ?_
    refine lv_aload_n hx hb dX4_isPart_13 rfl (lv_at hl 0 rfl) ?_
    refine va_get (D := (dC, dI)) (ci := 4) (v := .int R_operators) (C := RX4) (T := TX4) (N := 10) hx hb hts X4_isPart_inX4 hown hK hP 0 rfl rfl 9 (by decide) (hts (.fieldLink RX4 41 "MixfixDesk$Rules" "operators" "I") (by decide +kernel)) (fun _ h9 => h9) rfl dX4_isPart_14 ?_
    refine lv_icmp_ge (tgt := 60) hx hb dX4_isPart_17 (by decide) (fun c_6 => ?_) (fun c_6 => ?_)
    · have hm := it_some c_6 hm
      refine lv_iconst (v := 0) hx hb dX4_isPart_60 (by decide) ?_
      exact RET 0 hm rfl _ H locs ls dX4_isPart_61 hP hD hS
    · have hm := if_some' c_6 hm
      refine lv_iconst (v := 0) hx hb dX4_isPart_20 (by decide) ?_
      refine lv_istore (lv' := [(4, .int 0), (0, .ref (aR 0)), (1, .long x1), (3, .int x3)]) hx hb dX4_isPart_21 hl (by decide) rfl (fun ls hl => ?_)
      exact k_X4_isPart_23 C0 hK hN hA aR R_nodes R_arrows R_operators R_size R_elements res RET (m_X4_isPart_12 R_operators R_size R_elements n) ih FU x1 x3 0 hm H locs hP hD hS ls (lv_sub hl [1, 2, 3, 0] rfl)
set_option maxHeartbeats 4000000 in
set_option maxRecDepth 100000 in
theorem k_X4_isPart_E {p : Program} {l : Launch} {e : Env} {s : State} {m : MethodId} {args : Array Value} {below : List Frame} {meth : Method} {c : Code} {Q : State → Prop} {dC : Nat → ClassId} {dI : Nat → Nat → Nat} {cI cJ cB cZ : ClassId} {A : Nat → Prop} (C0 : Cx p s m meth c args cX4_isPart 5 (some .boolean) wsX4_isPart RX4) (hK : va_K (dC, dI) vwCl [(cI, .int), (cJ, .long), (cB, .byte), (cZ, .boolean)] s) (hN : NW s) (hA : ∀ q, s.heap.size ≤ q → A q) (aR : Nat → Nat) (R_nodes : Int32) (R_arrows : Int32) (R_operators : Int32) (R_size : Nat → Int32) (R_elements : Nat → Int64) (res : Int32) (RET : RT_X4_isPart p l e s m args below meth c Q dC dI cI cJ cB cZ A aR R_nodes R_arrows R_operators R_size R_elements res) : ∀ (p0 : Int64), m_X4_isPart R_size R_elements R_operators p0 = some res → ∀ (H : Heap) (locs : List Loc), va_P (dC, dI) vwCl [((aR 0), .inr (4, [.ref (aR 1), .ref (aR 2), .ref (aR 3), .ref (aR 4), .ref (aR 5), .ref (aR 6), .ref (aR 7), .int R_nodes, .int R_arrows, .int R_operators])), ((aR 2), .inl (cI, 30, .inl R_size)), ((aR 7), .inl (cJ, 270, .inr (.inl R_elements)))] H → va_D A [((aR 0), .inr (4, [.ref (aR 1), .ref (aR 2), .ref (aR 3), .ref (aR 4), .ref (aR 5), .ref (aR 6), .ref (aR 7), .int R_nodes, .int R_arrows, .int R_operators])), ((aR 2), .inl (cI, 30, .inl R_size)), ((aR 7), .inl (cJ, 270, .inr (.inl R_elements)))] → va_S A s.heap H locs → ∀ (ls : Array Slot), lv_has ls 5 [(0, .ref (aR 0)), (1, .long p0)] → W p l e rm_X4_isPart s m args below meth c H locs 0 0 Q (F0 m 0 ls []) := by
  obtain ⟨⟨hx, hb, hml, hown, hts⟩, hr, hlocks⟩ := id C0
  intro p0 hm H locs hP hD hS ls hl
  have hm : (if (lg_cmp p0 95) = 0 then (some 0) else (m_X4_isPart_12 R_operators R_size R_elements FU p0 0)) = some res := hm
  refine lv_lload_n hx hb dX4_isPart_0 rfl (lv_at hl 1 rfl) ?_
  refine lv_ldc2 (v := 95) hx hb hown (hts (.constantLong RX4 44 (95)) (by decide +kernel)) dX4_isPart_1 ?_
  refine W.lcmp hx hb dX4_isPart_4 ?_
  refine lv_if_ne (tgt := 10) hx hb dX4_isPart_5 (by decide) (fun c_7 => ?_) (fun c_7 => ?_)
  · have hm := if_some' c_7 hm
    refine lv_iconst (v := 0) hx hb dX4_isPart_10 (by decide) ?_
    refine lv_istore_n (lv' := [(3, .int 0), (0, .ref (aR 0)), (1, .long p0)]) hx hb dX4_isPart_11 rfl hl (by decide) rfl (fun ls hl => ?_)
    exact k_X4_isPart_12 C0 hK hN hA aR R_nodes R_arrows R_operators R_size R_elements res RET FU p0 0 hm H locs hP hD hS ls (lv_sub hl [1, 2, 0] rfl)
  · have hm := it_some c_7 hm
    refine lv_iconst (v := 0) hx hb dX4_isPart_8 (by decide) ?_
    exact RET 0 hm rfl _ H locs ls dX4_isPart_9 hP hD hS
set_option maxHeartbeats 4000000 in
set_option maxRecDepth 100000 in
theorem c_X4_isPart (l : Launch) (dC : Nat → ClassId) (dI : Nat → Nat → Nat) (cI cJ cB cZ : ClassId) (aR : Nat → Nat) (sz : Nat) (R_nodes : Int32) (R_arrows : Int32) (R_operators : Int32) (R_size : Nat → Int32) (R_elements : Nat → Int64) (p0 : Int64) (res : Int32) (hm : m_X4_isPart R_size R_elements R_operators p0 = some res) : Met l yX4_isPart wsX4_isPart rm_X4_isPart (cP (dC, dI) vwCl [(cI, .int), (cJ, .long), (cB, .byte), (cZ, .boolean)] [.ref (aR 0), .long p0] [((aR 0), .inr (4, [.ref (aR 1), .ref (aR 2), .ref (aR 3), .ref (aR 4), .ref (aR 5), .ref (aR 6), .ref (aR 7), .int R_nodes, .int R_arrows, .int R_operators])), ((aR 2), .inl (cI, 30, .inl R_size)), ((aR 7), .inl (cJ, 270, .inr (.inl R_elements)))] sz) (cQi res (dC, dI) vwCl [((aR 0), .inr (4, [.ref (aR 1), .ref (aR 2), .ref (aR 3), .ref (aR 4), .ref (aR 5), .ref (aR 6), .ref (aR 7), .int R_nodes, .int R_arrows, .int R_operators])), ((aR 2), .inl (cI, 30, .inl R_size)), ((aR 7), .inl (cJ, 270, .inr (.inl R_elements)))] [((aR 0), .inr (4, [.ref (aR 1), .ref (aR 2), .ref (aR 3), .ref (aR 4), .ref (aR 5), .ref (aR 6), .ref (aR 7), .int R_nodes, .int R_arrows, .int R_operators])), ((aR 2), .inl (cI, 30, .inl R_size)), ((aR 7), .inl (cJ, 270, .inr (.inl R_elements)))] sz) 0 0 (va_A [((aR 0), .inr (4, [.ref (aR 1), .ref (aR 2), .ref (aR 3), .ref (aR 4), .ref (aR 5), .ref (aR 6), .ref (aR 7), .int R_nodes, .int R_arrows, .int R_operators])), ((aR 2), .inl (cI, 30, .inl R_size)), ((aR 7), .inl (cJ, 270, .inr (.inl R_elements)))] sz) := by
  refine cx_of (cc := cX4_isPart) (maxL := 5) (ret := (some .boolean)) (own := RX4) (by decide) rfl rfl (Nat.le_of_ble_eq_true rfl) ?_
  intro p e s m below meth c A C0 hinN hK hN hsz hAe hA hP hD hS ls hl
  refine k_X4_isPart_E C0 hK hN hA aR R_nodes R_arrows R_operators R_size R_elements res ?_ p0 hm _ _ hP hD hS ls hl
  intro v he hn pc H locs ls hdg hP hD hS
  have he := Option.some.inj he
  subst he
  exact cx_retz C0 hn hsz hAe hdg hP hD hS

theorem dX4_size_0 : decode cX4_size 0 = .ok (.aload_n 0, 1) := by decide +kernel
theorem dX4_size_1 : decode cX4_size 1 = .ok (.getfield 15, 3) := by decide +kernel
theorem dX4_size_4 : decode cX4_size 4 = .ok (.iload_n 1, 1) := by decide +kernel
theorem dX4_size_5 : decode cX4_size 5 = .ok (.iaload, 1) := by decide +kernel
theorem dX4_size_6 : decode cX4_size 6 = .ok (.ireturn, 1) := by decide +kernel
/-! MixfixDesk$Rules.size(I)I -/
abbrev rm_X4_size : Room := { frames := 0, cells := 0, slots := 0, locals := 0 }
theorem X4_size_inX4 : ∀ w ∈ wsX40, w ∈ wsX4_size := by decide +kernel
abbrev RT_X4_size (p : Program) (l : Launch) (e : Env) (s : State) (m : MethodId) (args : Array Value) (below : List Frame) (meth : Method) (c : Code) (Q : State → Prop) (dC : Nat → ClassId) (dI : Nat → Nat → Nat) (cI cJ cB cZ : ClassId) (A : Nat → Prop) (aR : Nat → Nat) (R_nodes : Int32) (R_arrows : Int32) (R_operators : Int32) (R_size : Nat → Int32) (res : Int32) : Prop := ∀ (v : Int32) , some v = some res → ∀ (pc : Nat) (H : Heap) (locs : List Loc) (ls : Array Slot), decode cX4_size pc = .ok (.ireturn, 1) → va_P (dC, dI) vwCl [((aR 0), .inr (4, [.ref (aR 1), .ref (aR 2), .ref (aR 3), .ref (aR 4), .ref (aR 5), .ref (aR 6), .ref (aR 7), .int R_nodes, .int R_arrows, .int R_operators])), ((aR 2), .inl (cI, 30, .inl R_size))] H → va_D A [((aR 0), .inr (4, [.ref (aR 1), .ref (aR 2), .ref (aR 3), .ref (aR 4), .ref (aR 5), .ref (aR 6), .ref (aR 7), .int R_nodes, .int R_arrows, .int R_operators])), ((aR 2), .inl (cI, 30, .inl R_size))] → va_S A s.heap H locs → W p l e rm_X4_size s m args below meth c H locs 0 0 Q (F0 m pc ls [.int v])
set_option maxHeartbeats 4000000 in
set_option maxRecDepth 100000 in
theorem k_X4_size_E {p : Program} {l : Launch} {e : Env} {s : State} {m : MethodId} {args : Array Value} {below : List Frame} {meth : Method} {c : Code} {Q : State → Prop} {dC : Nat → ClassId} {dI : Nat → Nat → Nat} {cI cJ cB cZ : ClassId} {A : Nat → Prop} (C0 : Cx p s m meth c args cX4_size 2 (some .int) wsX4_size RX4) (hK : va_K (dC, dI) vwCl [(cI, .int), (cJ, .long), (cB, .byte), (cZ, .boolean)] s) (hN : NW s) (hA : ∀ q, s.heap.size ≤ q → A q) (aR : Nat → Nat) (R_nodes : Int32) (R_arrows : Int32) (R_operators : Int32) (R_size : Nat → Int32) (res : Int32) (RET : RT_X4_size p l e s m args below meth c Q dC dI cI cJ cB cZ A aR R_nodes R_arrows R_operators R_size res) : ∀ (p0 : Int32), m_X4_size R_size p0 = some res → ∀ (H : Heap) (locs : List Loc), va_P (dC, dI) vwCl [((aR 0), .inr (4, [.ref (aR 1), .ref (aR 2), .ref (aR 3), .ref (aR 4), .ref (aR 5), .ref (aR 6), .ref (aR 7), .int R_nodes, .int R_arrows, .int R_operators])), ((aR 2), .inl (cI, 30, .inl R_size))] H → va_D A [((aR 0), .inr (4, [.ref (aR 1), .ref (aR 2), .ref (aR 3), .ref (aR 4), .ref (aR 5), .ref (aR 6), .ref (aR 7), .int R_nodes, .int R_arrows, .int R_operators])), ((aR 2), .inl (cI, 30, .inl R_size))] → va_S A s.heap H locs → ∀ (ls : Array Slot), lv_has ls 2 [(0, .ref (aR 0)), (1, .int p0)] → W p l e rm_X4_size s m args below meth c H locs 0 0 Q (F0 m 0 ls []) := by
  obtain ⟨⟨hx, hb, hml, hown, hts⟩, hr, hlocks⟩ := id C0
  intro p0 hm H locs hP hD hS ls hl
  have hm : (gd p0 30 (some (R_size p0.toNatClampNeg))) = some res := hm
  refine lv_aload_n hx hb dX4_size_0 rfl (lv_at hl 0 rfl) ?_
  refine va_get (D := (dC, dI)) (ci := 4) (v := .ref (aR 2)) (C := RX4) (T := TX4) (N := 10) hx hb hts X4_size_inX4 hown hK hP 0 rfl rfl 1 (by decide) (hts (.fieldLink RX4 15 "MixfixDesk$Rules" "size" "[I") (by decide +kernel)) (fun _ h9 => h9) rfl dX4_size_1 ?_
  refine lv_iload_n hx hb dX4_size_4 rfl (lv_at hl 1 rfl) ?_
  obtain ⟨hi_1, hm⟩ := gd_some hm
  refine va_iald (D := (dC, dI)) hx hb hK hP 1 0 rfl rfl hi_1 dX4_size_5 ?_
  exact RET (R_size p0.toNatClampNeg) hm _ H locs ls dX4_size_6 hP hD hS
set_option maxHeartbeats 4000000 in
set_option maxRecDepth 100000 in
theorem c_X4_size (l : Launch) (dC : Nat → ClassId) (dI : Nat → Nat → Nat) (cI cJ cB cZ : ClassId) (aR : Nat → Nat) (sz : Nat) (R_nodes : Int32) (R_arrows : Int32) (R_operators : Int32) (R_size : Nat → Int32) (p0 : Int32) (res : Int32) (hm : m_X4_size R_size p0 = some res) : Met l yX4_size wsX4_size rm_X4_size (cP (dC, dI) vwCl [(cI, .int), (cJ, .long), (cB, .byte), (cZ, .boolean)] [.ref (aR 0), .int p0] [((aR 0), .inr (4, [.ref (aR 1), .ref (aR 2), .ref (aR 3), .ref (aR 4), .ref (aR 5), .ref (aR 6), .ref (aR 7), .int R_nodes, .int R_arrows, .int R_operators])), ((aR 2), .inl (cI, 30, .inl R_size))] sz) (cQi res (dC, dI) vwCl [((aR 0), .inr (4, [.ref (aR 1), .ref (aR 2), .ref (aR 3), .ref (aR 4), .ref (aR 5), .ref (aR 6), .ref (aR 7), .int R_nodes, .int R_arrows, .int R_operators])), ((aR 2), .inl (cI, 30, .inl R_size))] [((aR 0), .inr (4, [.ref (aR 1), .ref (aR 2), .ref (aR 3), .ref (aR 4), .ref (aR 5), .ref (aR 6), .ref (aR 7), .int R_nodes, .int R_arrows, .int R_operators])), ((aR 2), .inl (cI, 30, .inl R_size))] sz) 0 0 (va_A [((aR 0), .inr (4, [.ref (aR 1), .ref (aR 2), .ref (aR 3), .ref (aR 4), .ref (aR 5), .ref (aR 6), .ref (aR 7), .int R_nodes, .int R_arrows, .int R_operators])), ((aR 2), .inl (cI, 30, .inl R_size))] sz) := by
  refine cx_of (cc := cX4_size) (maxL := 2) (ret := (some .int)) (own := RX4) (by decide) rfl rfl (Nat.le_of_ble_eq_true rfl) ?_
  intro p e s m below meth c A C0 hinN hK hN hsz hAe hA hP hD hS ls hl
  refine k_X4_size_E C0 hK hN hA aR R_nodes R_arrows R_operators R_size res ?_ p0 hm _ _ hP hD hS ls hl
  intro v he pc H locs ls hdg hP hD hS
  have he := Option.some.inj he
  subst he
  exact cx_reti C0 hsz hAe hdg hP hD hS

theorem dX4_isHole_0 : decode cX4_isHole 0 = .ok (.aload_n 0, 1) := by decide +kernel
theorem dX4_isHole_1 : decode cX4_isHole 1 = .ok (.getfield 30, 3) := by decide +kernel
theorem dX4_isHole_4 : decode cX4_isHole 4 = .ok (.iload_n 1, 1) := by decide +kernel
theorem dX4_isHole_5 : decode cX4_isHole 5 = .ok (.bipush 9, 2) := by decide +kernel
theorem dX4_isHole_7 : decode cX4_isHole 7 = .ok (.imul, 1) := by decide +kernel
theorem dX4_isHole_8 : decode cX4_isHole 8 = .ok (.iload_n 2, 1) := by decide +kernel
theorem dX4_isHole_9 : decode cX4_isHole 9 = .ok (.iadd, 1) := by decide +kernel
theorem dX4_isHole_10 : decode cX4_isHole 10 = .ok (.laload, 1) := by decide +kernel
theorem dX4_isHole_11 : decode cX4_isHole 11 = .ok (.ldc2_w 44, 3) := by decide +kernel
theorem dX4_isHole_14 : decode cX4_isHole 14 = .ok (.lcmp, 1) := by decide +kernel
theorem dX4_isHole_15 : decode cX4_isHole 15 = .ok (.ifCond .ne 7, 3) := by decide +kernel
theorem dX4_isHole_18 : decode cX4_isHole 18 = .ok (.iconst 1, 1) := by decide +kernel
theorem dX4_isHole_19 : decode cX4_isHole 19 = .ok (.goto 4, 3) := by decide +kernel
theorem dX4_isHole_22 : decode cX4_isHole 22 = .ok (.iconst 0, 1) := by decide +kernel
theorem dX4_isHole_23 : decode cX4_isHole 23 = .ok (.ireturn, 1) := by decide +kernel
/-! MixfixDesk$Rules.isHole(II)Z -/
abbrev rm_X4_isHole : Room := { frames := 0, cells := 0, slots := 0, locals := 0 }
theorem X4_isHole_inX4 : ∀ w ∈ wsX40, w ∈ wsX4_isHole := by decide +kernel
abbrev RT_X4_isHole (p : Program) (l : Launch) (e : Env) (s : State) (m : MethodId) (args : Array Value) (below : List Frame) (meth : Method) (c : Code) (Q : State → Prop) (dC : Nat → ClassId) (dI : Nat → Nat → Nat) (cI cJ cB cZ : ClassId) (A : Nat → Prop) (aR : Nat → Nat) (R_nodes : Int32) (R_arrows : Int32) (R_operators : Int32) (R_elements : Nat → Int64) (res : Int32) : Prop := ∀ (v : Int32) , some v = some res → narrow .boolean (.int v) = .int v → ∀ (pc : Nat) (H : Heap) (locs : List Loc) (ls : Array Slot), decode cX4_isHole pc = .ok (.ireturn, 1) → va_P (dC, dI) vwCl [((aR 0), .inr (4, [.ref (aR 1), .ref (aR 2), .ref (aR 3), .ref (aR 4), .ref (aR 5), .ref (aR 6), .ref (aR 7), .int R_nodes, .int R_arrows, .int R_operators])), ((aR 7), .inl (cJ, 270, .inr (.inl R_elements)))] H → va_D A [((aR 0), .inr (4, [.ref (aR 1), .ref (aR 2), .ref (aR 3), .ref (aR 4), .ref (aR 5), .ref (aR 6), .ref (aR 7), .int R_nodes, .int R_arrows, .int R_operators])), ((aR 7), .inl (cJ, 270, .inr (.inl R_elements)))] → va_S A s.heap H locs → W p l e rm_X4_isHole s m args below meth c H locs 0 0 Q (F0 m pc ls [.int v])
set_option maxHeartbeats 4000000 in
set_option maxRecDepth 100000 in
theorem k_X4_isHole_E {p : Program} {l : Launch} {e : Env} {s : State} {m : MethodId} {args : Array Value} {below : List Frame} {meth : Method} {c : Code} {Q : State → Prop} {dC : Nat → ClassId} {dI : Nat → Nat → Nat} {cI cJ cB cZ : ClassId} {A : Nat → Prop} (C0 : Cx p s m meth c args cX4_isHole 3 (some .boolean) wsX4_isHole RX4) (hK : va_K (dC, dI) vwCl [(cI, .int), (cJ, .long), (cB, .byte), (cZ, .boolean)] s) (hN : NW s) (hA : ∀ q, s.heap.size ≤ q → A q) (aR : Nat → Nat) (R_nodes : Int32) (R_arrows : Int32) (R_operators : Int32) (R_elements : Nat → Int64) (res : Int32) (RET : RT_X4_isHole p l e s m args below meth c Q dC dI cI cJ cB cZ A aR R_nodes R_arrows R_operators R_elements res) : ∀ (p0 : Int32) (p1 : Int32), m_X4_isHole R_elements p0 p1 = some res → ∀ (H : Heap) (locs : List Loc), va_P (dC, dI) vwCl [((aR 0), .inr (4, [.ref (aR 1), .ref (aR 2), .ref (aR 3), .ref (aR 4), .ref (aR 5), .ref (aR 6), .ref (aR 7), .int R_nodes, .int R_arrows, .int R_operators])), ((aR 7), .inl (cJ, 270, .inr (.inl R_elements)))] H → va_D A [((aR 0), .inr (4, [.ref (aR 1), .ref (aR 2), .ref (aR 3), .ref (aR 4), .ref (aR 5), .ref (aR 6), .ref (aR 7), .int R_nodes, .int R_arrows, .int R_operators])), ((aR 7), .inl (cJ, 270, .inr (.inl R_elements)))] → va_S A s.heap H locs → ∀ (ls : Array Slot), lv_has ls 3 [(0, .ref (aR 0)), (1, .int p0), (2, .int p1)] → W p l e rm_X4_isHole s m args below meth c H locs 0 0 Q (F0 m 0 ls []) := by
  obtain ⟨⟨hx, hb, hml, hown, hts⟩, hr, hlocks⟩ := id C0
  intro p0 p1 hm H locs hP hD hS ls hl
  have hm : (gd ((p0 * 9) + p1) 270 (if (lg_cmp (R_elements ((p0 * 9) + p1).toNatClampNeg) 95) = 0 then (some 1) else (some 0))) = some res := hm
  refine lv_aload_n hx hb dX4_isHole_0 rfl (lv_at hl 0 rfl) ?_
  refine va_get (D := (dC, dI)) (ci := 4) (v := .ref (aR 7)) (C := RX4) (T := TX4) (N := 10) hx hb hts X4_isHole_inX4 hown hK hP 0 rfl rfl 6 (by decide) (hts (.fieldLink RX4 30 "MixfixDesk$Rules" "elements" "[J") (by decide +kernel)) (fun _ h9 => h9) rfl dX4_isHole_1 ?_
  refine lv_iload_n hx hb dX4_isHole_4 rfl (lv_at hl 1 rfl) ?_
  refine lv_bipush (v := 9) hx hb dX4_isHole_5 (by decide) ?_
  refine lv_imul hx hb dX4_isHole_7 ?_
  refine lv_iload_n hx hb dX4_isHole_8 rfl (lv_at hl 2 rfl) ?_
  refine lv_iadd hx hb dX4_isHole_9 ?_
  obtain ⟨hi_1, hm⟩ := gd_some hm
  refine va_lald (D := (dC, dI)) hx hb hK hP 1 1 rfl rfl hi_1 dX4_isHole_10 ?_
  refine lv_ldc2 (v := 95) hx hb hown (hts (.constantLong RX4 44 (95)) (by decide +kernel)) dX4_isHole_11 ?_
  refine W.lcmp hx hb dX4_isHole_14 ?_
  refine lv_if_ne (tgt := 22) hx hb dX4_isHole_15 (by decide) (fun c_2 => ?_) (fun c_2 => ?_)
  · have hm := if_some' c_2 hm
    refine lv_iconst (v := 0) hx hb dX4_isHole_22 (by decide) ?_
    exact RET 0 hm rfl _ H locs ls dX4_isHole_23 hP hD hS
  · have hm := it_some c_2 hm
    refine lv_iconst (v := 1) hx hb dX4_isHole_18 (by decide) ?_
    refine lv_goto (tgt := 23) hx hb dX4_isHole_19 (by decide) ?_
    exact RET 1 hm rfl _ H locs ls dX4_isHole_23 hP hD hS
set_option maxHeartbeats 4000000 in
set_option maxRecDepth 100000 in
theorem c_X4_isHole (l : Launch) (dC : Nat → ClassId) (dI : Nat → Nat → Nat) (cI cJ cB cZ : ClassId) (aR : Nat → Nat) (sz : Nat) (R_nodes : Int32) (R_arrows : Int32) (R_operators : Int32) (R_elements : Nat → Int64) (p0 : Int32) (p1 : Int32) (res : Int32) (hm : m_X4_isHole R_elements p0 p1 = some res) : Met l yX4_isHole wsX4_isHole rm_X4_isHole (cP (dC, dI) vwCl [(cI, .int), (cJ, .long), (cB, .byte), (cZ, .boolean)] [.ref (aR 0), .int p0, .int p1] [((aR 0), .inr (4, [.ref (aR 1), .ref (aR 2), .ref (aR 3), .ref (aR 4), .ref (aR 5), .ref (aR 6), .ref (aR 7), .int R_nodes, .int R_arrows, .int R_operators])), ((aR 7), .inl (cJ, 270, .inr (.inl R_elements)))] sz) (cQi res (dC, dI) vwCl [((aR 0), .inr (4, [.ref (aR 1), .ref (aR 2), .ref (aR 3), .ref (aR 4), .ref (aR 5), .ref (aR 6), .ref (aR 7), .int R_nodes, .int R_arrows, .int R_operators])), ((aR 7), .inl (cJ, 270, .inr (.inl R_elements)))] [((aR 0), .inr (4, [.ref (aR 1), .ref (aR 2), .ref (aR 3), .ref (aR 4), .ref (aR 5), .ref (aR 6), .ref (aR 7), .int R_nodes, .int R_arrows, .int R_operators])), ((aR 7), .inl (cJ, 270, .inr (.inl R_elements)))] sz) 0 0 (va_A [((aR 0), .inr (4, [.ref (aR 1), .ref (aR 2), .ref (aR 3), .ref (aR 4), .ref (aR 5), .ref (aR 6), .ref (aR 7), .int R_nodes, .int R_arrows, .int R_operators])), ((aR 7), .inl (cJ, 270, .inr (.inl R_elements)))] sz) := by
  refine cx_of (cc := cX4_isHole) (maxL := 3) (ret := (some .boolean)) (own := RX4) (by decide) rfl rfl (Nat.le_of_ble_eq_true rfl) ?_
  intro p e s m below meth c A C0 hinN hK hN hsz hAe hA hP hD hS ls hl
  refine k_X4_isHole_E C0 hK hN hA aR R_nodes R_arrows R_operators R_elements res ?_ p0 p1 hm _ _ hP hD hS ls hl
  intro v he hn pc H locs ls hdg hP hD hS
  have he := Option.some.inj he
  subst he
  exact cx_retz C0 hn hsz hAe hdg hP hD hS

theorem dX4_takes_0 : decode cX4_takes 0 = .ok (.iload_n 2, 1) := by decide +kernel
theorem dX4_takes_1 : decode cX4_takes 1 = .ok (.ifCond .ne 10, 3) := by decide +kernel
theorem dX4_takes_4 : decode cX4_takes 4 = .ok (.aload_n 0, 1) := by decide +kernel
theorem dX4_takes_5 : decode cX4_takes 5 = .ok (.getfield 24, 3) := by decide +kernel
theorem dX4_takes_8 : decode cX4_takes 8 = .ok (.iload_n 1, 1) := by decide +kernel
theorem dX4_takes_9 : decode cX4_takes 9 = .ok (.iaload, 1) := by decide +kernel
theorem dX4_takes_10 : decode cX4_takes 10 = .ok (.ireturn, 1) := by decide +kernel
theorem dX4_takes_11 : decode cX4_takes 11 = .ok (.iload_n 2, 1) := by decide +kernel
theorem dX4_takes_12 : decode cX4_takes 12 = .ok (.aload_n 0, 1) := by decide +kernel
theorem dX4_takes_13 : decode cX4_takes 13 = .ok (.getfield 15, 3) := by decide +kernel
theorem dX4_takes_16 : decode cX4_takes 16 = .ok (.iload_n 1, 1) := by decide +kernel
theorem dX4_takes_17 : decode cX4_takes 17 = .ok (.iaload, 1) := by decide +kernel
theorem dX4_takes_18 : decode cX4_takes 18 = .ok (.iconst 1, 1) := by decide +kernel
theorem dX4_takes_19 : decode cX4_takes 19 = .ok (.isub, 1) := by decide +kernel
theorem dX4_takes_20 : decode cX4_takes 20 = .ok (.if_icmp .ne 12, 3) := by decide +kernel
theorem dX4_takes_23 : decode cX4_takes 23 = .ok (.aload_n 0, 1) := by decide +kernel
theorem dX4_takes_24 : decode cX4_takes 24 = .ok (.getfield 27, 3) := by decide +kernel
theorem dX4_takes_27 : decode cX4_takes 27 = .ok (.iload_n 1, 1) := by decide +kernel
theorem dX4_takes_28 : decode cX4_takes 28 = .ok (.iaload, 1) := by decide +kernel
theorem dX4_takes_29 : decode cX4_takes 29 = .ok (.goto 4, 3) := by decide +kernel
theorem dX4_takes_32 : decode cX4_takes 32 = .ok (.iconst (-1), 1) := by decide +kernel
theorem dX4_takes_33 : decode cX4_takes 33 = .ok (.ireturn, 1) := by decide +kernel
/-! MixfixDesk$Rules.takes(II)I -/
abbrev rm_X4_takes : Room := { frames := 0, cells := 0, slots := 0, locals := 0 }
theorem X4_takes_inX4 : ∀ w ∈ wsX40, w ∈ wsX4_takes := by decide +kernel
abbrev RT_X4_takes (p : Program) (l : Launch) (e : Env) (s : State) (m : MethodId) (args : Array Value) (below : List Frame) (meth : Method) (c : Code) (Q : State → Prop) (dC : Nat → ClassId) (dI : Nat → Nat → Nat) (cI cJ cB cZ : ClassId) (A : Nat → Prop) (aR : Nat → Nat) (R_nodes : Int32) (R_arrows : Int32) (R_operators : Int32) (R_size : Nat → Int32) (R_firstTakes : Nat → Int32) (R_lastTakes : Nat → Int32) (res : Int32) : Prop := ∀ (v : Int32) , some v = some res → ∀ (pc : Nat) (H : Heap) (locs : List Loc) (ls : Array Slot), decode cX4_takes pc = .ok (.ireturn, 1) → va_P (dC, dI) vwCl [((aR 0), .inr (4, [.ref (aR 1), .ref (aR 2), .ref (aR 3), .ref (aR 4), .ref (aR 5), .ref (aR 6), .ref (aR 7), .int R_nodes, .int R_arrows, .int R_operators])), ((aR 2), .inl (cI, 30, .inl R_size)), ((aR 5), .inl (cI, 30, .inl R_firstTakes)), ((aR 6), .inl (cI, 30, .inl R_lastTakes))] H → va_D A [((aR 0), .inr (4, [.ref (aR 1), .ref (aR 2), .ref (aR 3), .ref (aR 4), .ref (aR 5), .ref (aR 6), .ref (aR 7), .int R_nodes, .int R_arrows, .int R_operators])), ((aR 2), .inl (cI, 30, .inl R_size)), ((aR 5), .inl (cI, 30, .inl R_firstTakes)), ((aR 6), .inl (cI, 30, .inl R_lastTakes))] → va_S A s.heap H locs → W p l e rm_X4_takes s m args below meth c H locs 0 0 Q (F0 m pc ls [.int v])
set_option maxHeartbeats 4000000 in
set_option maxRecDepth 100000 in
theorem k_X4_takes_E {p : Program} {l : Launch} {e : Env} {s : State} {m : MethodId} {args : Array Value} {below : List Frame} {meth : Method} {c : Code} {Q : State → Prop} {dC : Nat → ClassId} {dI : Nat → Nat → Nat} {cI cJ cB cZ : ClassId} {A : Nat → Prop} (C0 : Cx p s m meth c args cX4_takes 3 (some .int) wsX4_takes RX4) (hK : va_K (dC, dI) vwCl [(cI, .int), (cJ, .long), (cB, .byte), (cZ, .boolean)] s) (hN : NW s) (hA : ∀ q, s.heap.size ≤ q → A q) (aR : Nat → Nat) (R_nodes : Int32) (R_arrows : Int32) (R_operators : Int32) (R_size : Nat → Int32) (R_firstTakes : Nat → Int32) (R_lastTakes : Nat → Int32) (res : Int32) (RET : RT_X4_takes p l e s m args below meth c Q dC dI cI cJ cB cZ A aR R_nodes R_arrows R_operators R_size R_firstTakes R_lastTakes res) : ∀ (p0 : Int32) (p1 : Int32), m_X4_takes R_size R_firstTakes R_lastTakes p0 p1 = some res → ∀ (H : Heap) (locs : List Loc), va_P (dC, dI) vwCl [((aR 0), .inr (4, [.ref (aR 1), .ref (aR 2), .ref (aR 3), .ref (aR 4), .ref (aR 5), .ref (aR 6), .ref (aR 7), .int R_nodes, .int R_arrows, .int R_operators])), ((aR 2), .inl (cI, 30, .inl R_size)), ((aR 5), .inl (cI, 30, .inl R_firstTakes)), ((aR 6), .inl (cI, 30, .inl R_lastTakes))] H → va_D A [((aR 0), .inr (4, [.ref (aR 1), .ref (aR 2), .ref (aR 3), .ref (aR 4), .ref (aR 5), .ref (aR 6), .ref (aR 7), .int R_nodes, .int R_arrows, .int R_operators])), ((aR 2), .inl (cI, 30, .inl R_size)), ((aR 5), .inl (cI, 30, .inl R_firstTakes)), ((aR 6), .inl (cI, 30, .inl R_lastTakes))] → va_S A s.heap H locs → ∀ (ls : Array Slot), lv_has ls 3 [(0, .ref (aR 0)), (1, .int p0), (2, .int p1)] → W p l e rm_X4_takes s m args below meth c H locs 0 0 Q (F0 m 0 ls []) := by
  obtain ⟨⟨hx, hb, hml, hown, hts⟩, hr, hlocks⟩ := id C0
  intro p0 p1 hm H locs hP hD hS ls hl
  have hm : (if p1 = 0 then (gd p0 30 (some (R_firstTakes p0.toNatClampNeg))) else (gd p0 30 (if p1 = ((R_size p0.toNatClampNeg) - 1) then (gd p0 30 (some (R_lastTakes p0.toNatClampNeg))) else (some (-1))))) = some res := hm
  refine lv_iload_n hx hb dX4_takes_0 rfl (lv_at hl 2 rfl) ?_
  refine lv_if_ne (tgt := 11) hx hb dX4_takes_1 (by decide) (fun c_1 => ?_) (fun c_1 => ?_)
  · have hm := if_some' c_1 hm
    refine lv_iload_n hx hb dX4_takes_11 rfl (lv_at hl 2 rfl) ?_
    refine lv_aload_n hx hb dX4_takes_12 rfl (lv_at hl 0 rfl) ?_
    refine va_get (D := (dC, dI)) (ci := 4) (v := .ref (aR 2)) (C := RX4) (T := TX4) (N := 10) hx hb hts X4_takes_inX4 hown hK hP 0 rfl rfl 1 (by decide) (hts (.fieldLink RX4 15 "MixfixDesk$Rules" "size" "[I") (by decide +kernel)) (fun _ h9 => h9) rfl dX4_takes_13 ?_
    refine lv_iload_n hx hb dX4_takes_16 rfl (lv_at hl 1 rfl) ?_
    obtain ⟨hi_2, hm⟩ := gd_some hm
    refine va_iald (D := (dC, dI)) hx hb hK hP 1 0 rfl rfl hi_2 dX4_takes_17 ?_
    refine lv_iconst (v := 1) hx hb dX4_takes_18 (by decide) ?_
    refine lv_isub hx hb dX4_takes_19 ?_
    refine lv_icmp_ne (tgt := 32) hx hb dX4_takes_20 (by decide) (fun c_3 => ?_) (fun c_3 => ?_)
    · have hm := if_some' c_3 hm
      refine lv_iconst (v := (-1)) hx hb dX4_takes_32 (by decide) ?_
      exact RET (-1) hm _ H locs ls dX4_takes_33 hP hD hS
    · have hm := it_some c_3 hm
      refine lv_aload_n hx hb dX4_takes_23 rfl (lv_at hl 0 rfl) ?_
      refine va_get (D := (dC, dI)) (ci := 4) (v := .ref (aR 6)) (C := RX4) (T := TX4) (N := 10) hx hb hts X4_takes_inX4 hown hK hP 0 rfl rfl 5 (by decide) (hts (.fieldLink RX4 27 "MixfixDesk$Rules" "lastTakes" "[I") (by decide +kernel)) (fun _ h9 => h9) rfl dX4_takes_24 ?_
      refine lv_iload_n hx hb dX4_takes_27 rfl (lv_at hl 1 rfl) ?_
      obtain ⟨hi_4, hm⟩ := gd_some hm
      refine va_iald (D := (dC, dI)) hx hb hK hP 3 0 rfl rfl hi_4 dX4_takes_28 ?_
      refine lv_goto (tgt := 33) hx hb dX4_takes_29 (by decide) ?_
      exact RET (R_lastTakes p0.toNatClampNeg) hm _ H locs ls dX4_takes_33 hP hD hS
  · have hm := it_some c_1 hm
    refine lv_aload_n hx hb dX4_takes_4 rfl (lv_at hl 0 rfl) ?_
    refine va_get (D := (dC, dI)) (ci := 4) (v := .ref (aR 5)) (C := RX4) (T := TX4) (N := 10) hx hb hts X4_takes_inX4 hown hK hP 0 rfl rfl 4 (by decide) (hts (.fieldLink RX4 24 "MixfixDesk$Rules" "firstTakes" "[I") (by decide +kernel)) (fun _ h9 => h9) rfl dX4_takes_5 ?_
    refine lv_iload_n hx hb dX4_takes_8 rfl (lv_at hl 1 rfl) ?_
    obtain ⟨hi_5, hm⟩ := gd_some hm
    refine va_iald (D := (dC, dI)) hx hb hK hP 2 0 rfl rfl hi_5 dX4_takes_9 ?_
    exact RET (R_firstTakes p0.toNatClampNeg) hm _ H locs ls dX4_takes_10 hP hD hS
set_option maxHeartbeats 4000000 in
set_option maxRecDepth 100000 in
theorem c_X4_takes (l : Launch) (dC : Nat → ClassId) (dI : Nat → Nat → Nat) (cI cJ cB cZ : ClassId) (aR : Nat → Nat) (sz : Nat) (R_nodes : Int32) (R_arrows : Int32) (R_operators : Int32) (R_size : Nat → Int32) (R_firstTakes : Nat → Int32) (R_lastTakes : Nat → Int32) (p0 : Int32) (p1 : Int32) (res : Int32) (hm : m_X4_takes R_size R_firstTakes R_lastTakes p0 p1 = some res) : Met l yX4_takes wsX4_takes rm_X4_takes (cP (dC, dI) vwCl [(cI, .int), (cJ, .long), (cB, .byte), (cZ, .boolean)] [.ref (aR 0), .int p0, .int p1] [((aR 0), .inr (4, [.ref (aR 1), .ref (aR 2), .ref (aR 3), .ref (aR 4), .ref (aR 5), .ref (aR 6), .ref (aR 7), .int R_nodes, .int R_arrows, .int R_operators])), ((aR 2), .inl (cI, 30, .inl R_size)), ((aR 5), .inl (cI, 30, .inl R_firstTakes)), ((aR 6), .inl (cI, 30, .inl R_lastTakes))] sz) (cQi res (dC, dI) vwCl [((aR 0), .inr (4, [.ref (aR 1), .ref (aR 2), .ref (aR 3), .ref (aR 4), .ref (aR 5), .ref (aR 6), .ref (aR 7), .int R_nodes, .int R_arrows, .int R_operators])), ((aR 2), .inl (cI, 30, .inl R_size)), ((aR 5), .inl (cI, 30, .inl R_firstTakes)), ((aR 6), .inl (cI, 30, .inl R_lastTakes))] [((aR 0), .inr (4, [.ref (aR 1), .ref (aR 2), .ref (aR 3), .ref (aR 4), .ref (aR 5), .ref (aR 6), .ref (aR 7), .int R_nodes, .int R_arrows, .int R_operators])), ((aR 2), .inl (cI, 30, .inl R_size)), ((aR 5), .inl (cI, 30, .inl R_firstTakes)), ((aR 6), .inl (cI, 30, .inl R_lastTakes))] sz) 0 0 (va_A [((aR 0), .inr (4, [.ref (aR 1), .ref (aR 2), .ref (aR 3), .ref (aR 4), .ref (aR 5), .ref (aR 6), .ref (aR 7), .int R_nodes, .int R_arrows, .int R_operators])), ((aR 2), .inl (cI, 30, .inl R_size)), ((aR 5), .inl (cI, 30, .inl R_firstTakes)), ((aR 6), .inl (cI, 30, .inl R_lastTakes))] sz) := by
  refine cx_of (cc := cX4_takes) (maxL := 3) (ret := (some .int)) (own := RX4) (by decide) rfl rfl (Nat.le_of_ble_eq_true rfl) ?_
  intro p e s m below meth c A C0 hinN hK hN hsz hAe hA hP hD hS ls hl
  refine k_X4_takes_E C0 hK hN hA aR R_nodes R_arrows R_operators R_size R_firstTakes R_lastTakes res ?_ p0 p1 hm _ _ hP hD hS ls hl
  intro v he pc H locs ls hdg hP hD hS
  have he := Option.some.inj he
  subst he
  exact cx_reti C0 hsz hAe hdg hP hD hS

set_option maxRecDepth 20000 in
theorem ggX4_isAt_X4_element : GoodIn wsX4_isAt wsX4_element := goodIn_r _ [6, 7, 8, 9, 10, 11, 12, 13, 14, 15, 16, 17] (by decide +kernel) (by decide +kernel)
set_option maxRecDepth 20000 in
theorem gX4_isAt_X4_element : GoodIn wsX4_isAt (wsV RX4 72 RX4 yX4_element wsX4_element) := goodIn_app (goodIn_of _ (by decide +kernel)) ggX4_isAt_X4_element
theorem dX4_isAt_0 : decode cX4_isAt 0 = .ok (.iconst 0, 1) := by decide +kernel
theorem dX4_isAt_1 : decode cX4_isAt 1 = .ok (.istore 4, 2) := by decide +kernel
theorem dX4_isAt_3 : decode cX4_isAt 3 = .ok (.iload 4, 2) := by decide +kernel
theorem dX4_isAt_5 : decode cX4_isAt 5 = .ok (.aload_n 0, 1) := by decide +kernel
theorem dX4_isAt_6 : decode cX4_isAt 6 = .ok (.getfield 15, 3) := by decide +kernel
theorem dX4_isAt_9 : decode cX4_isAt 9 = .ok (.iload_n 1, 1) := by decide +kernel
theorem dX4_isAt_10 : decode cX4_isAt 10 = .ok (.iaload, 1) := by decide +kernel
theorem dX4_isAt_11 : decode cX4_isAt 11 = .ok (.if_icmp .ge 28, 3) := by decide +kernel
theorem dX4_isAt_14 : decode cX4_isAt 14 = .ok (.aload_n 0, 1) := by decide +kernel
theorem dX4_isAt_15 : decode cX4_isAt 15 = .ok (.iload_n 1, 1) := by decide +kernel
theorem dX4_isAt_16 : decode cX4_isAt 16 = .ok (.iload 4, 2) := by decide +kernel
theorem dX4_isAt_18 : decode cX4_isAt 18 = .ok (.invokevirtual 72, 3) := by decide +kernel
theorem dX4_isAt_21 : decode cX4_isAt 21 = .ok (.aload_n 2, 1) := by decide +kernel
theorem dX4_isAt_22 : decode cX4_isAt 22 = .ok (.iload_n 3, 1) := by decide +kernel
theorem dX4_isAt_23 : decode cX4_isAt 23 = .ok (.iload 4, 2) := by decide +kernel
theorem dX4_isAt_25 : decode cX4_isAt 25 = .ok (.iadd, 1) := by decide +kernel
theorem dX4_isAt_26 : decode cX4_isAt 26 = .ok (.laload, 1) := by decide +kernel
theorem dX4_isAt_27 : decode cX4_isAt 27 = .ok (.lcmp, 1) := by decide +kernel
theorem dX4_isAt_28 : decode cX4_isAt 28 = .ok (.ifCond .eq 5, 3) := by decide +kernel
theorem dX4_isAt_31 : decode cX4_isAt 31 = .ok (.iconst 0, 1) := by decide +kernel
theorem dX4_isAt_32 : decode cX4_isAt 32 = .ok (.ireturn, 1) := by decide +kernel
theorem dX4_isAt_33 : decode cX4_isAt 33 = .ok (.iinc 4 1, 3) := by decide +kernel
theorem dX4_isAt_36 : decode cX4_isAt 36 = .ok (.goto (-33), 3) := by decide +kernel
theorem dX4_isAt_39 : decode cX4_isAt 39 = .ok (.iconst 1, 1) := by decide +kernel
theorem dX4_isAt_40 : decode cX4_isAt 40 = .ok (.ireturn, 1) := by decide +kernel
/-! MixfixDesk$Rules.isAt(I[JI)Z -/
abbrev rm_X4_isAt : Room := { frames := 1, cells := 0, slots := 0, locals := 22 }
theorem X4_isAt_inX4 : ∀ w ∈ wsX40, w ∈ wsX4_isAt := by decide +kernel
abbrev RT_X4_isAt (p : Program) (l : Launch) (e : Env) (s : State) (m : MethodId) (args : Array Value) (below : List Frame) (meth : Method) (c : Code) (Q : State → Prop) (dC : Nat → ClassId) (dI : Nat → Nat → Nat) (cI cJ cB cZ : ClassId) (A : Nat → Prop) (aR : Nat → Nat) (a_row : Nat) (R_nodes : Int32) (R_arrows : Int32) (R_operators : Int32) (R_size : Nat → Int32) (R_elements : Nat → Int64) (n_row : Nat) (row : Nat → Int64) (res : Int32) : Prop := ∀ (v : Int32) , some v = some res → narrow .boolean (.int v) = .int v → ∀ (pc : Nat) (H : Heap) (locs : List Loc) (ls : Array Slot), decode cX4_isAt pc = .ok (.ireturn, 1) → va_P (dC, dI) vwCl [((aR 0), .inr (4, [.ref (aR 1), .ref (aR 2), .ref (aR 3), .ref (aR 4), .ref (aR 5), .ref (aR 6), .ref (aR 7), .int R_nodes, .int R_arrows, .int R_operators])), ((aR 2), .inl (cI, 30, .inl R_size)), ((aR 7), .inl (cJ, 270, .inr (.inl R_elements))), (a_row, .inl (cJ, n_row, .inr (.inl row)))] H → va_D A [((aR 0), .inr (4, [.ref (aR 1), .ref (aR 2), .ref (aR 3), .ref (aR 4), .ref (aR 5), .ref (aR 6), .ref (aR 7), .int R_nodes, .int R_arrows, .int R_operators])), ((aR 2), .inl (cI, 30, .inl R_size)), ((aR 7), .inl (cJ, 270, .inr (.inl R_elements))), (a_row, .inl (cJ, n_row, .inr (.inl row)))] → va_S A s.heap H locs → W p l e rm_X4_isAt s m args below meth c H locs 0 0 Q (F0 m pc ls [.int v])
set_option maxHeartbeats 4000000 in
set_option maxRecDepth 100000 in
theorem k_X4_isAt_3 {p : Program} {l : Launch} {e : Env} {s : State} {m : MethodId} {args : Array Value} {below : List Frame} {meth : Method} {c : Code} {Q : State → Prop} {dC : Nat → ClassId} {dI : Nat → Nat → Nat} {cI cJ cB cZ : ClassId} {A : Nat → Prop} (C0 : Cx p s m meth c args cX4_isAt 5 (some .boolean) wsX4_isAt RX4) (hK : va_K (dC, dI) vwCl [(cI, .int), (cJ, .long), (cB, .byte), (cZ, .boolean)] s) (hN : NW s) (hA : ∀ q, s.heap.size ≤ q → A q) (aR : Nat → Nat) (a_row : Nat) (R_nodes : Int32) (R_arrows : Int32) (R_operators : Int32) (R_size : Nat → Int32) (R_elements : Nat → Int64) (n_row : Nat) (row : Nat → Int64) (res : Int32) (RET : RT_X4_isAt p l e s m args below meth c Q dC dI cI cJ cB cZ A aR a_row R_nodes R_arrows R_operators R_size R_elements n_row row res)   : ∀ (n : Nat) (x1 : Int32) (x3 : Int32) (x4 : Int32), m_X4_isAt_3 R_size R_elements n_row row n x1 x3 x4 = some res → ∀ (H : Heap) (locs : List Loc), va_P (dC, dI) vwCl [((aR 0), .inr (4, [.ref (aR 1), .ref (aR 2), .ref (aR 3), .ref (aR 4), .ref (aR 5), .ref (aR 6), .ref (aR 7), .int R_nodes, .int R_arrows, .int R_operators])), ((aR 2), .inl (cI, 30, .inl R_size)), ((aR 7), .inl (cJ, 270, .inr (.inl R_elements))), (a_row, .inl (cJ, n_row, .inr (.inl row)))] H → va_D A [((aR 0), .inr (4, [.ref (aR 1), .ref (aR 2), .ref (aR 3), .ref (aR 4), .ref (aR 5), .ref (aR 6), .ref (aR 7), .int R_nodes, .int R_arrows, .int R_operators])), ((aR 2), .inl (cI, 30, .inl R_size)), ((aR 7), .inl (cJ, 270, .inr (.inl R_elements))), (a_row, .inl (cJ, n_row, .inr (.inl row)))] → va_S A s.heap H locs → ∀ (ls : Array Slot), lv_has ls 5 [(0, .ref (aR 0)), (1, .int x1), (2, .ref a_row), (3, .int x3), (4, .int x4)] → W p l e rm_X4_isAt s m args below meth c H locs 0 0 Q (F0 m 3 ls []) := by
  obtain ⟨⟨hx, hb, hml, hown, hts⟩, hr, hlocks⟩ := id C0
  intro n
  induction n with
  | zero =>
    intro x1 x3 x4 hm
    exact absurd hm (by intro h; cases h)
  | succ n ih =>
    intro x1 x3 x4 hm H locs hP hD hS ls hl
    have hm : (gd x1 30 (if (R_size x1.toNatClampNeg) ≤ x4 then (some 1) else (Option.bind (m_X4_element R_elements x1 x4) (fun r_3 => gd (x3 + x4) n_row (if (lg_cmp r_3 (row (x3 + x4).toNatClampNeg)) = 0 then (m_X4_isAt_3 R_size R_elements n_row row n x1 x3 (x4 + 1)) else (some 0)))))) = some res := hm
    refine lv_iload hx hb dX4_isAt_3 (lv_at hl 4 rfl) ?_
    refine lv_aload_n hx hb dX4_isAt_5 rfl (lv_at hl 0 rfl) ?_
    refine va_get (D := (dC, dI)) (ci := 4) (v := .ref (aR 2)) (C := RX4) (T := TX4) (N := 10) hx hb hts X4_isAt_inX4 hown hK hP 0 rfl rfl 1 (by decide) (hts (.fieldLink RX4 15 "MixfixDesk$Rules" "size" "[I") (by decide +kernel)) (fun _ h9 => h9) rfl dX4_isAt_6 ?_
    refine lv_iload_n hx hb dX4_isAt_9 rfl (lv_at hl 1 rfl) ?_
    obtain ⟨hi_1, hm⟩ := gd_some hm
    refine va_iald (D := (dC, dI)) hx hb hK hP 1 0 rfl rfl hi_1 dX4_isAt_10 ?_
    refine lv_icmp_ge (tgt := 39) hx hb dX4_isAt_11 (by decide) (fun c_2 => ?_) (fun c_2 => ?_)
    · have hm := it_some c_2 hm
      refine lv_iconst (v := 1) hx hb dX4_isAt_39 (by decide) ?_
      exact RET 1 hm rfl _ H locs ls dX4_isAt_40 hP hD hS
    · have hm := if_some' c_2 hm
      refine lv_aload_n hx hb dX4_isAt_14 rfl (lv_at hl 0 rfl) ?_
      refine lv_iload_n hx hb dX4_isAt_15 rfl (lv_at hl 1 rfl) ?_
      refine lv_iload hx hb dX4_isAt_16 (lv_at hl 4 rfl) ?_
      obtain ⟨r_3, hc_4, hm⟩ := ob_some hm
      refine cx_l (wr := [((aR 2), .inl (cI, 30, .inl R_size)), (a_row, .inl (cJ, n_row, .inr (.inl row)))]) (va_runV (As := [.int x1, .int x4]) (rest := []) C0.1 (c_X4_element l dC dI cI cJ cB cZ aR H.size R_nodes R_arrows R_operators R_elements x1 x4 r_3 hc_4) (cwV 2 hts gX4_isAt_X4_element rfl rfl rfl (by decide +kernel) ⟨Nat.le_of_ble_eq_true rfl, Nat.le_of_ble_eq_true rfl⟩) (cP_V (ci := 4) (q0 := 0) hK hN hP hD rfl rfl [0, 2] (by decide) rfl) rfl rfl hl.1 rfl (lv_room (Nat.le_of_ble_eq_true rfl)) dX4_isAt_18 ⟨Nat.le_of_ble_eq_true rfl, Nat.le_of_ble_eq_true rfl⟩) hP hD hS hA [0, 2] [1, 3] rfl rfl (by decide) (by decide) (fun H locs hP hD hS => ?_)
      have hP : va_P (dC, dI) vwCl [((aR 2), .inl (cI, 30, .inl R_size)), (a_row, .inl (cJ, n_row, .inr (.inl row))), ((aR 0), .inr (4, [.ref (aR 1), .ref (aR 2), .ref (aR 3), .ref (aR 4), .ref (aR 5), .ref (aR 6), .ref (aR 7), .int R_nodes, .int R_arrows, .int R_operators])), ((aR 7), .inl (cJ, 270, .inr (.inl R_elements)))] H := hP
      have hD : va_D A [((aR 2), .inl (cI, 30, .inl R_size)), (a_row, .inl (cJ, n_row, .inr (.inl row))), ((aR 0), .inr (4, [.ref (aR 1), .ref (aR 2), .ref (aR 3), .ref (aR 4), .ref (aR 5), .ref (aR 6), .ref (aR 7), .int R_nodes, .int R_arrows, .int R_operators])), ((aR 7), .inl (cJ, 270, .inr (.inl R_elements)))] := hD
      refine lv_aload_n hx hb dX4_isAt_21 rfl (lv_at hl 2 rfl) ?_
      refine lv_iload_n hx hb dX4_isAt_22 rfl (lv_at hl 3 rfl) ?_
      refine lv_iload hx hb dX4_isAt_23 (lv_at hl 4 rfl) ?_
      refine lv_iadd hx hb dX4_isAt_25 ?_
      obtain ⟨hi_5, hm⟩ := gd_some hm
      refine va_lald (D := (dC, dI)) hx hb hK hP 1 1 rfl rfl hi_5 dX4_isAt_26 ?_
      refine W.lcmp hx hb dX4_isAt_27 ?_
      refine lv_if_eq (tgt := 33) hx hb dX4_isAt_28 (by decide) (fun c_6 => ?_) (fun c_6 => ?_)
      · have hm := it_some c_6 hm
        refine lv_iinc (v := x4 + 1) (lv' := [(4, .int (x4 + 1)), (0, .ref (aR 0)), (1, .int x1), (2, .ref a_row), (3, .int x3)]) hx hb dX4_isAt_33 hl (k := 4) rfl rfl (by decide) rfl (fun ls hl => ?_)
        refine lv_goto (tgt := 3) hx hb dX4_isAt_36 (by decide) ?_
        exact ih x1 x3 (x4 + 1) hm H locs (P_sub' hP [2, 0, 3, 1] rfl) (hD.sub [2, 0, 3, 1] (by decide) rfl) hS ls (lv_sub hl [1, 2, 3, 4, 0] rfl)
      · have hm := if_some' c_6 hm
        refine lv_iconst (v := 0) hx hb dX4_isAt_31 (by decide) ?_
        exact RET 0 hm rfl _ H locs ls dX4_isAt_32 (P_sub' hP [2, 0, 3, 1] rfl) (hD.sub [2, 0, 3, 1] (by decide) rfl) hS
set_option maxHeartbeats 4000000 in
set_option maxRecDepth 100000 in
theorem k_X4_isAt_E {p : Program} {l : Launch} {e : Env} {s : State} {m : MethodId} {args : Array Value} {below : List Frame} {meth : Method} {c : Code} {Q : State → Prop} {dC : Nat → ClassId} {dI : Nat → Nat → Nat} {cI cJ cB cZ : ClassId} {A : Nat → Prop} (C0 : Cx p s m meth c args cX4_isAt 5 (some .boolean) wsX4_isAt RX4) (hK : va_K (dC, dI) vwCl [(cI, .int), (cJ, .long), (cB, .byte), (cZ, .boolean)] s) (hN : NW s) (hA : ∀ q, s.heap.size ≤ q → A q) (aR : Nat → Nat) (a_row : Nat) (R_nodes : Int32) (R_arrows : Int32) (R_operators : Int32) (R_size : Nat → Int32) (R_elements : Nat → Int64) (n_row : Nat) (row : Nat → Int64) (res : Int32) (RET : RT_X4_isAt p l e s m args below meth c Q dC dI cI cJ cB cZ A aR a_row R_nodes R_arrows R_operators R_size R_elements n_row row res) : ∀ (p0 : Int32) (p2 : Int32), m_X4_isAt R_size R_elements n_row row p0 p2 = some res → ∀ (H : Heap) (locs : List Loc), va_P (dC, dI) vwCl [((aR 0), .inr (4, [.ref (aR 1), .ref (aR 2), .ref (aR 3), .ref (aR 4), .ref (aR 5), .ref (aR 6), .ref (aR 7), .int R_nodes, .int R_arrows, .int R_operators])), ((aR 2), .inl (cI, 30, .inl R_size)), ((aR 7), .inl (cJ, 270, .inr (.inl R_elements))), (a_row, .inl (cJ, n_row, .inr (.inl row)))] H → va_D A [((aR 0), .inr (4, [.ref (aR 1), .ref (aR 2), .ref (aR 3), .ref (aR 4), .ref (aR 5), .ref (aR 6), .ref (aR 7), .int R_nodes, .int R_arrows, .int R_operators])), ((aR 2), .inl (cI, 30, .inl R_size)), ((aR 7), .inl (cJ, 270, .inr (.inl R_elements))), (a_row, .inl (cJ, n_row, .inr (.inl row)))] → va_S A s.heap H locs → ∀ (ls : Array Slot), lv_has ls 5 [(0, .ref (aR 0)), (1, .int p0), (2, .ref a_row), (3, .int p2)] → W p l e rm_X4_isAt s m args below meth c H locs 0 0 Q (F0 m 0 ls []) := by
  obtain ⟨⟨hx, hb, hml, hown, hts⟩, hr, hlocks⟩ := id C0
  intro p0 p2 hm H locs hP hD hS ls hl
  have hm : (m_X4_isAt_3 R_size R_elements n_row row FU p0 p2 0) = some res := hm
  refine lv_iconst (v := 0) hx hb dX4_isAt_0 (by decide) ?_
  refine lv_istore (lv' := [(4, .int 0), (0, .ref (aR 0)), (1, .int p0), (2, .ref a_row), (3, .int p2)]) hx hb dX4_isAt_1 hl (by decide) rfl (fun ls hl => ?_)
  exact k_X4_isAt_3 C0 hK hN hA aR a_row R_nodes R_arrows R_operators R_size R_elements n_row row res RET FU p0 p2 0 hm H locs hP hD hS ls (lv_sub hl [1, 2, 3, 4, 0] rfl)
set_option maxHeartbeats 4000000 in
set_option maxRecDepth 100000 in
theorem c_X4_isAt (l : Launch) (dC : Nat → ClassId) (dI : Nat → Nat → Nat) (cI cJ cB cZ : ClassId) (aR : Nat → Nat) (a_row : Nat) (sz : Nat) (R_nodes : Int32) (R_arrows : Int32) (R_operators : Int32) (R_size : Nat → Int32) (R_elements : Nat → Int64) (n_row : Nat) (row : Nat → Int64) (p0 : Int32) (p2 : Int32) (res : Int32) (hm : m_X4_isAt R_size R_elements n_row row p0 p2 = some res) : Met l yX4_isAt wsX4_isAt rm_X4_isAt (cP (dC, dI) vwCl [(cI, .int), (cJ, .long), (cB, .byte), (cZ, .boolean)] [.ref (aR 0), .int p0, .ref a_row, .int p2] [((aR 0), .inr (4, [.ref (aR 1), .ref (aR 2), .ref (aR 3), .ref (aR 4), .ref (aR 5), .ref (aR 6), .ref (aR 7), .int R_nodes, .int R_arrows, .int R_operators])), ((aR 2), .inl (cI, 30, .inl R_size)), ((aR 7), .inl (cJ, 270, .inr (.inl R_elements))), (a_row, .inl (cJ, n_row, .inr (.inl row)))] sz) (cQi res (dC, dI) vwCl [((aR 0), .inr (4, [.ref (aR 1), .ref (aR 2), .ref (aR 3), .ref (aR 4), .ref (aR 5), .ref (aR 6), .ref (aR 7), .int R_nodes, .int R_arrows, .int R_operators])), ((aR 2), .inl (cI, 30, .inl R_size)), ((aR 7), .inl (cJ, 270, .inr (.inl R_elements))), (a_row, .inl (cJ, n_row, .inr (.inl row)))] [((aR 0), .inr (4, [.ref (aR 1), .ref (aR 2), .ref (aR 3), .ref (aR 4), .ref (aR 5), .ref (aR 6), .ref (aR 7), .int R_nodes, .int R_arrows, .int R_operators])), ((aR 2), .inl (cI, 30, .inl R_size)), ((aR 7), .inl (cJ, 270, .inr (.inl R_elements))), (a_row, .inl (cJ, n_row, .inr (.inl row)))] sz) 0 0 (va_A [((aR 0), .inr (4, [.ref (aR 1), .ref (aR 2), .ref (aR 3), .ref (aR 4), .ref (aR 5), .ref (aR 6), .ref (aR 7), .int R_nodes, .int R_arrows, .int R_operators])), ((aR 2), .inl (cI, 30, .inl R_size)), ((aR 7), .inl (cJ, 270, .inr (.inl R_elements))), (a_row, .inl (cJ, n_row, .inr (.inl row)))] sz) := by
  refine cx_of (cc := cX4_isAt) (maxL := 5) (ret := (some .boolean)) (own := RX4) (by decide) rfl rfl (Nat.le_of_ble_eq_true rfl) ?_
  intro p e s m below meth c A C0 hinN hK hN hsz hAe hA hP hD hS ls hl
  refine k_X4_isAt_E C0 hK hN hA aR a_row R_nodes R_arrows R_operators R_size R_elements n_row row res ?_ p0 p2 hm _ _ hP hD hS ls hl
  intro v he hn pc H locs ls hdg hP hD hS
  have he := Option.some.inj he
  subst he
  exact cx_retz C0 hn hsz hAe hdg hP hD hS

set_option maxRecDepth 20000 in
theorem ggX4_find_X4_isAt : GoodIn wsX4_find wsX4_isAt := goodIn_r _ [7, 2, 8, 9, 10, 6, 11, 12, 13, 14, 15, 16, 17, 18, 19, 20, 21, 22] (by decide +kernel) (by decide +kernel)
set_option maxRecDepth 20000 in
theorem gX4_find_X4_isAt : GoodIn wsX4_find (wsV RX4 68 RX4 yX4_isAt wsX4_isAt) := goodIn_app (goodIn_of _ (by decide +kernel)) ggX4_find_X4_isAt
theorem dX4_find_0 : decode cX4_find 0 = .ok (.iconst 0, 1) := by decide +kernel
theorem dX4_find_1 : decode cX4_find 1 = .ok (.istore 4, 2) := by decide +kernel
theorem dX4_find_3 : decode cX4_find 3 = .ok (.iload 4, 2) := by decide +kernel
theorem dX4_find_5 : decode cX4_find 5 = .ok (.aload_n 0, 1) := by decide +kernel
theorem dX4_find_6 : decode cX4_find 6 = .ok (.getfield 41, 3) := by decide +kernel
theorem dX4_find_9 : decode cX4_find 9 = .ok (.if_icmp .ge 34, 3) := by decide +kernel
theorem dX4_find_12 : decode cX4_find 12 = .ok (.aload_n 0, 1) := by decide +kernel
theorem dX4_find_13 : decode cX4_find 13 = .ok (.getfield 15, 3) := by decide +kernel
theorem dX4_find_16 : decode cX4_find 16 = .ok (.iload 4, 2) := by decide +kernel
theorem dX4_find_18 : decode cX4_find 18 = .ok (.iaload, 1) := by decide +kernel
theorem dX4_find_19 : decode cX4_find 19 = .ok (.iload_n 3, 1) := by decide +kernel
theorem dX4_find_20 : decode cX4_find 20 = .ok (.if_icmp .ne 17, 3) := by decide +kernel
theorem dX4_find_23 : decode cX4_find 23 = .ok (.aload_n 0, 1) := by decide +kernel
theorem dX4_find_24 : decode cX4_find 24 = .ok (.iload 4, 2) := by decide +kernel
theorem dX4_find_26 : decode cX4_find 26 = .ok (.aload_n 1, 1) := by decide +kernel
theorem dX4_find_27 : decode cX4_find 27 = .ok (.iload_n 2, 1) := by decide +kernel
theorem dX4_find_28 : decode cX4_find 28 = .ok (.invokevirtual 68, 3) := by decide +kernel
theorem dX4_find_31 : decode cX4_find 31 = .ok (.ifCond .eq 6, 3) := by decide +kernel
theorem dX4_find_34 : decode cX4_find 34 = .ok (.iload 4, 2) := by decide +kernel
theorem dX4_find_36 : decode cX4_find 36 = .ok (.ireturn, 1) := by decide +kernel
theorem dX4_find_37 : decode cX4_find 37 = .ok (.iinc 4 1, 3) := by decide +kernel
theorem dX4_find_40 : decode cX4_find 40 = .ok (.goto (-37), 3) := by decide +kernel
theorem dX4_find_43 : decode cX4_find 43 = .ok (.iconst (-1), 1) := by decide +kernel
theorem dX4_find_44 : decode cX4_find 44 = .ok (.ireturn, 1) := by decide +kernel
/-! MixfixDesk$Rules.find([JII)I -/
abbrev rm_X4_find : Room := { frames := 2, cells := 0, slots := 0, locals := 46 }
theorem X4_find_inX4 : ∀ w ∈ wsX40, w ∈ wsX4_find := by decide +kernel
abbrev RT_X4_find (p : Program) (l : Launch) (e : Env) (s : State) (m : MethodId) (args : Array Value) (below : List Frame) (meth : Method) (c : Code) (Q : State → Prop) (dC : Nat → ClassId) (dI : Nat → Nat → Nat) (cI cJ cB cZ : ClassId) (A : Nat → Prop) (aR : Nat → Nat) (a_row : Nat) (R_nodes : Int32) (R_arrows : Int32) (R_operators : Int32) (R_size : Nat → Int32) (R_elements : Nat → Int64) (n_row : Nat) (row : Nat → Int64) (res : Int32) : Prop := ∀ (v : Int32) , some v = some res → ∀ (pc : Nat) (H : Heap) (locs : List Loc) (ls : Array Slot), decode cX4_find pc = .ok (.ireturn, 1) → va_P (dC, dI) vwCl [((aR 0), .inr (4, [.ref (aR 1), .ref (aR 2), .ref (aR 3), .ref (aR 4), .ref (aR 5), .ref (aR 6), .ref (aR 7), .int R_nodes, .int R_arrows, .int R_operators])), ((aR 2), .inl (cI, 30, .inl R_size)), ((aR 7), .inl (cJ, 270, .inr (.inl R_elements))), (a_row, .inl (cJ, n_row, .inr (.inl row)))] H → va_D A [((aR 0), .inr (4, [.ref (aR 1), .ref (aR 2), .ref (aR 3), .ref (aR 4), .ref (aR 5), .ref (aR 6), .ref (aR 7), .int R_nodes, .int R_arrows, .int R_operators])), ((aR 2), .inl (cI, 30, .inl R_size)), ((aR 7), .inl (cJ, 270, .inr (.inl R_elements))), (a_row, .inl (cJ, n_row, .inr (.inl row)))] → va_S A s.heap H locs → W p l e rm_X4_find s m args below meth c H locs 0 0 Q (F0 m pc ls [.int v])
set_option maxHeartbeats 4000000 in
set_option maxRecDepth 100000 in
theorem k_X4_find_37 {p : Program} {l : Launch} {e : Env} {s : State} {m : MethodId} {args : Array Value} {below : List Frame} {meth : Method} {c : Code} {Q : State → Prop} {dC : Nat → ClassId} {dI : Nat → Nat → Nat} {cI cJ cB cZ : ClassId} {A : Nat → Prop} (C0 : Cx p s m meth c args cX4_find 5 (some .int) wsX4_find RX4) (hK : va_K (dC, dI) vwCl [(cI, .int), (cJ, .long), (cB, .byte), (cZ, .boolean)] s) (hN : NW s) (hA : ∀ q, s.heap.size ≤ q → A q) (aR : Nat → Nat) (a_row : Nat) (R_nodes : Int32) (R_arrows : Int32) (R_operators : Int32) (R_size : Nat → Int32) (R_elements : Nat → Int64) (n_row : Nat) (row : Nat → Int64) (res : Int32) (RET : RT_X4_find p l e s m args below meth c Q dC dI cI cJ cB cZ A aR a_row R_nodes R_arrows R_operators R_size R_elements n_row row res) (k3 : Int32 → Int32 → Int32 → Option (Int32)) (hk3 : ∀ (x2 : Int32) (x3 : Int32) (x4 : Int32), k3 x2 x3 x4 = some res → ∀ (H : Heap) (locs : List Loc), va_P (dC, dI) vwCl [((aR 0), .inr (4, [.ref (aR 1), .ref (aR 2), .ref (aR 3), .ref (aR 4), .ref (aR 5), .ref (aR 6), .ref (aR 7), .int R_nodes, .int R_arrows, .int R_operators])), ((aR 2), .inl (cI, 30, .inl R_size)), ((aR 7), .inl (cJ, 270, .inr (.inl R_elements))), (a_row, .inl (cJ, n_row, .inr (.inl row)))] H → va_D A [((aR 0), .inr (4, [.ref (aR 1), .ref (aR 2), .ref (aR 3), .ref (aR 4), .ref (aR 5), .ref (aR 6), .ref (aR 7), .int R_nodes, .int R_arrows, .int R_operators])), ((aR 2), .inl (cI, 30, .inl R_size)), ((aR 7), .inl (cJ, 270, .inr (.inl R_elements))), (a_row, .inl (cJ, n_row, .inr (.inl row)))] → va_S A s.heap H locs → ∀ (ls : Array Slot), lv_has ls 5 [(0, .ref (aR 0)), (1, .ref a_row), (2, .int x2), (3, .int x3), (4, .int x4)] → W p l e rm_X4_find s m args below meth c H locs 0 0 Q (F0 m 3 ls [])) : ∀ (x2 : Int32) (x3 : Int32) (x4 : Int32), m_X4_find_37 R_operators R_size R_elements n_row row k3 x2 x3 x4 = some res → ∀ (H : Heap) (locs : List Loc), va_P (dC, dI) vwCl [((aR 0), .inr (4, [.ref (aR 1), .ref (aR 2), .ref (aR 3), .ref (aR 4), .ref (aR 5), .ref (aR 6), .ref (aR 7), .int R_nodes, .int R_arrows, .int R_operators])), ((aR 2), .inl (cI, 30, .inl R_size)), ((aR 7), .inl (cJ, 270, .inr (.inl R_elements))), (a_row, .inl (cJ, n_row, .inr (.inl row)))] H → va_D A [((aR 0), .inr (4, [.ref (aR 1), .ref (aR 2), .ref (aR 3), .ref (aR 4), .ref (aR 5), .ref (aR 6), .ref (aR 7), .int R_nodes, .int R_arrows, .int R_operators])), ((aR 2), .inl (cI, 30, .inl R_size)), ((aR 7), .inl (cJ, 270, .inr (.inl R_elements))), (a_row, .inl (cJ, n_row, .inr (.inl row)))] → va_S A s.heap H locs → ∀ (ls : Array Slot), lv_has ls 5 [(0, .ref (aR 0)), (1, .ref a_row), (2, .int x2), (3, .int x3), (4, .int x4)] → W p l e rm_X4_find s m args below meth c H locs 0 0 Q (F0 m 37 ls []) := by
  obtain ⟨⟨hx, hb, hml, hown, hts⟩, hr, hlocks⟩ := id C0
  intro x2 x3 x4 hm H locs hP hD hS ls hl
  have hm : (k3 x2 x3 (x4 + 1)) = some res := hm
  refine lv_iinc (v := x4 + 1) (lv' := [(4, .int (x4 + 1)), (0, .ref (aR 0)), (1, .ref a_row), (2, .int x2), (3, .int x3)]) hx hb dX4_find_37 hl (k := 4) rfl rfl (by decide) rfl (fun ls hl => ?_)
  refine lv_goto (tgt := 3) hx hb dX4_find_40 (by decide) ?_
  exact hk3 x2 x3 (x4 + 1) hm H locs hP hD hS ls (lv_sub hl [1, 2, 3, 4, 0] rfl)
set_option maxHeartbeats 4000000 in
set_option maxRecDepth 100000 in
theorem k_X4_find_3 {p : Program} {l : Launch} {e : Env} {s : State} {m : MethodId} {args : Array Value} {below : List Frame} {meth : Method} {c : Code} {Q : State → Prop} {dC : Nat → ClassId} {dI : Nat → Nat → Nat} {cI cJ cB cZ : ClassId} {A : Nat → Prop} (C0 : Cx p s m meth c args cX4_find 5 (some .int) wsX4_find RX4) (hK : va_K (dC, dI) vwCl [(cI, .int), (cJ, .long), (cB, .byte), (cZ, .boolean)] s) (hN : NW s) (hA : ∀ q, s.heap.size ≤ q → A q) (aR : Nat → Nat) (a_row : Nat) (R_nodes : Int32) (R_arrows : Int32) (R_operators : Int32) (R_size : Nat → Int32) (R_elements : Nat → Int64) (n_row : Nat) (row : Nat → Int64) (res : Int32) (RET : RT_X4_find p l e s m args below meth c Q dC dI cI cJ cB cZ A aR a_row R_nodes R_arrows R_operators R_size R_elements n_row row res)   : ∀ (n : Nat) (x2 : Int32) (x3 : Int32) (x4 : Int32), m_X4_find_3 R_operators R_size R_elements n_row row n x2 x3 x4 = some res → ∀ (H : Heap) (locs : List Loc), va_P (dC, dI) vwCl [((aR 0), .inr (4, [.ref (aR 1), .ref (aR 2), .ref (aR 3), .ref (aR 4), .ref (aR 5), .ref (aR 6), .ref (aR 7), .int R_nodes, .int R_arrows, .int R_operators])), ((aR 2), .inl (cI, 30, .inl R_size)), ((aR 7), .inl (cJ, 270, .inr (.inl R_elements))), (a_row, .inl (cJ, n_row, .inr (.inl row)))] H → va_D A [((aR 0), .inr (4, [.ref (aR 1), .ref (aR 2), .ref (aR 3), .ref (aR 4), .ref (aR 5), .ref (aR 6), .ref (aR 7), .int R_nodes, .int R_arrows, .int R_operators])), ((aR 2), .inl (cI, 30, .inl R_size)), ((aR 7), .inl (cJ, 270, .inr (.inl R_elements))), (a_row, .inl (cJ, n_row, .inr (.inl row)))] → va_S A s.heap H locs → ∀ (ls : Array Slot), lv_has ls 5 [(0, .ref (aR 0)), (1, .ref a_row), (2, .int x2), (3, .int x3), (4, .int x4)] → W p l e rm_X4_find s m args below meth c H locs 0 0 Q (F0 m 3 ls []) := by
  obtain ⟨⟨hx, hb, hml, hown, hts⟩, hr, hlocks⟩ := id C0
  intro n
  induction n with
  | zero =>
    intro x2 x3 x4 hm
    exact absurd hm (by intro h; cases h)
  | succ n ih =>
    intro x2 x3 x4 hm H locs hP hD hS ls hl
    have hm : (if R_operators ≤ x4 then (some (-1)) else (gd x4 30 (if (R_size x4.toNatClampNeg) = x3 then (Option.bind (m_X4_isAt R_size R_elements n_row row x4 x2) (fun r_4 => if r_4 = 0 then (m_X4_find_37 R_operators R_size R_elements n_row row (m_X4_find_3 R_operators R_size R_elements n_row row n) x2 x3 x4) else (some x4))) else (m_X4_find_37 R_operators R_size R_elements n_row row (m_X4_find_3 R_operators R_size R_elements n_row row n) x2 x3 x4)))) = some res := hm
    refine lv_iload hx hb dX4_find_3 (lv_at hl 4 rfl) ?_
    refine lv_aload_n hx hb dX4_find_5 rfl (lv_at hl 0 rfl) ?_
    refine va_get (D := (dC, dI)) (ci := 4) (v := .int R_operators) (C := RX4) (T := TX4) (N := 10) hx hb hts X4_find_inX4 hown hK hP 0 rfl rfl 9 (by decide) (hts (.fieldLink RX4 41 "MixfixDesk$Rules" "operators" "I") (by decide +kernel)) (fun _ h9 => h9) rfl dX4_find_6 ?_
    refine lv_icmp_ge (tgt := 43) hx hb dX4_find_9 (by decide) (fun c_1 => ?_) (fun c_1 => ?_)
    · have hm := it_some c_1 hm
      refine lv_iconst (v := (-1)) hx hb dX4_find_43 (by decide) ?_
      exact RET (-1) hm _ H locs ls dX4_find_44 hP hD hS
    · have hm := if_some' c_1 hm
      refine lv_aload_n hx hb dX4_find_12 rfl (lv_at hl 0 rfl) ?_
      refine va_get (D := (dC, dI)) (ci := 4) (v := .ref (aR 2)) (C := RX4) (T := TX4) (N := 10) hx hb hts X4_find_inX4 hown hK hP 0 rfl rfl 1 (by decide) (hts (.fieldLink RX4 15 "MixfixDesk$Rules" "size" "[I") (by decide +kernel)) (fun _ h9 => h9) rfl dX4_find_13 ?_
      refine lv_iload hx hb dX4_find_16 (lv_at hl 4 rfl) ?_
      obtain ⟨hi_2, hm⟩ := gd_some hm
      refine va_iald (D := (dC, dI)) hx hb hK hP 1 0 rfl rfl hi_2 dX4_find_18 ?_
      refine lv_iload_n hx hb dX4_find_19 rfl (lv_at hl 3 rfl) ?_
      refine lv_icmp_ne (tgt := 37) hx hb dX4_find_20 (by decide) (fun c_3 => ?_) (fun c_3 => ?_)
      · have hm := if_some' c_3 hm
        exact k_X4_find_37 C0 hK hN hA aR a_row R_nodes R_arrows R_operators R_size R_elements n_row row res RET (m_X4_find_3 R_operators R_size R_elements n_row row n) ih x2 x3 x4 hm H locs hP hD hS ls hl
      · have hm := it_some c_3 hm
        refine lv_aload_n hx hb dX4_find_23 rfl (lv_at hl 0 rfl) ?_
        refine lv_iload hx hb dX4_find_24 (lv_at hl 4 rfl) ?_
        refine lv_aload_n hx hb dX4_find_26 rfl (lv_at hl 1 rfl) ?_
        refine lv_iload_n hx hb dX4_find_27 rfl (lv_at hl 2 rfl) ?_
        obtain ⟨r_4, hc_5, hm⟩ := ob_some hm
        refine cx_i (wr := []) (va_runV (As := [.int x4, .ref a_row, .int x2]) (rest := []) C0.1 (c_X4_isAt l dC dI cI cJ cB cZ aR a_row H.size R_nodes R_arrows R_operators R_size R_elements n_row row x4 x2 r_4 hc_5) (cwV 3 hts gX4_find_X4_isAt rfl rfl rfl (by decide +kernel) ⟨Nat.le_of_ble_eq_true rfl, Nat.le_of_ble_eq_true rfl⟩) (cP_V (ci := 4) (q0 := 0) hK hN hP hD rfl rfl [0, 1, 2, 3] (by decide) rfl) rfl rfl hl.1 rfl (lv_room (Nat.le_of_ble_eq_true rfl)) dX4_find_28 ⟨Nat.le_of_ble_eq_true rfl, Nat.le_of_ble_eq_true rfl⟩) hP hD hS hA [0, 1, 2, 3] [] rfl rfl (by decide) (by decide) (fun H locs hP hD hS => ?_)
        have hP : va_P (dC, dI) vwCl [((aR 0), .inr (4, [.ref (aR 1), .ref (aR 2), .ref (aR 3), .ref (aR 4), .ref (aR 5), .ref (aR 6), .ref (aR 7), .int R_nodes, .int R_arrows, .int R_operators])), ((aR 2), .inl (cI, 30, .inl R_size)), ((aR 7), .inl (cJ, 270, .inr (.inl R_elements))), (a_row, .inl (cJ, n_row, .inr (.inl row)))] H := hP
        have hD : va_D A [((aR 0), .inr (4, [.ref (aR 1), .ref (aR 2), .ref (aR 3), .ref (aR 4), .ref (aR 5), .ref (aR 6), .ref (aR 7), .int R_nodes, .int R_arrows, .int R_operators])), ((aR 2), .inl (cI, 30, .inl R_size)), ((aR 7), .inl (cJ, 270, .inr (.inl R_elements))), (a_row, .inl (cJ, n_row, .inr (.inl row)))] := hD
        refine lv_if_eq (tgt := 37) hx hb dX4_find_31 (by decide) (fun c_6 => ?_) (fun c_6 => ?_)
        · have hm := it_some c_6 hm
          exact k_X4_find_37 C0 hK hN hA aR a_row R_nodes R_arrows R_operators R_size R_elements n_row row res RET (m_X4_find_3 R_operators R_size R_elements n_row row n) ih x2 x3 x4 hm H locs hP hD hS ls hl
        · have hm := if_some' c_6 hm
          refine lv_iload hx hb dX4_find_34 (lv_at hl 4 rfl) ?_
          exact RET x4 hm _ H locs ls dX4_find_36 hP hD hS
set_option maxHeartbeats 4000000 in
set_option maxRecDepth 100000 in
theorem k_X4_find_E {p : Program} {l : Launch} {e : Env} {s : State} {m : MethodId} {args : Array Value} {below : List Frame} {meth : Method} {c : Code} {Q : State → Prop} {dC : Nat → ClassId} {dI : Nat → Nat → Nat} {cI cJ cB cZ : ClassId} {A : Nat → Prop} (C0 : Cx p s m meth c args cX4_find 5 (some .int) wsX4_find RX4) (hK : va_K (dC, dI) vwCl [(cI, .int), (cJ, .long), (cB, .byte), (cZ, .boolean)] s) (hN : NW s) (hA : ∀ q, s.heap.size ≤ q → A q) (aR : Nat → Nat) (a_row : Nat) (R_nodes : Int32) (R_arrows : Int32) (R_operators : Int32) (R_size : Nat → Int32) (R_elements : Nat → Int64) (n_row : Nat) (row : Nat → Int64) (res : Int32) (RET : RT_X4_find p l e s m args below meth c Q dC dI cI cJ cB cZ A aR a_row R_nodes R_arrows R_operators R_size R_elements n_row row res) : ∀ (p1 : Int32) (p2 : Int32), m_X4_find R_size R_elements R_operators n_row row p1 p2 = some res → ∀ (H : Heap) (locs : List Loc), va_P (dC, dI) vwCl [((aR 0), .inr (4, [.ref (aR 1), .ref (aR 2), .ref (aR 3), .ref (aR 4), .ref (aR 5), .ref (aR 6), .ref (aR 7), .int R_nodes, .int R_arrows, .int R_operators])), ((aR 2), .inl (cI, 30, .inl R_size)), ((aR 7), .inl (cJ, 270, .inr (.inl R_elements))), (a_row, .inl (cJ, n_row, .inr (.inl row)))] H → va_D A [((aR 0), .inr (4, [.ref (aR 1), .ref (aR 2), .ref (aR 3), .ref (aR 4), .ref (aR 5), .ref (aR 6), .ref (aR 7), .int R_nodes, .int R_arrows, .int R_operators])), ((aR 2), .inl (cI, 30, .inl R_size)), ((aR 7), .inl (cJ, 270, .inr (.inl R_elements))), (a_row, .inl (cJ, n_row, .inr (.inl row)))] → va_S A s.heap H locs → ∀ (ls : Array Slot), lv_has ls 5 [(0, .ref (aR 0)), (1, .ref a_row), (2, .int p1), (3, .int p2)] → W p l e rm_X4_find s m args below meth c H locs 0 0 Q (F0 m 0 ls []) := by
  obtain ⟨⟨hx, hb, hml, hown, hts⟩, hr, hlocks⟩ := id C0
  intro p1 p2 hm H locs hP hD hS ls hl
  have hm : (m_X4_find_3 R_operators R_size R_elements n_row row FU p1 p2 0) = some res := hm
  refine lv_iconst (v := 0) hx hb dX4_find_0 (by decide) ?_
  refine lv_istore (lv' := [(4, .int 0), (0, .ref (aR 0)), (1, .ref a_row), (2, .int p1), (3, .int p2)]) hx hb dX4_find_1 hl (by decide) rfl (fun ls hl => ?_)
  exact k_X4_find_3 C0 hK hN hA aR a_row R_nodes R_arrows R_operators R_size R_elements n_row row res RET FU p1 p2 0 hm H locs hP hD hS ls (lv_sub hl [1, 2, 3, 4, 0] rfl)
set_option maxHeartbeats 4000000 in
set_option maxRecDepth 100000 in
theorem c_X4_find (l : Launch) (dC : Nat → ClassId) (dI : Nat → Nat → Nat) (cI cJ cB cZ : ClassId) (aR : Nat → Nat) (a_row : Nat) (sz : Nat) (R_nodes : Int32) (R_arrows : Int32) (R_operators : Int32) (R_size : Nat → Int32) (R_elements : Nat → Int64) (n_row : Nat) (row : Nat → Int64) (p1 : Int32) (p2 : Int32) (res : Int32) (hm : m_X4_find R_size R_elements R_operators n_row row p1 p2 = some res) : Met l yX4_find wsX4_find rm_X4_find (cP (dC, dI) vwCl [(cI, .int), (cJ, .long), (cB, .byte), (cZ, .boolean)] [.ref (aR 0), .ref a_row, .int p1, .int p2] [((aR 0), .inr (4, [.ref (aR 1), .ref (aR 2), .ref (aR 3), .ref (aR 4), .ref (aR 5), .ref (aR 6), .ref (aR 7), .int R_nodes, .int R_arrows, .int R_operators])), ((aR 2), .inl (cI, 30, .inl R_size)), ((aR 7), .inl (cJ, 270, .inr (.inl R_elements))), (a_row, .inl (cJ, n_row, .inr (.inl row)))] sz) (cQi res (dC, dI) vwCl [((aR 0), .inr (4, [.ref (aR 1), .ref (aR 2), .ref (aR 3), .ref (aR 4), .ref (aR 5), .ref (aR 6), .ref (aR 7), .int R_nodes, .int R_arrows, .int R_operators])), ((aR 2), .inl (cI, 30, .inl R_size)), ((aR 7), .inl (cJ, 270, .inr (.inl R_elements))), (a_row, .inl (cJ, n_row, .inr (.inl row)))] [((aR 0), .inr (4, [.ref (aR 1), .ref (aR 2), .ref (aR 3), .ref (aR 4), .ref (aR 5), .ref (aR 6), .ref (aR 7), .int R_nodes, .int R_arrows, .int R_operators])), ((aR 2), .inl (cI, 30, .inl R_size)), ((aR 7), .inl (cJ, 270, .inr (.inl R_elements))), (a_row, .inl (cJ, n_row, .inr (.inl row)))] sz) 0 0 (va_A [((aR 0), .inr (4, [.ref (aR 1), .ref (aR 2), .ref (aR 3), .ref (aR 4), .ref (aR 5), .ref (aR 6), .ref (aR 7), .int R_nodes, .int R_arrows, .int R_operators])), ((aR 2), .inl (cI, 30, .inl R_size)), ((aR 7), .inl (cJ, 270, .inr (.inl R_elements))), (a_row, .inl (cJ, n_row, .inr (.inl row)))] sz) := by
  refine cx_of (cc := cX4_find) (maxL := 5) (ret := (some .int)) (own := RX4) (by decide) rfl rfl (Nat.le_of_ble_eq_true rfl) ?_
  intro p e s m below meth c A C0 hinN hK hN hsz hAe hA hP hD hS ls hl
  refine k_X4_find_E C0 hK hN hA aR a_row R_nodes R_arrows R_operators R_size R_elements n_row row res ?_ p1 p2 hm _ _ hP hD hS ls hl
  intro v he pc H locs ls hdg hP hD hS
  have he := Option.some.inj he
  subst he
  exact cx_reti C0 hsz hAe hdg hP hD hS

theorem dX4_nodes_0 : decode cX4_nodes 0 = .ok (.aload_n 0, 1) := by decide +kernel
theorem dX4_nodes_1 : decode cX4_nodes 1 = .ok (.getfield 34, 3) := by decide +kernel
theorem dX4_nodes_4 : decode cX4_nodes 4 = .ok (.ireturn, 1) := by decide +kernel
/-! MixfixDesk$Rules.nodes()I -/
abbrev rm_X4_nodes : Room := { frames := 0, cells := 0, slots := 0, locals := 0 }
theorem X4_nodes_inX4 : ∀ w ∈ wsX40, w ∈ wsX4_nodes := by decide +kernel
abbrev RT_X4_nodes (p : Program) (l : Launch) (e : Env) (s : State) (m : MethodId) (args : Array Value) (below : List Frame) (meth : Method) (c : Code) (Q : State → Prop) (dC : Nat → ClassId) (dI : Nat → Nat → Nat) (cI cJ cB cZ : ClassId) (A : Nat → Prop) (aR : Nat → Nat) (R_nodes : Int32) (R_arrows : Int32) (R_operators : Int32) (res : Int32) : Prop := ∀ (v : Int32) , some v = some res → ∀ (pc : Nat) (H : Heap) (locs : List Loc) (ls : Array Slot), decode cX4_nodes pc = .ok (.ireturn, 1) → va_P (dC, dI) vwCl [((aR 0), .inr (4, [.ref (aR 1), .ref (aR 2), .ref (aR 3), .ref (aR 4), .ref (aR 5), .ref (aR 6), .ref (aR 7), .int R_nodes, .int R_arrows, .int R_operators]))] H → va_D A [((aR 0), .inr (4, [.ref (aR 1), .ref (aR 2), .ref (aR 3), .ref (aR 4), .ref (aR 5), .ref (aR 6), .ref (aR 7), .int R_nodes, .int R_arrows, .int R_operators]))] → va_S A s.heap H locs → W p l e rm_X4_nodes s m args below meth c H locs 0 0 Q (F0 m pc ls [.int v])
set_option maxHeartbeats 4000000 in
set_option maxRecDepth 100000 in
theorem k_X4_nodes_E {p : Program} {l : Launch} {e : Env} {s : State} {m : MethodId} {args : Array Value} {below : List Frame} {meth : Method} {c : Code} {Q : State → Prop} {dC : Nat → ClassId} {dI : Nat → Nat → Nat} {cI cJ cB cZ : ClassId} {A : Nat → Prop} (C0 : Cx p s m meth c args cX4_nodes 1 (some .int) wsX4_nodes RX4) (hK : va_K (dC, dI) vwCl [(cI, .int), (cJ, .long), (cB, .byte), (cZ, .boolean)] s) (hN : NW s) (hA : ∀ q, s.heap.size ≤ q → A q) (aR : Nat → Nat) (R_nodes : Int32) (R_arrows : Int32) (R_operators : Int32) (res : Int32) (RET : RT_X4_nodes p l e s m args below meth c Q dC dI cI cJ cB cZ A aR R_nodes R_arrows R_operators res) : m_X4_nodes R_nodes = some res → ∀ (H : Heap) (locs : List Loc), va_P (dC, dI) vwCl [((aR 0), .inr (4, [.ref (aR 1), .ref (aR 2), .ref (aR 3), .ref (aR 4), .ref (aR 5), .ref (aR 6), .ref (aR 7), .int R_nodes, .int R_arrows, .int R_operators]))] H → va_D A [((aR 0), .inr (4, [.ref (aR 1), .ref (aR 2), .ref (aR 3), .ref (aR 4), .ref (aR 5), .ref (aR 6), .ref (aR 7), .int R_nodes, .int R_arrows, .int R_operators]))] → va_S A s.heap H locs → ∀ (ls : Array Slot), lv_has ls 1 [(0, .ref (aR 0))] → W p l e rm_X4_nodes s m args below meth c H locs 0 0 Q (F0 m 0 ls []) := by
  obtain ⟨⟨hx, hb, hml, hown, hts⟩, hr, hlocks⟩ := id C0
  intro  hm H locs hP hD hS ls hl
  have hm : (some R_nodes) = some res := hm
  refine lv_aload_n hx hb dX4_nodes_0 rfl (lv_at hl 0 rfl) ?_
  refine va_get (D := (dC, dI)) (ci := 4) (v := .int R_nodes) (C := RX4) (T := TX4) (N := 10) hx hb hts X4_nodes_inX4 hown hK hP 0 rfl rfl 7 (by decide) (hts (.fieldLink RX4 34 "MixfixDesk$Rules" "nodes" "I") (by decide +kernel)) (fun _ h9 => h9) rfl dX4_nodes_1 ?_
  exact RET R_nodes hm _ H locs ls dX4_nodes_4 hP hD hS
set_option maxHeartbeats 4000000 in
set_option maxRecDepth 100000 in
theorem c_X4_nodes (l : Launch) (dC : Nat → ClassId) (dI : Nat → Nat → Nat) (cI cJ cB cZ : ClassId) (aR : Nat → Nat) (sz : Nat) (R_nodes : Int32) (R_arrows : Int32) (R_operators : Int32) (res : Int32) (hm : m_X4_nodes R_nodes = some res) : Met l yX4_nodes wsX4_nodes rm_X4_nodes (cP (dC, dI) vwCl [(cI, .int), (cJ, .long), (cB, .byte), (cZ, .boolean)] [.ref (aR 0)] [((aR 0), .inr (4, [.ref (aR 1), .ref (aR 2), .ref (aR 3), .ref (aR 4), .ref (aR 5), .ref (aR 6), .ref (aR 7), .int R_nodes, .int R_arrows, .int R_operators]))] sz) (cQi res (dC, dI) vwCl [((aR 0), .inr (4, [.ref (aR 1), .ref (aR 2), .ref (aR 3), .ref (aR 4), .ref (aR 5), .ref (aR 6), .ref (aR 7), .int R_nodes, .int R_arrows, .int R_operators]))] [((aR 0), .inr (4, [.ref (aR 1), .ref (aR 2), .ref (aR 3), .ref (aR 4), .ref (aR 5), .ref (aR 6), .ref (aR 7), .int R_nodes, .int R_arrows, .int R_operators]))] sz) 0 0 (va_A [((aR 0), .inr (4, [.ref (aR 1), .ref (aR 2), .ref (aR 3), .ref (aR 4), .ref (aR 5), .ref (aR 6), .ref (aR 7), .int R_nodes, .int R_arrows, .int R_operators]))] sz) := by
  refine cx_of (cc := cX4_nodes) (maxL := 1) (ret := (some .int)) (own := RX4) (by decide) rfl rfl (Nat.le_of_ble_eq_true rfl) ?_
  intro p e s m below meth c A C0 hinN hK hN hsz hAe hA hP hD hS ls hl
  refine k_X4_nodes_E C0 hK hN hA aR R_nodes R_arrows R_operators res ?_  hm _ _ hP hD hS ls hl
  intro v he pc H locs ls hdg hP hD hS
  have he := Option.some.inj he
  subst he
  exact cx_reti C0 hsz hAe hdg hP hD hS

theorem dX4_arrows_0 : decode cX4_arrows 0 = .ok (.aload_n 0, 1) := by decide +kernel
theorem dX4_arrows_1 : decode cX4_arrows 1 = .ok (.getfield 38, 3) := by decide +kernel
theorem dX4_arrows_4 : decode cX4_arrows 4 = .ok (.ireturn, 1) := by decide +kernel
/-! MixfixDesk$Rules.arrows()I -/
abbrev rm_X4_arrows : Room := { frames := 0, cells := 0, slots := 0, locals := 0 }
theorem X4_arrows_inX4 : ∀ w ∈ wsX40, w ∈ wsX4_arrows := by decide +kernel
abbrev RT_X4_arrows (p : Program) (l : Launch) (e : Env) (s : State) (m : MethodId) (args : Array Value) (below : List Frame) (meth : Method) (c : Code) (Q : State → Prop) (dC : Nat → ClassId) (dI : Nat → Nat → Nat) (cI cJ cB cZ : ClassId) (A : Nat → Prop) (aR : Nat → Nat) (R_nodes : Int32) (R_arrows : Int32) (R_operators : Int32) (res : Int32) : Prop := ∀ (v : Int32) , some v = some res → ∀ (pc : Nat) (H : Heap) (locs : List Loc) (ls : Array Slot), decode cX4_arrows pc = .ok (.ireturn, 1) → va_P (dC, dI) vwCl [((aR 0), .inr (4, [.ref (aR 1), .ref (aR 2), .ref (aR 3), .ref (aR 4), .ref (aR 5), .ref (aR 6), .ref (aR 7), .int R_nodes, .int R_arrows, .int R_operators]))] H → va_D A [((aR 0), .inr (4, [.ref (aR 1), .ref (aR 2), .ref (aR 3), .ref (aR 4), .ref (aR 5), .ref (aR 6), .ref (aR 7), .int R_nodes, .int R_arrows, .int R_operators]))] → va_S A s.heap H locs → W p l e rm_X4_arrows s m args below meth c H locs 0 0 Q (F0 m pc ls [.int v])
set_option maxHeartbeats 4000000 in
set_option maxRecDepth 100000 in
theorem k_X4_arrows_E {p : Program} {l : Launch} {e : Env} {s : State} {m : MethodId} {args : Array Value} {below : List Frame} {meth : Method} {c : Code} {Q : State → Prop} {dC : Nat → ClassId} {dI : Nat → Nat → Nat} {cI cJ cB cZ : ClassId} {A : Nat → Prop} (C0 : Cx p s m meth c args cX4_arrows 1 (some .int) wsX4_arrows RX4) (hK : va_K (dC, dI) vwCl [(cI, .int), (cJ, .long), (cB, .byte), (cZ, .boolean)] s) (hN : NW s) (hA : ∀ q, s.heap.size ≤ q → A q) (aR : Nat → Nat) (R_nodes : Int32) (R_arrows : Int32) (R_operators : Int32) (res : Int32) (RET : RT_X4_arrows p l e s m args below meth c Q dC dI cI cJ cB cZ A aR R_nodes R_arrows R_operators res) : m_X4_arrows R_arrows = some res → ∀ (H : Heap) (locs : List Loc), va_P (dC, dI) vwCl [((aR 0), .inr (4, [.ref (aR 1), .ref (aR 2), .ref (aR 3), .ref (aR 4), .ref (aR 5), .ref (aR 6), .ref (aR 7), .int R_nodes, .int R_arrows, .int R_operators]))] H → va_D A [((aR 0), .inr (4, [.ref (aR 1), .ref (aR 2), .ref (aR 3), .ref (aR 4), .ref (aR 5), .ref (aR 6), .ref (aR 7), .int R_nodes, .int R_arrows, .int R_operators]))] → va_S A s.heap H locs → ∀ (ls : Array Slot), lv_has ls 1 [(0, .ref (aR 0))] → W p l e rm_X4_arrows s m args below meth c H locs 0 0 Q (F0 m 0 ls []) := by
  obtain ⟨⟨hx, hb, hml, hown, hts⟩, hr, hlocks⟩ := id C0
  intro  hm H locs hP hD hS ls hl
  have hm : (some R_arrows) = some res := hm
  refine lv_aload_n hx hb dX4_arrows_0 rfl (lv_at hl 0 rfl) ?_
  refine va_get (D := (dC, dI)) (ci := 4) (v := .int R_arrows) (C := RX4) (T := TX4) (N := 10) hx hb hts X4_arrows_inX4 hown hK hP 0 rfl rfl 8 (by decide) (hts (.fieldLink RX4 38 "MixfixDesk$Rules" "arrows" "I") (by decide +kernel)) (fun _ h9 => h9) rfl dX4_arrows_1 ?_
  exact RET R_arrows hm _ H locs ls dX4_arrows_4 hP hD hS
set_option maxHeartbeats 4000000 in
set_option maxRecDepth 100000 in
theorem c_X4_arrows (l : Launch) (dC : Nat → ClassId) (dI : Nat → Nat → Nat) (cI cJ cB cZ : ClassId) (aR : Nat → Nat) (sz : Nat) (R_nodes : Int32) (R_arrows : Int32) (R_operators : Int32) (res : Int32) (hm : m_X4_arrows R_arrows = some res) : Met l yX4_arrows wsX4_arrows rm_X4_arrows (cP (dC, dI) vwCl [(cI, .int), (cJ, .long), (cB, .byte), (cZ, .boolean)] [.ref (aR 0)] [((aR 0), .inr (4, [.ref (aR 1), .ref (aR 2), .ref (aR 3), .ref (aR 4), .ref (aR 5), .ref (aR 6), .ref (aR 7), .int R_nodes, .int R_arrows, .int R_operators]))] sz) (cQi res (dC, dI) vwCl [((aR 0), .inr (4, [.ref (aR 1), .ref (aR 2), .ref (aR 3), .ref (aR 4), .ref (aR 5), .ref (aR 6), .ref (aR 7), .int R_nodes, .int R_arrows, .int R_operators]))] [((aR 0), .inr (4, [.ref (aR 1), .ref (aR 2), .ref (aR 3), .ref (aR 4), .ref (aR 5), .ref (aR 6), .ref (aR 7), .int R_nodes, .int R_arrows, .int R_operators]))] sz) 0 0 (va_A [((aR 0), .inr (4, [.ref (aR 1), .ref (aR 2), .ref (aR 3), .ref (aR 4), .ref (aR 5), .ref (aR 6), .ref (aR 7), .int R_nodes, .int R_arrows, .int R_operators]))] sz) := by
  refine cx_of (cc := cX4_arrows) (maxL := 1) (ret := (some .int)) (own := RX4) (by decide) rfl rfl (Nat.le_of_ble_eq_true rfl) ?_
  intro p e s m below meth c A C0 hinN hK hN hsz hAe hA hP hD hS ls hl
  refine k_X4_arrows_E C0 hK hN hA aR R_nodes R_arrows R_operators res ?_  hm _ _ hP hD hS ls hl
  intro v he pc H locs ls hdg hP hD hS
  have he := Option.some.inj he
  subst he
  exact cx_reti C0 hsz hAe hdg hP hD hS

theorem dX4_hasNode_0 : decode cX4_hasNode 0 = .ok (.iload_n 1, 1) := by decide +kernel
theorem dX4_hasNode_1 : decode cX4_hasNode 1 = .ok (.ifCond .lt 15, 3) := by decide +kernel
theorem dX4_hasNode_4 : decode cX4_hasNode 4 = .ok (.iload_n 1, 1) := by decide +kernel
theorem dX4_hasNode_5 : decode cX4_hasNode 5 = .ok (.aload_n 0, 1) := by decide +kernel
theorem dX4_hasNode_6 : decode cX4_hasNode 6 = .ok (.getfield 34, 3) := by decide +kernel
theorem dX4_hasNode_9 : decode cX4_hasNode 9 = .ok (.if_icmp .ge 7, 3) := by decide +kernel
theorem dX4_hasNode_12 : decode cX4_hasNode 12 = .ok (.iconst 1, 1) := by decide +kernel
theorem dX4_hasNode_13 : decode cX4_hasNode 13 = .ok (.goto 4, 3) := by decide +kernel
theorem dX4_hasNode_16 : decode cX4_hasNode 16 = .ok (.iconst 0, 1) := by decide +kernel
theorem dX4_hasNode_17 : decode cX4_hasNode 17 = .ok (.ireturn, 1) := by decide +kernel
/-! MixfixDesk$Rules.hasNode(I)Z -/
abbrev rm_X4_hasNode : Room := { frames := 0, cells := 0, slots := 0, locals := 0 }
theorem X4_hasNode_inX4 : ∀ w ∈ wsX40, w ∈ wsX4_hasNode := by decide +kernel
abbrev RT_X4_hasNode (p : Program) (l : Launch) (e : Env) (s : State) (m : MethodId) (args : Array Value) (below : List Frame) (meth : Method) (c : Code) (Q : State → Prop) (dC : Nat → ClassId) (dI : Nat → Nat → Nat) (cI cJ cB cZ : ClassId) (A : Nat → Prop) (aR : Nat → Nat) (R_nodes : Int32) (R_arrows : Int32) (R_operators : Int32) (res : Int32) : Prop := ∀ (v : Int32) , some v = some res → narrow .boolean (.int v) = .int v → ∀ (pc : Nat) (H : Heap) (locs : List Loc) (ls : Array Slot), decode cX4_hasNode pc = .ok (.ireturn, 1) → va_P (dC, dI) vwCl [((aR 0), .inr (4, [.ref (aR 1), .ref (aR 2), .ref (aR 3), .ref (aR 4), .ref (aR 5), .ref (aR 6), .ref (aR 7), .int R_nodes, .int R_arrows, .int R_operators]))] H → va_D A [((aR 0), .inr (4, [.ref (aR 1), .ref (aR 2), .ref (aR 3), .ref (aR 4), .ref (aR 5), .ref (aR 6), .ref (aR 7), .int R_nodes, .int R_arrows, .int R_operators]))] → va_S A s.heap H locs → W p l e rm_X4_hasNode s m args below meth c H locs 0 0 Q (F0 m pc ls [.int v])
set_option maxHeartbeats 4000000 in
set_option maxRecDepth 100000 in
theorem k_X4_hasNode_E {p : Program} {l : Launch} {e : Env} {s : State} {m : MethodId} {args : Array Value} {below : List Frame} {meth : Method} {c : Code} {Q : State → Prop} {dC : Nat → ClassId} {dI : Nat → Nat → Nat} {cI cJ cB cZ : ClassId} {A : Nat → Prop} (C0 : Cx p s m meth c args cX4_hasNode 2 (some .boolean) wsX4_hasNode RX4) (hK : va_K (dC, dI) vwCl [(cI, .int), (cJ, .long), (cB, .byte), (cZ, .boolean)] s) (hN : NW s) (hA : ∀ q, s.heap.size ≤ q → A q) (aR : Nat → Nat) (R_nodes : Int32) (R_arrows : Int32) (R_operators : Int32) (res : Int32) (RET : RT_X4_hasNode p l e s m args below meth c Q dC dI cI cJ cB cZ A aR R_nodes R_arrows R_operators res) : ∀ (p0 : Int32), m_X4_hasNode R_nodes p0 = some res → ∀ (H : Heap) (locs : List Loc), va_P (dC, dI) vwCl [((aR 0), .inr (4, [.ref (aR 1), .ref (aR 2), .ref (aR 3), .ref (aR 4), .ref (aR 5), .ref (aR 6), .ref (aR 7), .int R_nodes, .int R_arrows, .int R_operators]))] H → va_D A [((aR 0), .inr (4, [.ref (aR 1), .ref (aR 2), .ref (aR 3), .ref (aR 4), .ref (aR 5), .ref (aR 6), .ref (aR 7), .int R_nodes, .int R_arrows, .int R_operators]))] → va_S A s.heap H locs → ∀ (ls : Array Slot), lv_has ls 2 [(0, .ref (aR 0)), (1, .int p0)] → W p l e rm_X4_hasNode s m args below meth c H locs 0 0 Q (F0 m 0 ls []) := by
  obtain ⟨⟨hx, hb, hml, hown, hts⟩, hr, hlocks⟩ := id C0
  intro p0 hm H locs hP hD hS ls hl
  have hm : (if p0 < 0 then (some 0) else (if R_nodes ≤ p0 then (some 0) else (some 1))) = some res := hm
  refine lv_iload_n hx hb dX4_hasNode_0 rfl (lv_at hl 1 rfl) ?_
  refine lv_if_lt (tgt := 16) hx hb dX4_hasNode_1 (by decide) (fun c_1 => ?_) (fun c_1 => ?_)
  · have hm := it_some c_1 hm
    refine lv_iconst (v := 0) hx hb dX4_hasNode_16 (by decide) ?_
    exact RET 0 hm rfl _ H locs ls dX4_hasNode_17 hP hD hS
  · have hm := if_some' c_1 hm
    refine lv_iload_n hx hb dX4_hasNode_4 rfl (lv_at hl 1 rfl) ?_
    refine lv_aload_n hx hb dX4_hasNode_5 rfl (lv_at hl 0 rfl) ?_
    refine va_get (D := (dC, dI)) (ci := 4) (v := .int R_nodes) (C := RX4) (T := TX4) (N := 10) hx hb hts X4_hasNode_inX4 hown hK hP 0 rfl rfl 7 (by decide) (hts (.fieldLink RX4 34 "MixfixDesk$Rules" "nodes" "I") (by decide +kernel)) (fun _ h9 => h9) rfl dX4_hasNode_6 ?_
    refine lv_icmp_ge (tgt := 16) hx hb dX4_hasNode_9 (by decide) (fun c_2 => ?_) (fun c_2 => ?_)
    · have hm := it_some c_2 hm
      refine lv_iconst (v := 0) hx hb dX4_hasNode_16 (by decide) ?_
      exact RET 0 hm rfl _ H locs ls dX4_hasNode_17 hP hD hS
    · have hm := if_some' c_2 hm
      refine lv_iconst (v := 1) hx hb dX4_hasNode_12 (by decide) ?_
      refine lv_goto (tgt := 17) hx hb dX4_hasNode_13 (by decide) ?_
      exact RET 1 hm rfl _ H locs ls dX4_hasNode_17 hP hD hS
set_option maxHeartbeats 4000000 in
set_option maxRecDepth 100000 in
theorem c_X4_hasNode (l : Launch) (dC : Nat → ClassId) (dI : Nat → Nat → Nat) (cI cJ cB cZ : ClassId) (aR : Nat → Nat) (sz : Nat) (R_nodes : Int32) (R_arrows : Int32) (R_operators : Int32) (p0 : Int32) (res : Int32) (hm : m_X4_hasNode R_nodes p0 = some res) : Met l yX4_hasNode wsX4_hasNode rm_X4_hasNode (cP (dC, dI) vwCl [(cI, .int), (cJ, .long), (cB, .byte), (cZ, .boolean)] [.ref (aR 0), .int p0] [((aR 0), .inr (4, [.ref (aR 1), .ref (aR 2), .ref (aR 3), .ref (aR 4), .ref (aR 5), .ref (aR 6), .ref (aR 7), .int R_nodes, .int R_arrows, .int R_operators]))] sz) (cQi res (dC, dI) vwCl [((aR 0), .inr (4, [.ref (aR 1), .ref (aR 2), .ref (aR 3), .ref (aR 4), .ref (aR 5), .ref (aR 6), .ref (aR 7), .int R_nodes, .int R_arrows, .int R_operators]))] [((aR 0), .inr (4, [.ref (aR 1), .ref (aR 2), .ref (aR 3), .ref (aR 4), .ref (aR 5), .ref (aR 6), .ref (aR 7), .int R_nodes, .int R_arrows, .int R_operators]))] sz) 0 0 (va_A [((aR 0), .inr (4, [.ref (aR 1), .ref (aR 2), .ref (aR 3), .ref (aR 4), .ref (aR 5), .ref (aR 6), .ref (aR 7), .int R_nodes, .int R_arrows, .int R_operators]))] sz) := by
  refine cx_of (cc := cX4_hasNode) (maxL := 2) (ret := (some .boolean)) (own := RX4) (by decide) rfl rfl (Nat.le_of_ble_eq_true rfl) ?_
  intro p e s m below meth c A C0 hinN hK hN hsz hAe hA hP hD hS ls hl
  refine k_X4_hasNode_E C0 hK hN hA aR R_nodes R_arrows R_operators res ?_ p0 hm _ _ hP hD hS ls hl
  intro v he hn pc H locs ls hdg hP hD hS
  have he := Option.some.inj he
  subst he
  exact cx_retz C0 hn hsz hAe hdg hP hD hS

theorem dX4_hasOperator_0 : decode cX4_hasOperator 0 = .ok (.iload_n 1, 1) := by decide +kernel
theorem dX4_hasOperator_1 : decode cX4_hasOperator 1 = .ok (.ifCond .lt 15, 3) := by decide +kernel
theorem dX4_hasOperator_4 : decode cX4_hasOperator 4 = .ok (.iload_n 1, 1) := by decide +kernel
theorem dX4_hasOperator_5 : decode cX4_hasOperator 5 = .ok (.aload_n 0, 1) := by decide +kernel
theorem dX4_hasOperator_6 : decode cX4_hasOperator 6 = .ok (.getfield 41, 3) := by decide +kernel
theorem dX4_hasOperator_9 : decode cX4_hasOperator 9 = .ok (.if_icmp .ge 7, 3) := by decide +kernel
theorem dX4_hasOperator_12 : decode cX4_hasOperator 12 = .ok (.iconst 1, 1) := by decide +kernel
theorem dX4_hasOperator_13 : decode cX4_hasOperator 13 = .ok (.goto 4, 3) := by decide +kernel
theorem dX4_hasOperator_16 : decode cX4_hasOperator 16 = .ok (.iconst 0, 1) := by decide +kernel
theorem dX4_hasOperator_17 : decode cX4_hasOperator 17 = .ok (.ireturn, 1) := by decide +kernel
/-! MixfixDesk$Rules.hasOperator(I)Z -/
abbrev rm_X4_hasOperator : Room := { frames := 0, cells := 0, slots := 0, locals := 0 }
theorem X4_hasOperator_inX4 : ∀ w ∈ wsX40, w ∈ wsX4_hasOperator := by decide +kernel
abbrev RT_X4_hasOperator (p : Program) (l : Launch) (e : Env) (s : State) (m : MethodId) (args : Array Value) (below : List Frame) (meth : Method) (c : Code) (Q : State → Prop) (dC : Nat → ClassId) (dI : Nat → Nat → Nat) (cI cJ cB cZ : ClassId) (A : Nat → Prop) (aR : Nat → Nat) (R_nodes : Int32) (R_arrows : Int32) (R_operators : Int32) (res : Int32) : Prop := ∀ (v : Int32) , some v = some res → narrow .boolean (.int v) = .int v → ∀ (pc : Nat) (H : Heap) (locs : List Loc) (ls : Array Slot), decode cX4_hasOperator pc = .ok (.ireturn, 1) → va_P (dC, dI) vwCl [((aR 0), .inr (4, [.ref (aR 1), .ref (aR 2), .ref (aR 3), .ref (aR 4), .ref (aR 5), .ref (aR 6), .ref (aR 7), .int R_nodes, .int R_arrows, .int R_operators]))] H → va_D A [((aR 0), .inr (4, [.ref (aR 1), .ref (aR 2), .ref (aR 3), .ref (aR 4), .ref (aR 5), .ref (aR 6), .ref (aR 7), .int R_nodes, .int R_arrows, .int R_operators]))] → va_S A s.heap H locs → W p l e rm_X4_hasOperator s m args below meth c H locs 0 0 Q (F0 m pc ls [.int v])
set_option maxHeartbeats 4000000 in
set_option maxRecDepth 100000 in
theorem k_X4_hasOperator_E {p : Program} {l : Launch} {e : Env} {s : State} {m : MethodId} {args : Array Value} {below : List Frame} {meth : Method} {c : Code} {Q : State → Prop} {dC : Nat → ClassId} {dI : Nat → Nat → Nat} {cI cJ cB cZ : ClassId} {A : Nat → Prop} (C0 : Cx p s m meth c args cX4_hasOperator 2 (some .boolean) wsX4_hasOperator RX4) (hK : va_K (dC, dI) vwCl [(cI, .int), (cJ, .long), (cB, .byte), (cZ, .boolean)] s) (hN : NW s) (hA : ∀ q, s.heap.size ≤ q → A q) (aR : Nat → Nat) (R_nodes : Int32) (R_arrows : Int32) (R_operators : Int32) (res : Int32) (RET : RT_X4_hasOperator p l e s m args below meth c Q dC dI cI cJ cB cZ A aR R_nodes R_arrows R_operators res) : ∀ (p0 : Int32), m_X4_hasOperator R_operators p0 = some res → ∀ (H : Heap) (locs : List Loc), va_P (dC, dI) vwCl [((aR 0), .inr (4, [.ref (aR 1), .ref (aR 2), .ref (aR 3), .ref (aR 4), .ref (aR 5), .ref (aR 6), .ref (aR 7), .int R_nodes, .int R_arrows, .int R_operators]))] H → va_D A [((aR 0), .inr (4, [.ref (aR 1), .ref (aR 2), .ref (aR 3), .ref (aR 4), .ref (aR 5), .ref (aR 6), .ref (aR 7), .int R_nodes, .int R_arrows, .int R_operators]))] → va_S A s.heap H locs → ∀ (ls : Array Slot), lv_has ls 2 [(0, .ref (aR 0)), (1, .int p0)] → W p l e rm_X4_hasOperator s m args below meth c H locs 0 0 Q (F0 m 0 ls []) := by
  obtain ⟨⟨hx, hb, hml, hown, hts⟩, hr, hlocks⟩ := id C0
  intro p0 hm H locs hP hD hS ls hl
  have hm : (if p0 < 0 then (some 0) else (if R_operators ≤ p0 then (some 0) else (some 1))) = some res := hm
  refine lv_iload_n hx hb dX4_hasOperator_0 rfl (lv_at hl 1 rfl) ?_
  refine lv_if_lt (tgt := 16) hx hb dX4_hasOperator_1 (by decide) (fun c_1 => ?_) (fun c_1 => ?_)
  · have hm := it_some c_1 hm
    refine lv_iconst (v := 0) hx hb dX4_hasOperator_16 (by decide) ?_
    exact RET 0 hm rfl _ H locs ls dX4_hasOperator_17 hP hD hS
  · have hm := if_some' c_1 hm
    refine lv_iload_n hx hb dX4_hasOperator_4 rfl (lv_at hl 1 rfl) ?_
    refine lv_aload_n hx hb dX4_hasOperator_5 rfl (lv_at hl 0 rfl) ?_
    refine va_get (D := (dC, dI)) (ci := 4) (v := .int R_operators) (C := RX4) (T := TX4) (N := 10) hx hb hts X4_hasOperator_inX4 hown hK hP 0 rfl rfl 9 (by decide) (hts (.fieldLink RX4 41 "MixfixDesk$Rules" "operators" "I") (by decide +kernel)) (fun _ h9 => h9) rfl dX4_hasOperator_6 ?_
    refine lv_icmp_ge (tgt := 16) hx hb dX4_hasOperator_9 (by decide) (fun c_2 => ?_) (fun c_2 => ?_)
    · have hm := it_some c_2 hm
      refine lv_iconst (v := 0) hx hb dX4_hasOperator_16 (by decide) ?_
      exact RET 0 hm rfl _ H locs ls dX4_hasOperator_17 hP hD hS
    · have hm := if_some' c_2 hm
      refine lv_iconst (v := 1) hx hb dX4_hasOperator_12 (by decide) ?_
      refine lv_goto (tgt := 17) hx hb dX4_hasOperator_13 (by decide) ?_
      exact RET 1 hm rfl _ H locs ls dX4_hasOperator_17 hP hD hS
set_option maxHeartbeats 4000000 in
set_option maxRecDepth 100000 in
theorem c_X4_hasOperator (l : Launch) (dC : Nat → ClassId) (dI : Nat → Nat → Nat) (cI cJ cB cZ : ClassId) (aR : Nat → Nat) (sz : Nat) (R_nodes : Int32) (R_arrows : Int32) (R_operators : Int32) (p0 : Int32) (res : Int32) (hm : m_X4_hasOperator R_operators p0 = some res) : Met l yX4_hasOperator wsX4_hasOperator rm_X4_hasOperator (cP (dC, dI) vwCl [(cI, .int), (cJ, .long), (cB, .byte), (cZ, .boolean)] [.ref (aR 0), .int p0] [((aR 0), .inr (4, [.ref (aR 1), .ref (aR 2), .ref (aR 3), .ref (aR 4), .ref (aR 5), .ref (aR 6), .ref (aR 7), .int R_nodes, .int R_arrows, .int R_operators]))] sz) (cQi res (dC, dI) vwCl [((aR 0), .inr (4, [.ref (aR 1), .ref (aR 2), .ref (aR 3), .ref (aR 4), .ref (aR 5), .ref (aR 6), .ref (aR 7), .int R_nodes, .int R_arrows, .int R_operators]))] [((aR 0), .inr (4, [.ref (aR 1), .ref (aR 2), .ref (aR 3), .ref (aR 4), .ref (aR 5), .ref (aR 6), .ref (aR 7), .int R_nodes, .int R_arrows, .int R_operators]))] sz) 0 0 (va_A [((aR 0), .inr (4, [.ref (aR 1), .ref (aR 2), .ref (aR 3), .ref (aR 4), .ref (aR 5), .ref (aR 6), .ref (aR 7), .int R_nodes, .int R_arrows, .int R_operators]))] sz) := by
  refine cx_of (cc := cX4_hasOperator) (maxL := 2) (ret := (some .boolean)) (own := RX4) (by decide) rfl rfl (Nat.le_of_ble_eq_true rfl) ?_
  intro p e s m below meth c A C0 hinN hK hN hsz hAe hA hP hD hS ls hl
  refine k_X4_hasOperator_E C0 hK hN hA aR R_nodes R_arrows R_operators res ?_ p0 hm _ _ hP hD hS ls hl
  intro v he hn pc H locs ls hdg hP hD hS
  have he := Option.some.inj he
  subst he
  exact cx_retz C0 hn hsz hAe hdg hP hD hS

theorem dX4_home_0 : decode cX4_home 0 = .ok (.aload_n 0, 1) := by decide +kernel
theorem dX4_home_1 : decode cX4_home 1 = .ok (.getfield 18, 3) := by decide +kernel
theorem dX4_home_4 : decode cX4_home 4 = .ok (.iload_n 1, 1) := by decide +kernel
theorem dX4_home_5 : decode cX4_home 5 = .ok (.iaload, 1) := by decide +kernel
theorem dX4_home_6 : decode cX4_home 6 = .ok (.ireturn, 1) := by decide +kernel
/-! MixfixDesk$Rules.home(I)I -/
abbrev rm_X4_home : Room := { frames := 0, cells := 0, slots := 0, locals := 0 }
theorem X4_home_inX4 : ∀ w ∈ wsX40, w ∈ wsX4_home := by decide +kernel
abbrev RT_X4_home (p : Program) (l : Launch) (e : Env) (s : State) (m : MethodId) (args : Array Value) (below : List Frame) (meth : Method) (c : Code) (Q : State → Prop) (dC : Nat → ClassId) (dI : Nat → Nat → Nat) (cI cJ cB cZ : ClassId) (A : Nat → Prop) (aR : Nat → Nat) (R_nodes : Int32) (R_arrows : Int32) (R_operators : Int32) (R_home : Nat → Int32) (res : Int32) : Prop := ∀ (v : Int32) , some v = some res → ∀ (pc : Nat) (H : Heap) (locs : List Loc) (ls : Array Slot), decode cX4_home pc = .ok (.ireturn, 1) → va_P (dC, dI) vwCl [((aR 0), .inr (4, [.ref (aR 1), .ref (aR 2), .ref (aR 3), .ref (aR 4), .ref (aR 5), .ref (aR 6), .ref (aR 7), .int R_nodes, .int R_arrows, .int R_operators])), ((aR 3), .inl (cI, 30, .inl R_home))] H → va_D A [((aR 0), .inr (4, [.ref (aR 1), .ref (aR 2), .ref (aR 3), .ref (aR 4), .ref (aR 5), .ref (aR 6), .ref (aR 7), .int R_nodes, .int R_arrows, .int R_operators])), ((aR 3), .inl (cI, 30, .inl R_home))] → va_S A s.heap H locs → W p l e rm_X4_home s m args below meth c H locs 0 0 Q (F0 m pc ls [.int v])
set_option maxHeartbeats 4000000 in
set_option maxRecDepth 100000 in
theorem k_X4_home_E {p : Program} {l : Launch} {e : Env} {s : State} {m : MethodId} {args : Array Value} {below : List Frame} {meth : Method} {c : Code} {Q : State → Prop} {dC : Nat → ClassId} {dI : Nat → Nat → Nat} {cI cJ cB cZ : ClassId} {A : Nat → Prop} (C0 : Cx p s m meth c args cX4_home 2 (some .int) wsX4_home RX4) (hK : va_K (dC, dI) vwCl [(cI, .int), (cJ, .long), (cB, .byte), (cZ, .boolean)] s) (hN : NW s) (hA : ∀ q, s.heap.size ≤ q → A q) (aR : Nat → Nat) (R_nodes : Int32) (R_arrows : Int32) (R_operators : Int32) (R_home : Nat → Int32) (res : Int32) (RET : RT_X4_home p l e s m args below meth c Q dC dI cI cJ cB cZ A aR R_nodes R_arrows R_operators R_home res) : ∀ (p0 : Int32), m_X4_home R_home p0 = some res → ∀ (H : Heap) (locs : List Loc), va_P (dC, dI) vwCl [((aR 0), .inr (4, [.ref (aR 1), .ref (aR 2), .ref (aR 3), .ref (aR 4), .ref (aR 5), .ref (aR 6), .ref (aR 7), .int R_nodes, .int R_arrows, .int R_operators])), ((aR 3), .inl (cI, 30, .inl R_home))] H → va_D A [((aR 0), .inr (4, [.ref (aR 1), .ref (aR 2), .ref (aR 3), .ref (aR 4), .ref (aR 5), .ref (aR 6), .ref (aR 7), .int R_nodes, .int R_arrows, .int R_operators])), ((aR 3), .inl (cI, 30, .inl R_home))] → va_S A s.heap H locs → ∀ (ls : Array Slot), lv_has ls 2 [(0, .ref (aR 0)), (1, .int p0)] → W p l e rm_X4_home s m args below meth c H locs 0 0 Q (F0 m 0 ls []) := by
  obtain ⟨⟨hx, hb, hml, hown, hts⟩, hr, hlocks⟩ := id C0
  intro p0 hm H locs hP hD hS ls hl
  have hm : (gd p0 30 (some (R_home p0.toNatClampNeg))) = some res := hm
  refine lv_aload_n hx hb dX4_home_0 rfl (lv_at hl 0 rfl) ?_
  refine va_get (D := (dC, dI)) (ci := 4) (v := .ref (aR 3)) (C := RX4) (T := TX4) (N := 10) hx hb hts X4_home_inX4 hown hK hP 0 rfl rfl 2 (by decide) (hts (.fieldLink RX4 18 "MixfixDesk$Rules" "home" "[I") (by decide +kernel)) (fun _ h9 => h9) rfl dX4_home_1 ?_
  refine lv_iload_n hx hb dX4_home_4 rfl (lv_at hl 1 rfl) ?_
  obtain ⟨hi_1, hm⟩ := gd_some hm
  refine va_iald (D := (dC, dI)) hx hb hK hP 1 0 rfl rfl hi_1 dX4_home_5 ?_
  exact RET (R_home p0.toNatClampNeg) hm _ H locs ls dX4_home_6 hP hD hS
set_option maxHeartbeats 4000000 in
set_option maxRecDepth 100000 in
theorem c_X4_home (l : Launch) (dC : Nat → ClassId) (dI : Nat → Nat → Nat) (cI cJ cB cZ : ClassId) (aR : Nat → Nat) (sz : Nat) (R_nodes : Int32) (R_arrows : Int32) (R_operators : Int32) (R_home : Nat → Int32) (p0 : Int32) (res : Int32) (hm : m_X4_home R_home p0 = some res) : Met l yX4_home wsX4_home rm_X4_home (cP (dC, dI) vwCl [(cI, .int), (cJ, .long), (cB, .byte), (cZ, .boolean)] [.ref (aR 0), .int p0] [((aR 0), .inr (4, [.ref (aR 1), .ref (aR 2), .ref (aR 3), .ref (aR 4), .ref (aR 5), .ref (aR 6), .ref (aR 7), .int R_nodes, .int R_arrows, .int R_operators])), ((aR 3), .inl (cI, 30, .inl R_home))] sz) (cQi res (dC, dI) vwCl [((aR 0), .inr (4, [.ref (aR 1), .ref (aR 2), .ref (aR 3), .ref (aR 4), .ref (aR 5), .ref (aR 6), .ref (aR 7), .int R_nodes, .int R_arrows, .int R_operators])), ((aR 3), .inl (cI, 30, .inl R_home))] [((aR 0), .inr (4, [.ref (aR 1), .ref (aR 2), .ref (aR 3), .ref (aR 4), .ref (aR 5), .ref (aR 6), .ref (aR 7), .int R_nodes, .int R_arrows, .int R_operators])), ((aR 3), .inl (cI, 30, .inl R_home))] sz) 0 0 (va_A [((aR 0), .inr (4, [.ref (aR 1), .ref (aR 2), .ref (aR 3), .ref (aR 4), .ref (aR 5), .ref (aR 6), .ref (aR 7), .int R_nodes, .int R_arrows, .int R_operators])), ((aR 3), .inl (cI, 30, .inl R_home))] sz) := by
  refine cx_of (cc := cX4_home) (maxL := 2) (ret := (some .int)) (own := RX4) (by decide) rfl rfl (Nat.le_of_ble_eq_true rfl) ?_
  intro p e s m below meth c A C0 hinN hK hN hsz hAe hA hP hD hS ls hl
  refine k_X4_home_E C0 hK hN hA aR R_nodes R_arrows R_operators R_home res ?_ p0 hm _ _ hP hD hS ls hl
  intro v he pc H locs ls hdg hP hD hS
  have he := Option.some.inj he
  subst he
  exact cx_reti C0 hsz hAe hdg hP hD hS

theorem dX4_way_0 : decode cX4_way 0 = .ok (.aload_n 0, 1) := by decide +kernel
theorem dX4_way_1 : decode cX4_way 1 = .ok (.getfield 21, 3) := by decide +kernel
theorem dX4_way_4 : decode cX4_way 4 = .ok (.iload_n 1, 1) := by decide +kernel
theorem dX4_way_5 : decode cX4_way 5 = .ok (.iaload, 1) := by decide +kernel
theorem dX4_way_6 : decode cX4_way 6 = .ok (.ireturn, 1) := by decide +kernel
/-! MixfixDesk$Rules.way(I)I -/
abbrev rm_X4_way : Room := { frames := 0, cells := 0, slots := 0, locals := 0 }
theorem X4_way_inX4 : ∀ w ∈ wsX40, w ∈ wsX4_way := by decide +kernel
abbrev RT_X4_way (p : Program) (l : Launch) (e : Env) (s : State) (m : MethodId) (args : Array Value) (below : List Frame) (meth : Method) (c : Code) (Q : State → Prop) (dC : Nat → ClassId) (dI : Nat → Nat → Nat) (cI cJ cB cZ : ClassId) (A : Nat → Prop) (aR : Nat → Nat) (R_nodes : Int32) (R_arrows : Int32) (R_operators : Int32) (R_way : Nat → Int32) (res : Int32) : Prop := ∀ (v : Int32) , some v = some res → ∀ (pc : Nat) (H : Heap) (locs : List Loc) (ls : Array Slot), decode cX4_way pc = .ok (.ireturn, 1) → va_P (dC, dI) vwCl [((aR 0), .inr (4, [.ref (aR 1), .ref (aR 2), .ref (aR 3), .ref (aR 4), .ref (aR 5), .ref (aR 6), .ref (aR 7), .int R_nodes, .int R_arrows, .int R_operators])), ((aR 4), .inl (cI, 30, .inl R_way))] H → va_D A [((aR 0), .inr (4, [.ref (aR 1), .ref (aR 2), .ref (aR 3), .ref (aR 4), .ref (aR 5), .ref (aR 6), .ref (aR 7), .int R_nodes, .int R_arrows, .int R_operators])), ((aR 4), .inl (cI, 30, .inl R_way))] → va_S A s.heap H locs → W p l e rm_X4_way s m args below meth c H locs 0 0 Q (F0 m pc ls [.int v])
set_option maxHeartbeats 4000000 in
set_option maxRecDepth 100000 in
theorem k_X4_way_E {p : Program} {l : Launch} {e : Env} {s : State} {m : MethodId} {args : Array Value} {below : List Frame} {meth : Method} {c : Code} {Q : State → Prop} {dC : Nat → ClassId} {dI : Nat → Nat → Nat} {cI cJ cB cZ : ClassId} {A : Nat → Prop} (C0 : Cx p s m meth c args cX4_way 2 (some .int) wsX4_way RX4) (hK : va_K (dC, dI) vwCl [(cI, .int), (cJ, .long), (cB, .byte), (cZ, .boolean)] s) (hN : NW s) (hA : ∀ q, s.heap.size ≤ q → A q) (aR : Nat → Nat) (R_nodes : Int32) (R_arrows : Int32) (R_operators : Int32) (R_way : Nat → Int32) (res : Int32) (RET : RT_X4_way p l e s m args below meth c Q dC dI cI cJ cB cZ A aR R_nodes R_arrows R_operators R_way res) : ∀ (p0 : Int32), m_X4_way R_way p0 = some res → ∀ (H : Heap) (locs : List Loc), va_P (dC, dI) vwCl [((aR 0), .inr (4, [.ref (aR 1), .ref (aR 2), .ref (aR 3), .ref (aR 4), .ref (aR 5), .ref (aR 6), .ref (aR 7), .int R_nodes, .int R_arrows, .int R_operators])), ((aR 4), .inl (cI, 30, .inl R_way))] H → va_D A [((aR 0), .inr (4, [.ref (aR 1), .ref (aR 2), .ref (aR 3), .ref (aR 4), .ref (aR 5), .ref (aR 6), .ref (aR 7), .int R_nodes, .int R_arrows, .int R_operators])), ((aR 4), .inl (cI, 30, .inl R_way))] → va_S A s.heap H locs → ∀ (ls : Array Slot), lv_has ls 2 [(0, .ref (aR 0)), (1, .int p0)] → W p l e rm_X4_way s m args below meth c H locs 0 0 Q (F0 m 0 ls []) := by
  obtain ⟨⟨hx, hb, hml, hown, hts⟩, hr, hlocks⟩ := id C0
  intro p0 hm H locs hP hD hS ls hl
  have hm : (gd p0 30 (some (R_way p0.toNatClampNeg))) = some res := hm
  refine lv_aload_n hx hb dX4_way_0 rfl (lv_at hl 0 rfl) ?_
  refine va_get (D := (dC, dI)) (ci := 4) (v := .ref (aR 4)) (C := RX4) (T := TX4) (N := 10) hx hb hts X4_way_inX4 hown hK hP 0 rfl rfl 3 (by decide) (hts (.fieldLink RX4 21 "MixfixDesk$Rules" "way" "[I") (by decide +kernel)) (fun _ h9 => h9) rfl dX4_way_1 ?_
  refine lv_iload_n hx hb dX4_way_4 rfl (lv_at hl 1 rfl) ?_
  obtain ⟨hi_1, hm⟩ := gd_some hm
  refine va_iald (D := (dC, dI)) hx hb hK hP 1 0 rfl rfl hi_1 dX4_way_5 ?_
  exact RET (R_way p0.toNatClampNeg) hm _ H locs ls dX4_way_6 hP hD hS
set_option maxHeartbeats 4000000 in
set_option maxRecDepth 100000 in
theorem c_X4_way (l : Launch) (dC : Nat → ClassId) (dI : Nat → Nat → Nat) (cI cJ cB cZ : ClassId) (aR : Nat → Nat) (sz : Nat) (R_nodes : Int32) (R_arrows : Int32) (R_operators : Int32) (R_way : Nat → Int32) (p0 : Int32) (res : Int32) (hm : m_X4_way R_way p0 = some res) : Met l yX4_way wsX4_way rm_X4_way (cP (dC, dI) vwCl [(cI, .int), (cJ, .long), (cB, .byte), (cZ, .boolean)] [.ref (aR 0), .int p0] [((aR 0), .inr (4, [.ref (aR 1), .ref (aR 2), .ref (aR 3), .ref (aR 4), .ref (aR 5), .ref (aR 6), .ref (aR 7), .int R_nodes, .int R_arrows, .int R_operators])), ((aR 4), .inl (cI, 30, .inl R_way))] sz) (cQi res (dC, dI) vwCl [((aR 0), .inr (4, [.ref (aR 1), .ref (aR 2), .ref (aR 3), .ref (aR 4), .ref (aR 5), .ref (aR 6), .ref (aR 7), .int R_nodes, .int R_arrows, .int R_operators])), ((aR 4), .inl (cI, 30, .inl R_way))] [((aR 0), .inr (4, [.ref (aR 1), .ref (aR 2), .ref (aR 3), .ref (aR 4), .ref (aR 5), .ref (aR 6), .ref (aR 7), .int R_nodes, .int R_arrows, .int R_operators])), ((aR 4), .inl (cI, 30, .inl R_way))] sz) 0 0 (va_A [((aR 0), .inr (4, [.ref (aR 1), .ref (aR 2), .ref (aR 3), .ref (aR 4), .ref (aR 5), .ref (aR 6), .ref (aR 7), .int R_nodes, .int R_arrows, .int R_operators])), ((aR 4), .inl (cI, 30, .inl R_way))] sz) := by
  refine cx_of (cc := cX4_way) (maxL := 2) (ret := (some .int)) (own := RX4) (by decide) rfl rfl (Nat.le_of_ble_eq_true rfl) ?_
  intro p e s m below meth c A C0 hinN hK hN hsz hAe hA hP hD hS ls hl
  refine k_X4_way_E C0 hK hN hA aR R_nodes R_arrows R_operators R_way res ?_ p0 hm _ _ hP hD hS ls hl
  intro v he pc H locs ls hdg hP hD hS
  have he := Option.some.inj he
  subst he
  exact cx_reti C0 hsz hAe hdg hP hD hS

set_option maxRecDepth 20000 in
theorem ggX4_holes_X4_isHole : GoodIn wsX4_holes wsX4_isHole := goodIn_r _ [6, 7, 8, 9, 10, 11, 12, 13, 14, 15, 16, 17, 18] (by decide +kernel) (by decide +kernel)
set_option maxRecDepth 20000 in
theorem gX4_holes_X4_isHole : GoodIn wsX4_holes (wsV RX4 46 RX4 yX4_isHole wsX4_isHole) := goodIn_app (goodIn_of _ (by decide +kernel)) ggX4_holes_X4_isHole
theorem dX4_holes_0 : decode cX4_holes 0 = .ok (.iconst 0, 1) := by decide +kernel
theorem dX4_holes_1 : decode cX4_holes 1 = .ok (.istore_n 2, 1) := by decide +kernel
theorem dX4_holes_2 : decode cX4_holes 2 = .ok (.iconst 0, 1) := by decide +kernel
theorem dX4_holes_3 : decode cX4_holes 3 = .ok (.istore_n 3, 1) := by decide +kernel
theorem dX4_holes_4 : decode cX4_holes 4 = .ok (.iload_n 3, 1) := by decide +kernel
theorem dX4_holes_5 : decode cX4_holes 5 = .ok (.aload_n 0, 1) := by decide +kernel
theorem dX4_holes_6 : decode cX4_holes 6 = .ok (.getfield 15, 3) := by decide +kernel
theorem dX4_holes_9 : decode cX4_holes 9 = .ok (.iload_n 1, 1) := by decide +kernel
theorem dX4_holes_10 : decode cX4_holes 10 = .ok (.iaload, 1) := by decide +kernel
theorem dX4_holes_11 : decode cX4_holes 11 = .ok (.if_icmp .ge 21, 3) := by decide +kernel
theorem dX4_holes_14 : decode cX4_holes 14 = .ok (.aload_n 0, 1) := by decide +kernel
theorem dX4_holes_15 : decode cX4_holes 15 = .ok (.iload_n 1, 1) := by decide +kernel
theorem dX4_holes_16 : decode cX4_holes 16 = .ok (.iload_n 3, 1) := by decide +kernel
theorem dX4_holes_17 : decode cX4_holes 17 = .ok (.invokevirtual 46, 3) := by decide +kernel
theorem dX4_holes_20 : decode cX4_holes 20 = .ok (.ifCond .eq 6, 3) := by decide +kernel
theorem dX4_holes_23 : decode cX4_holes 23 = .ok (.iinc 2 1, 3) := by decide +kernel
theorem dX4_holes_26 : decode cX4_holes 26 = .ok (.iinc 3 1, 3) := by decide +kernel
theorem dX4_holes_29 : decode cX4_holes 29 = .ok (.goto (-25), 3) := by decide +kernel
theorem dX4_holes_32 : decode cX4_holes 32 = .ok (.iload_n 2, 1) := by decide +kernel
theorem dX4_holes_33 : decode cX4_holes 33 = .ok (.ireturn, 1) := by decide +kernel
/-! MixfixDesk$Rules.holes(I)I -/
abbrev rm_X4_holes : Room := { frames := 1, cells := 0, slots := 0, locals := 22 }
theorem X4_holes_inX4 : ∀ w ∈ wsX40, w ∈ wsX4_holes := by decide +kernel
abbrev RT_X4_holes (p : Program) (l : Launch) (e : Env) (s : State) (m : MethodId) (args : Array Value) (below : List Frame) (meth : Method) (c : Code) (Q : State → Prop) (dC : Nat → ClassId) (dI : Nat → Nat → Nat) (cI cJ cB cZ : ClassId) (A : Nat → Prop) (aR : Nat → Nat) (R_nodes : Int32) (R_arrows : Int32) (R_operators : Int32) (R_size : Nat → Int32) (R_elements : Nat → Int64) (res : Int32) : Prop := ∀ (v : Int32) , some v = some res → ∀ (pc : Nat) (H : Heap) (locs : List Loc) (ls : Array Slot), decode cX4_holes pc = .ok (.ireturn, 1) → va_P (dC, dI) vwCl [((aR 0), .inr (4, [.ref (aR 1), .ref (aR 2), .ref (aR 3), .ref (aR 4), .ref (aR 5), .ref (aR 6), .ref (aR 7), .int R_nodes, .int R_arrows, .int R_operators])), ((aR 2), .inl (cI, 30, .inl R_size)), ((aR 7), .inl (cJ, 270, .inr (.inl R_elements)))] H → va_D A [((aR 0), .inr (4, [.ref (aR 1), .ref (aR 2), .ref (aR 3), .ref (aR 4), .ref (aR 5), .ref (aR 6), .ref (aR 7), .int R_nodes, .int R_arrows, .int R_operators])), ((aR 2), .inl (cI, 30, .inl R_size)), ((aR 7), .inl (cJ, 270, .inr (.inl R_elements)))] → va_S A s.heap H locs → W p l e rm_X4_holes s m args below meth c H locs 0 0 Q (F0 m pc ls [.int v])
set_option maxHeartbeats 4000000 in
set_option maxRecDepth 100000 in
theorem k_X4_holes_26 {p : Program} {l : Launch} {e : Env} {s : State} {m : MethodId} {args : Array Value} {below : List Frame} {meth : Method} {c : Code} {Q : State → Prop} {dC : Nat → ClassId} {dI : Nat → Nat → Nat} {cI cJ cB cZ : ClassId} {A : Nat → Prop} (C0 : Cx p s m meth c args cX4_holes 4 (some .int) wsX4_holes RX4) (hK : va_K (dC, dI) vwCl [(cI, .int), (cJ, .long), (cB, .byte), (cZ, .boolean)] s) (hN : NW s) (hA : ∀ q, s.heap.size ≤ q → A q) (aR : Nat → Nat) (R_nodes : Int32) (R_arrows : Int32) (R_operators : Int32) (R_size : Nat → Int32) (R_elements : Nat → Int64) (res : Int32) (RET : RT_X4_holes p l e s m args below meth c Q dC dI cI cJ cB cZ A aR R_nodes R_arrows R_operators R_size R_elements res) (k4 : Int32 → Int32 → Int32 → Option (Int32)) (hk4 : ∀ (x1 : Int32) (x2 : Int32) (x3 : Int32), k4 x1 x2 x3 = some res → ∀ (H : Heap) (locs : List Loc), va_P (dC, dI) vwCl [((aR 0), .inr (4, [.ref (aR 1), .ref (aR 2), .ref (aR 3), .ref (aR 4), .ref (aR 5), .ref (aR 6), .ref (aR 7), .int R_nodes, .int R_arrows, .int R_operators])), ((aR 2), .inl (cI, 30, .inl R_size)), ((aR 7), .inl (cJ, 270, .inr (.inl R_elements)))] H → va_D A [((aR 0), .inr (4, [.ref (aR 1), .ref (aR 2), .ref (aR 3), .ref (aR 4), .ref (aR 5), .ref (aR 6), .ref (aR 7), .int R_nodes, .int R_arrows, .int R_operators])), ((aR 2), .inl (cI, 30, .inl R_size)), ((aR 7), .inl (cJ, 270, .inr (.inl R_elements)))] → va_S A s.heap H locs → ∀ (ls : Array Slot), lv_has ls 4 [(0, .ref (aR 0)), (1, .int x1), (2, .int x2), (3, .int x3)] → W p l e rm_X4_holes s m args below meth c H locs 0 0 Q (F0 m 4 ls [])) : ∀ (x1 : Int32) (x2 : Int32) (x3 : Int32), m_X4_holes_26 R_size R_elements k4 x1 x2 x3 = some res → ∀ (H : Heap) (locs : List Loc), va_P (dC, dI) vwCl [((aR 0), .inr (4, [.ref (aR 1), .ref (aR 2), .ref (aR 3), .ref (aR 4), .ref (aR 5), .ref (aR 6), .ref (aR 7), .int R_nodes, .int R_arrows, .int R_operators])), ((aR 2), .inl (cI, 30, .inl R_size)), ((aR 7), .inl (cJ, 270, .inr (.inl R_elements)))] H → va_D A [((aR 0), .inr (4, [.ref (aR 1), .ref (aR 2), .ref (aR 3), .ref (aR 4), .ref (aR 5), .ref (aR 6), .ref (aR 7), .int R_nodes, .int R_arrows, .int R_operators])), ((aR 2), .inl (cI, 30, .inl R_size)), ((aR 7), .inl (cJ, 270, .inr (.inl R_elements)))] → va_S A s.heap H locs → ∀ (ls : Array Slot), lv_has ls 4 [(0, .ref (aR 0)), (1, .int x1), (2, .int x2), (3, .int x3)] → W p l e rm_X4_holes s m args below meth c H locs 0 0 Q (F0 m 26 ls []) := by
  obtain ⟨⟨hx, hb, hml, hown, hts⟩, hr, hlocks⟩ := id C0
  intro x1 x2 x3 hm H locs hP hD hS ls hl
  have hm : (k4 x1 x2 (x3 + 1)) = some res := hm
  refine lv_iinc (v := x3 + 1) (lv' := [(3, .int (x3 + 1)), (0, .ref (aR 0)), (1, .int x1), (2, .int x2)]) hx hb dX4_holes_26 hl (k := 3) rfl rfl (by decide) rfl (fun ls hl => ?_)
  refine lv_goto (tgt := 4) hx hb dX4_holes_29 (by decide) ?_
  exact hk4 x1 x2 (x3 + 1) hm H locs hP hD hS ls (lv_sub hl [1, 2, 3, 0] rfl)
set_option maxHeartbeats 4000000 in
set_option maxRecDepth 100000 in
theorem k_X4_holes_4 {p : Program} {l : Launch} {e : Env} {s : State} {m : MethodId} {args : Array Value} {below : List Frame} {meth : Method} {c : Code} {Q : State → Prop} {dC : Nat → ClassId} {dI : Nat → Nat → Nat} {cI cJ cB cZ : ClassId} {A : Nat → Prop} (C0 : Cx p s m meth c args cX4_holes 4 (some .int) wsX4_holes RX4) (hK : va_K (dC, dI) vwCl [(cI, .int), (cJ, .long), (cB, .byte), (cZ, .boolean)] s) (hN : NW s) (hA : ∀ q, s.heap.size ≤ q → A q) (aR : Nat → Nat) (R_nodes : Int32) (R_arrows : Int32) (R_operators : Int32) (R_size : Nat → Int32) (R_elements : Nat → Int64) (res : Int32) (RET : RT_X4_holes p l e s m args below meth c Q dC dI cI cJ cB cZ A aR R_nodes R_arrows R_operators R_size R_elements res)   : ∀ (n : Nat) (x1 : Int32) (x2 : Int32) (x3 : Int32), m_X4_holes_4 R_size R_elements n x1 x2 x3 = some res → ∀ (H : Heap) (locs : List Loc), va_P (dC, dI) vwCl [((aR 0), .inr (4, [.ref (aR 1), .ref (aR 2), .ref (aR 3), .ref (aR 4), .ref (aR 5), .ref (aR 6), .ref (aR 7), .int R_nodes, .int R_arrows, .int R_operators])), ((aR 2), .inl (cI, 30, .inl R_size)), ((aR 7), .inl (cJ, 270, .inr (.inl R_elements)))] H → va_D A [((aR 0), .inr (4, [.ref (aR 1), .ref (aR 2), .ref (aR 3), .ref (aR 4), .ref (aR 5), .ref (aR 6), .ref (aR 7), .int R_nodes, .int R_arrows, .int R_operators])), ((aR 2), .inl (cI, 30, .inl R_size)), ((aR 7), .inl (cJ, 270, .inr (.inl R_elements)))] → va_S A s.heap H locs → ∀ (ls : Array Slot), lv_has ls 4 [(0, .ref (aR 0)), (1, .int x1), (2, .int x2), (3, .int x3)] → W p l e rm_X4_holes s m args below meth c H locs 0 0 Q (F0 m 4 ls []) := by
  obtain ⟨⟨hx, hb, hml, hown, hts⟩, hr, hlocks⟩ := id C0
  intro n
  induction n with
  | zero =>
    intro x1 x2 x3 hm
    exact absurd hm (by intro h; cases h)
  | succ n ih =>
    intro x1 x2 x3 hm H locs hP hD hS ls hl
    have hm : (gd x1 30 (if (R_size x1.toNatClampNeg) ≤ x3 then (some x2) else (Option.bind (m_X4_isHole R_elements x1 x3) (fun r_3 => if r_3 = 0 then (m_X4_holes_26 R_size R_elements (m_X4_holes_4 R_size R_elements n) x1 x2 x3) else (m_X4_holes_26 R_size R_elements (m_X4_holes_4 R_size R_elements n) x1 (x2 + 1) x3))))) = some res := hm
    refine lv_iload_n hx hb dX4_holes_4 rfl (lv_at hl 3 rfl) ?_
    refine lv_aload_n hx hb dX4_holes_5 rfl (lv_at hl 0 rfl) ?_
    refine va_get (D := (dC, dI)) (ci := 4) (v := .ref (aR 2)) (C := RX4) (T := TX4) (N := 10) hx hb hts X4_holes_inX4 hown hK hP 0 rfl rfl 1 (by decide) (hts (.fieldLink RX4 15 "MixfixDesk$Rules" "size" "[I") (by decide +kernel)) (fun _ h9 => h9) rfl dX4_holes_6 ?_
    refine lv_iload_n hx hb dX4_holes_9 rfl (lv_at hl 1 rfl) ?_
    obtain ⟨hi_1, hm⟩ := gd_some hm
    refine va_iald (D := (dC, dI)) hx hb hK hP 1 0 rfl rfl hi_1 dX4_holes_10 ?_
    refine lv_icmp_ge (tgt := 32) hx hb dX4_holes_11 (by decide) (fun c_2 => ?_) (fun c_2 => ?_)
    · have hm := it_some c_2 hm
      refine lv_iload_n hx hb dX4_holes_32 rfl (lv_at hl 2 rfl) ?_
      exact RET x2 hm _ H locs ls dX4_holes_33 hP hD hS
    · have hm := if_some' c_2 hm
      refine lv_aload_n hx hb dX4_holes_14 rfl (lv_at hl 0 rfl) ?_
      refine lv_iload_n hx hb dX4_holes_15 rfl (lv_at hl 1 rfl) ?_
      refine lv_iload_n hx hb dX4_holes_16 rfl (lv_at hl 3 rfl) ?_
      obtain ⟨r_3, hc_4, hm⟩ := ob_some hm
      refine cx_i (wr := [((aR 2), .inl (cI, 30, .inl R_size))]) (va_runV (As := [.int x1, .int x3]) (rest := []) C0.1 (c_X4_isHole l dC dI cI cJ cB cZ aR H.size R_nodes R_arrows R_operators R_elements x1 x3 r_3 hc_4) (cwV 2 hts gX4_holes_X4_isHole rfl rfl rfl (by decide +kernel) ⟨Nat.le_of_ble_eq_true rfl, Nat.le_of_ble_eq_true rfl⟩) (cP_V (ci := 4) (q0 := 0) hK hN hP hD rfl rfl [0, 2] (by decide) rfl) rfl rfl hl.1 rfl (lv_room (Nat.le_of_ble_eq_true rfl)) dX4_holes_17 ⟨Nat.le_of_ble_eq_true rfl, Nat.le_of_ble_eq_true rfl⟩) hP hD hS hA [0, 2] [1] rfl rfl (by decide) (by decide) (fun H locs hP hD hS => ?_)
      have hP : va_P (dC, dI) vwCl [((aR 2), .inl (cI, 30, .inl R_size)), ((aR 0), .inr (4, [.ref (aR 1), .ref (aR 2), .ref (aR 3), .ref (aR 4), .ref (aR 5), .ref (aR 6), .ref (aR 7), .int R_nodes, .int R_arrows, .int R_operators])), ((aR 7), .inl (cJ, 270, .inr (.inl R_elements)))] H := hP
      have hD : va_D A [((aR 2), .inl (cI, 30, .inl R_size)), ((aR 0), .inr (4, [.ref (aR 1), .ref (aR 2), .ref (aR 3), .ref (aR 4), .ref (aR 5), .ref (aR 6), .ref (aR 7), .int R_nodes, .int R_arrows, .int R_operators])), ((aR 7), .inl (cJ, 270, .inr (.inl R_elements)))] := hD
      refine lv_if_eq (tgt := 26) hx hb dX4_holes_20 (by decide) (fun c_5 => ?_) (fun c_5 => ?_)
      · have hm := it_some c_5 hm
        exact k_X4_holes_26 C0 hK hN hA aR R_nodes R_arrows R_operators R_size R_elements res RET (m_X4_holes_4 R_size R_elements n) ih x1 x2 x3 hm H locs (P_sub' hP [1, 0, 2] rfl) (hD.sub [1, 0, 2] (by decide) rfl) hS ls hl
      · have hm := if_some' c_5 hm
        refine lv_iinc (v := x2 + 1) (lv' := [(2, .int (x2 + 1)), (0, .ref (aR 0)), (1, .int x1), (3, .int x3)]) hx hb dX4_holes_23 hl (k := 2) rfl rfl (by decide) rfl (fun ls hl => ?_)
        exact k_X4_holes_26 C0 hK hN hA aR R_nodes R_arrows R_operators R_size R_elements res RET (m_X4_holes_4 R_size R_elements n) ih x1 (x2 + 1) x3 hm H locs (P_sub' hP [1, 0, 2] rfl) (hD.sub [1, 0, 2] (by decide) rfl) hS ls (lv_sub hl [1, 2, 0, 3] rfl)
set_option maxHeartbeats 4000000 in
set_option maxRecDepth 100000 in
theorem k_X4_holes_E {p : Program} {l : Launch} {e : Env} {s : State} {m : MethodId} {args : Array Value} {below : List Frame} {meth : Method} {c : Code} {Q : State → Prop} {dC : Nat → ClassId} {dI : Nat → Nat → Nat} {cI cJ cB cZ : ClassId} {A : Nat → Prop} (C0 : Cx p s m meth c args cX4_holes 4 (some .int) wsX4_holes RX4) (hK : va_K (dC, dI) vwCl [(cI, .int), (cJ, .long), (cB, .byte), (cZ, .boolean)] s) (hN : NW s) (hA : ∀ q, s.heap.size ≤ q → A q) (aR : Nat → Nat) (R_nodes : Int32) (R_arrows : Int32) (R_operators : Int32) (R_size : Nat → Int32) (R_elements : Nat → Int64) (res : Int32) (RET : RT_X4_holes p l e s m args below meth c Q dC dI cI cJ cB cZ A aR R_nodes R_arrows R_operators R_size R_elements res) : ∀ (p0 : Int32), m_X4_holes R_size R_elements p0 = some res → ∀ (H : Heap) (locs : List Loc), va_P (dC, dI) vwCl [((aR 0), .inr (4, [.ref (aR 1), .ref (aR 2), .ref (aR 3), .ref (aR 4), .ref (aR 5), .ref (aR 6), .ref (aR 7), .int R_nodes, .int R_arrows, .int R_operators])), ((aR 2), .inl (cI, 30, .inl R_size)), ((aR 7), .inl (cJ, 270, .inr (.inl R_elements)))] H → va_D A [((aR 0), .inr (4, [.ref (aR 1), .ref (aR 2), .ref (aR 3), .ref (aR 4), .ref (aR 5), .ref (aR 6), .ref (aR 7), .int R_nodes, .int R_arrows, .int R_operators])), ((aR 2), .inl (cI, 30, .inl R_size)), ((aR 7), .inl (cJ, 270, .inr (.inl R_elements)))] → va_S A s.heap H locs → ∀ (ls : Array Slot), lv_has ls 4 [(0, .ref (aR 0)), (1, .int p0)] → W p l e rm_X4_holes s m args below meth c H locs 0 0 Q (F0 m 0 ls []) := by
  obtain ⟨⟨hx, hb, hml, hown, hts⟩, hr, hlocks⟩ := id C0
  intro p0 hm H locs hP hD hS ls hl
  have hm : (m_X4_holes_4 R_size R_elements FU p0 0 0) = some res := hm
  refine lv_iconst (v := 0) hx hb dX4_holes_0 (by decide) ?_
  refine lv_istore_n (lv' := [(2, .int 0), (0, .ref (aR 0)), (1, .int p0)]) hx hb dX4_holes_1 rfl hl (by decide) rfl (fun ls hl => ?_)
  refine lv_iconst (v := 0) hx hb dX4_holes_2 (by decide) ?_
  refine lv_istore_n (lv' := [(3, .int 0), (2, .int 0), (0, .ref (aR 0)), (1, .int p0)]) hx hb dX4_holes_3 rfl hl (by decide) rfl (fun ls hl => ?_)
  exact k_X4_holes_4 C0 hK hN hA aR R_nodes R_arrows R_operators R_size R_elements res RET FU p0 0 0 hm H locs hP hD hS ls (lv_sub hl [2, 3, 1, 0] rfl)
set_option maxHeartbeats 4000000 in
set_option maxRecDepth 100000 in
theorem c_X4_holes (l : Launch) (dC : Nat → ClassId) (dI : Nat → Nat → Nat) (cI cJ cB cZ : ClassId) (aR : Nat → Nat) (sz : Nat) (R_nodes : Int32) (R_arrows : Int32) (R_operators : Int32) (R_size : Nat → Int32) (R_elements : Nat → Int64) (p0 : Int32) (res : Int32) (hm : m_X4_holes R_size R_elements p0 = some res) : Met l yX4_holes wsX4_holes rm_X4_holes (cP (dC, dI) vwCl [(cI, .int), (cJ, .long), (cB, .byte), (cZ, .boolean)] [.ref (aR 0), .int p0] [((aR 0), .inr (4, [.ref (aR 1), .ref (aR 2), .ref (aR 3), .ref (aR 4), .ref (aR 5), .ref (aR 6), .ref (aR 7), .int R_nodes, .int R_arrows, .int R_operators])), ((aR 2), .inl (cI, 30, .inl R_size)), ((aR 7), .inl (cJ, 270, .inr (.inl R_elements)))] sz) (cQi res (dC, dI) vwCl [((aR 0), .inr (4, [.ref (aR 1), .ref (aR 2), .ref (aR 3), .ref (aR 4), .ref (aR 5), .ref (aR 6), .ref (aR 7), .int R_nodes, .int R_arrows, .int R_operators])), ((aR 2), .inl (cI, 30, .inl R_size)), ((aR 7), .inl (cJ, 270, .inr (.inl R_elements)))] [((aR 0), .inr (4, [.ref (aR 1), .ref (aR 2), .ref (aR 3), .ref (aR 4), .ref (aR 5), .ref (aR 6), .ref (aR 7), .int R_nodes, .int R_arrows, .int R_operators])), ((aR 2), .inl (cI, 30, .inl R_size)), ((aR 7), .inl (cJ, 270, .inr (.inl R_elements)))] sz) 0 0 (va_A [((aR 0), .inr (4, [.ref (aR 1), .ref (aR 2), .ref (aR 3), .ref (aR 4), .ref (aR 5), .ref (aR 6), .ref (aR 7), .int R_nodes, .int R_arrows, .int R_operators])), ((aR 2), .inl (cI, 30, .inl R_size)), ((aR 7), .inl (cJ, 270, .inr (.inl R_elements)))] sz) := by
  refine cx_of (cc := cX4_holes) (maxL := 4) (ret := (some .int)) (own := RX4) (by decide) rfl rfl (Nat.le_of_ble_eq_true rfl) ?_
  intro p e s m below meth c A C0 hinN hK hN hsz hAe hA hP hD hS ls hl
  refine k_X4_holes_E C0 hK hN hA aR R_nodes R_arrows R_operators R_size R_elements res ?_ p0 hm _ _ hP hD hS ls hl
  intro v he pc H locs ls hdg hP hD hS
  have he := Option.some.inj he
  subst he
  exact cx_reti C0 hsz hAe hdg hP hD hS

set_option maxRecDepth 20000 in
theorem ggX4_kind_X4_isHole : GoodIn wsX4_kind wsX4_isHole := goodIn_r _ [6, 7, 8, 9, 10, 11, 12, 13, 14, 15, 16, 17, 18] (by decide +kernel) (by decide +kernel)
set_option maxRecDepth 20000 in
theorem gX4_kind_X4_isHole : GoodIn wsX4_kind (wsV RX4 46 RX4 yX4_isHole wsX4_isHole) := goodIn_app (goodIn_of _ (by decide +kernel)) ggX4_kind_X4_isHole
theorem dX4_kind_0 : decode cX4_kind 0 = .ok (.aload_n 0, 1) := by decide +kernel
theorem dX4_kind_1 : decode cX4_kind 1 = .ok (.iload_n 1, 1) := by decide +kernel
theorem dX4_kind_2 : decode cX4_kind 2 = .ok (.iconst 0, 1) := by decide +kernel
theorem dX4_kind_3 : decode cX4_kind 3 = .ok (.invokevirtual 46, 3) := by decide +kernel
theorem dX4_kind_6 : decode cX4_kind 6 = .ok (.istore_n 2, 1) := by decide +kernel
theorem dX4_kind_7 : decode cX4_kind 7 = .ok (.aload_n 0, 1) := by decide +kernel
theorem dX4_kind_8 : decode cX4_kind 8 = .ok (.iload_n 1, 1) := by decide +kernel
theorem dX4_kind_9 : decode cX4_kind 9 = .ok (.aload_n 0, 1) := by decide +kernel
theorem dX4_kind_10 : decode cX4_kind 10 = .ok (.getfield 15, 3) := by decide +kernel
theorem dX4_kind_13 : decode cX4_kind 13 = .ok (.iload_n 1, 1) := by decide +kernel
theorem dX4_kind_14 : decode cX4_kind 14 = .ok (.iaload, 1) := by decide +kernel
theorem dX4_kind_15 : decode cX4_kind 15 = .ok (.iconst 1, 1) := by decide +kernel
theorem dX4_kind_16 : decode cX4_kind 16 = .ok (.isub, 1) := by decide +kernel
theorem dX4_kind_17 : decode cX4_kind 17 = .ok (.invokevirtual 46, 3) := by decide +kernel
theorem dX4_kind_20 : decode cX4_kind 20 = .ok (.istore_n 3, 1) := by decide +kernel
theorem dX4_kind_21 : decode cX4_kind 21 = .ok (.iload_n 2, 1) := by decide +kernel
theorem dX4_kind_22 : decode cX4_kind 22 = .ok (.ifCond .eq 13, 3) := by decide +kernel
theorem dX4_kind_25 : decode cX4_kind 25 = .ok (.iload_n 3, 1) := by decide +kernel
theorem dX4_kind_26 : decode cX4_kind 26 = .ok (.ifCond .eq 7, 3) := by decide +kernel
theorem dX4_kind_29 : decode cX4_kind 29 = .ok (.iconst 3, 1) := by decide +kernel
theorem dX4_kind_30 : decode cX4_kind 30 = .ok (.goto 4, 3) := by decide +kernel
theorem dX4_kind_33 : decode cX4_kind 33 = .ok (.iconst 2, 1) := by decide +kernel
theorem dX4_kind_34 : decode cX4_kind 34 = .ok (.ireturn, 1) := by decide +kernel
theorem dX4_kind_35 : decode cX4_kind 35 = .ok (.iload_n 3, 1) := by decide +kernel
theorem dX4_kind_36 : decode cX4_kind 36 = .ok (.ifCond .eq 7, 3) := by decide +kernel
theorem dX4_kind_39 : decode cX4_kind 39 = .ok (.iconst 1, 1) := by decide +kernel
theorem dX4_kind_40 : decode cX4_kind 40 = .ok (.goto 4, 3) := by decide +kernel
theorem dX4_kind_43 : decode cX4_kind 43 = .ok (.iconst 0, 1) := by decide +kernel
theorem dX4_kind_44 : decode cX4_kind 44 = .ok (.ireturn, 1) := by decide +kernel
/-! MixfixDesk$Rules.kind(I)I -/
abbrev rm_X4_kind : Room := { frames := 1, cells := 0, slots := 0, locals := 22 }
theorem X4_kind_inX4 : ∀ w ∈ wsX40, w ∈ wsX4_kind := by decide +kernel
abbrev RT_X4_kind (p : Program) (l : Launch) (e : Env) (s : State) (m : MethodId) (args : Array Value) (below : List Frame) (meth : Method) (c : Code) (Q : State → Prop) (dC : Nat → ClassId) (dI : Nat → Nat → Nat) (cI cJ cB cZ : ClassId) (A : Nat → Prop) (aR : Nat → Nat) (R_nodes : Int32) (R_arrows : Int32) (R_operators : Int32) (R_size : Nat → Int32) (R_elements : Nat → Int64) (res : Int32) : Prop := ∀ (v : Int32) , some v = some res → ∀ (pc : Nat) (H : Heap) (locs : List Loc) (ls : Array Slot), decode cX4_kind pc = .ok (.ireturn, 1) → va_P (dC, dI) vwCl [((aR 0), .inr (4, [.ref (aR 1), .ref (aR 2), .ref (aR 3), .ref (aR 4), .ref (aR 5), .ref (aR 6), .ref (aR 7), .int R_nodes, .int R_arrows, .int R_operators])), ((aR 2), .inl (cI, 30, .inl R_size)), ((aR 7), .inl (cJ, 270, .inr (.inl R_elements)))] H → va_D A [((aR 0), .inr (4, [.ref (aR 1), .ref (aR 2), .ref (aR 3), .ref (aR 4), .ref (aR 5), .ref (aR 6), .ref (aR 7), .int R_nodes, .int R_arrows, .int R_operators])), ((aR 2), .inl (cI, 30, .inl R_size)), ((aR 7), .inl (cJ, 270, .inr (.inl R_elements)))] → va_S A s.heap H locs → W p l e rm_X4_kind s m args below meth c H locs 0 0 Q (F0 m pc ls [.int v])
set_option maxHeartbeats 4000000 in
set_option maxRecDepth 100000 in
theorem k_X4_kind_E {p : Program} {l : Launch} {e : Env} {s : State} {m : MethodId} {args : Array Value} {below : List Frame} {meth : Method} {c : Code} {Q : State → Prop} {dC : Nat → ClassId} {dI : Nat → Nat → Nat} {cI cJ cB cZ : ClassId} {A : Nat → Prop} (C0 : Cx p s m meth c args cX4_kind 4 (some .int) wsX4_kind RX4) (hK : va_K (dC, dI) vwCl [(cI, .int), (cJ, .long), (cB, .byte), (cZ, .boolean)] s) (hN : NW s) (hA : ∀ q, s.heap.size ≤ q → A q) (aR : Nat → Nat) (R_nodes : Int32) (R_arrows : Int32) (R_operators : Int32) (R_size : Nat → Int32) (R_elements : Nat → Int64) (res : Int32) (RET : RT_X4_kind p l e s m args below meth c Q dC dI cI cJ cB cZ A aR R_nodes R_arrows R_operators R_size R_elements res) : ∀ (p0 : Int32), m_X4_kind R_size R_elements p0 = some res → ∀ (H : Heap) (locs : List Loc), va_P (dC, dI) vwCl [((aR 0), .inr (4, [.ref (aR 1), .ref (aR 2), .ref (aR 3), .ref (aR 4), .ref (aR 5), .ref (aR 6), .ref (aR 7), .int R_nodes, .int R_arrows, .int R_operators])), ((aR 2), .inl (cI, 30, .inl R_size)), ((aR 7), .inl (cJ, 270, .inr (.inl R_elements)))] H → va_D A [((aR 0), .inr (4, [.ref (aR 1), .ref (aR 2), .ref (aR 3), .ref (aR 4), .ref (aR 5), .ref (aR 6), .ref (aR 7), .int R_nodes, .int R_arrows, .int R_operators])), ((aR 2), .inl (cI, 30, .inl R_size)), ((aR 7), .inl (cJ, 270, .inr (.inl R_elements)))] → va_S A s.heap H locs → ∀ (ls : Array Slot), lv_has ls 4 [(0, .ref (aR 0)), (1, .int p0)] → W p l e rm_X4_kind s m args below meth c H locs 0 0 Q (F0 m 0 ls []) := by
  obtain ⟨⟨hx, hb, hml, hown, hts⟩, hr, hlocks⟩ := id C0
  intro p0 hm H locs hP hD hS ls hl
  have hm : (Option.bind (m_X4_isHole R_elements p0 0) (fun r_1 => gd p0 30 (Option.bind (m_X4_isHole R_elements p0 ((R_size p0.toNatClampNeg) - 1)) (fun r_4 => if r_1 = 0 then (if r_4 = 0 then (some 0) else (some 1)) else (if r_4 = 0 then (some 2) else (some 3)))))) = some res := hm
  refine lv_aload_n hx hb dX4_kind_0 rfl (lv_at hl 0 rfl) ?_
  refine lv_iload_n hx hb dX4_kind_1 rfl (lv_at hl 1 rfl) ?_
  refine lv_iconst (v := 0) hx hb dX4_kind_2 (by decide) ?_
  obtain ⟨r_1, hc_2, hm⟩ := ob_some hm
  refine cx_i (wr := [((aR 2), .inl (cI, 30, .inl R_size))]) (va_runV (As := [.int p0, .int 0]) (rest := []) C0.1 (c_X4_isHole l dC dI cI cJ cB cZ aR H.size R_nodes R_arrows R_operators R_elements p0 0 r_1 hc_2) (cwV 2 hts gX4_kind_X4_isHole rfl rfl rfl (by decide +kernel) ⟨Nat.le_of_ble_eq_true rfl, Nat.le_of_ble_eq_true rfl⟩) (cP_V (ci := 4) (q0 := 0) hK hN hP hD rfl rfl [0, 2] (by decide) rfl) rfl rfl hl.1 rfl (lv_room (Nat.le_of_ble_eq_true rfl)) dX4_kind_3 ⟨Nat.le_of_ble_eq_true rfl, Nat.le_of_ble_eq_true rfl⟩) hP hD hS hA [0, 2] [1] rfl rfl (by decide) (by decide) (fun H locs hP hD hS => ?_)
  have hP : va_P (dC, dI) vwCl [((aR 2), .inl (cI, 30, .inl R_size)), ((aR 0), .inr (4, [.ref (aR 1), .ref (aR 2), .ref (aR 3), .ref (aR 4), .ref (aR 5), .ref (aR 6), .ref (aR 7), .int R_nodes, .int R_arrows, .int R_operators])), ((aR 7), .inl (cJ, 270, .inr (.inl R_elements)))] H := hP
  have hD : va_D A [((aR 2), .inl (cI, 30, .inl R_size)), ((aR 0), .inr (4, [.ref (aR 1), .ref (aR 2), .ref (aR 3), .ref (aR 4), .ref (aR 5), .ref (aR 6), .ref (aR 7), .int R_nodes, .int R_arrows, .int R_operators])), ((aR 7), .inl (cJ, 270, .inr (.inl R_elements)))] := hD
  refine lv_istore_n (lv' := [(2, .int r_1), (0, .ref (aR 0)), (1, .int p0)]) hx hb dX4_kind_6 rfl hl (by decide) rfl (fun ls hl => ?_)
  refine lv_aload_n hx hb dX4_kind_7 rfl (lv_at hl 1 rfl) ?_
  refine lv_iload_n hx hb dX4_kind_8 rfl (lv_at hl 2 rfl) ?_
  refine lv_aload_n hx hb dX4_kind_9 rfl (lv_at hl 1 rfl) ?_
  refine va_get (D := (dC, dI)) (ci := 4) (v := .ref (aR 2)) (C := RX4) (T := TX4) (N := 10) hx hb hts X4_kind_inX4 hown hK hP 1 rfl rfl 1 (by decide) (hts (.fieldLink RX4 15 "MixfixDesk$Rules" "size" "[I") (by decide +kernel)) (fun _ h9 => h9) rfl dX4_kind_10 ?_
  refine lv_iload_n hx hb dX4_kind_13 rfl (lv_at hl 2 rfl) ?_
  obtain ⟨hi_3, hm⟩ := gd_some hm
  refine va_iald (D := (dC, dI)) hx hb hK hP 0 0 rfl rfl hi_3 dX4_kind_14 ?_
  refine lv_iconst (v := 1) hx hb dX4_kind_15 (by decide) ?_
  refine lv_isub hx hb dX4_kind_16 ?_
  obtain ⟨r_4, hc_5, hm⟩ := ob_some hm
  refine cx_i (wr := [((aR 2), .inl (cI, 30, .inl R_size))]) (va_runV (As := [.int p0, .int ((R_size p0.toNatClampNeg) - 1)]) (rest := []) C0.1 (c_X4_isHole l dC dI cI cJ cB cZ aR H.size R_nodes R_arrows R_operators R_elements p0 ((R_size p0.toNatClampNeg) - 1) r_4 hc_5) (cwV 2 hts gX4_kind_X4_isHole rfl rfl rfl (by decide +kernel) ⟨Nat.le_of_ble_eq_true rfl, Nat.le_of_ble_eq_true rfl⟩) (cP_V (ci := 4) (q0 := 1) hK hN hP hD rfl rfl [1, 2] (by decide) rfl) rfl rfl hl.1 rfl (lv_room (Nat.le_of_ble_eq_true rfl)) dX4_kind_17 ⟨Nat.le_of_ble_eq_true rfl, Nat.le_of_ble_eq_true rfl⟩) hP hD hS hA [1, 2] [0] rfl rfl (by decide) (by decide) (fun H locs hP hD hS => ?_)
  have hP : va_P (dC, dI) vwCl [((aR 2), .inl (cI, 30, .inl R_size)), ((aR 0), .inr (4, [.ref (aR 1), .ref (aR 2), .ref (aR 3), .ref (aR 4), .ref (aR 5), .ref (aR 6), .ref (aR 7), .int R_nodes, .int R_arrows, .int R_operators])), ((aR 7), .inl (cJ, 270, .inr (.inl R_elements)))] H := hP
  have hD : va_D A [((aR 2), .inl (cI, 30, .inl R_size)), ((aR 0), .inr (4, [.ref (aR 1), .ref (aR 2), .ref (aR 3), .ref (aR 4), .ref (aR 5), .ref (aR 6), .ref (aR 7), .int R_nodes, .int R_arrows, .int R_operators])), ((aR 7), .inl (cJ, 270, .inr (.inl R_elements)))] := hD
  refine lv_istore_n (lv' := [(3, .int r_4), (2, .int r_1), (0, .ref (aR 0)), (1, .int p0)]) hx hb dX4_kind_20 rfl hl (by decide) rfl (fun ls hl => ?_)
  refine lv_iload_n hx hb dX4_kind_21 rfl (lv_at hl 1 rfl) ?_
  refine lv_if_eq (tgt := 35) hx hb dX4_kind_22 (by decide) (fun c_6 => ?_) (fun c_6 => ?_)
  · have hm := it_some c_6 hm
    refine lv_iload_n hx hb dX4_kind_35 rfl (lv_at hl 0 rfl) ?_
    refine lv_if_eq (tgt := 43) hx hb dX4_kind_36 (by decide) (fun c_7 => ?_) (fun c_7 => ?_)
    · have hm := it_some c_7 hm
      refine lv_iconst (v := 0) hx hb dX4_kind_43 (by decide) ?_
      exact RET 0 hm _ H locs ls dX4_kind_44 (P_sub' hP [1, 0, 2] rfl) (hD.sub [1, 0, 2] (by decide) rfl) hS
    · have hm := if_some' c_7 hm
      refine lv_iconst (v := 1) hx hb dX4_kind_39 (by decide) ?_
      refine lv_goto (tgt := 44) hx hb dX4_kind_40 (by decide) ?_
      exact RET 1 hm _ H locs ls dX4_kind_44 (P_sub' hP [1, 0, 2] rfl) (hD.sub [1, 0, 2] (by decide) rfl) hS
  · have hm := if_some' c_6 hm
    refine lv_iload_n hx hb dX4_kind_25 rfl (lv_at hl 0 rfl) ?_
    refine lv_if_eq (tgt := 33) hx hb dX4_kind_26 (by decide) (fun c_8 => ?_) (fun c_8 => ?_)
    · have hm := it_some c_8 hm
      refine lv_iconst (v := 2) hx hb dX4_kind_33 (by decide) ?_
      exact RET 2 hm _ H locs ls dX4_kind_34 (P_sub' hP [1, 0, 2] rfl) (hD.sub [1, 0, 2] (by decide) rfl) hS
    · have hm := if_some' c_8 hm
      refine lv_iconst (v := 3) hx hb dX4_kind_29 (by decide) ?_
      refine lv_goto (tgt := 34) hx hb dX4_kind_30 (by decide) ?_
      exact RET 3 hm _ H locs ls dX4_kind_34 (P_sub' hP [1, 0, 2] rfl) (hD.sub [1, 0, 2] (by decide) rfl) hS
set_option maxHeartbeats 4000000 in
set_option maxRecDepth 100000 in
theorem c_X4_kind (l : Launch) (dC : Nat → ClassId) (dI : Nat → Nat → Nat) (cI cJ cB cZ : ClassId) (aR : Nat → Nat) (sz : Nat) (R_nodes : Int32) (R_arrows : Int32) (R_operators : Int32) (R_size : Nat → Int32) (R_elements : Nat → Int64) (p0 : Int32) (res : Int32) (hm : m_X4_kind R_size R_elements p0 = some res) : Met l yX4_kind wsX4_kind rm_X4_kind (cP (dC, dI) vwCl [(cI, .int), (cJ, .long), (cB, .byte), (cZ, .boolean)] [.ref (aR 0), .int p0] [((aR 0), .inr (4, [.ref (aR 1), .ref (aR 2), .ref (aR 3), .ref (aR 4), .ref (aR 5), .ref (aR 6), .ref (aR 7), .int R_nodes, .int R_arrows, .int R_operators])), ((aR 2), .inl (cI, 30, .inl R_size)), ((aR 7), .inl (cJ, 270, .inr (.inl R_elements)))] sz) (cQi res (dC, dI) vwCl [((aR 0), .inr (4, [.ref (aR 1), .ref (aR 2), .ref (aR 3), .ref (aR 4), .ref (aR 5), .ref (aR 6), .ref (aR 7), .int R_nodes, .int R_arrows, .int R_operators])), ((aR 2), .inl (cI, 30, .inl R_size)), ((aR 7), .inl (cJ, 270, .inr (.inl R_elements)))] [((aR 0), .inr (4, [.ref (aR 1), .ref (aR 2), .ref (aR 3), .ref (aR 4), .ref (aR 5), .ref (aR 6), .ref (aR 7), .int R_nodes, .int R_arrows, .int R_operators])), ((aR 2), .inl (cI, 30, .inl R_size)), ((aR 7), .inl (cJ, 270, .inr (.inl R_elements)))] sz) 0 0 (va_A [((aR 0), .inr (4, [.ref (aR 1), .ref (aR 2), .ref (aR 3), .ref (aR 4), .ref (aR 5), .ref (aR 6), .ref (aR 7), .int R_nodes, .int R_arrows, .int R_operators])), ((aR 2), .inl (cI, 30, .inl R_size)), ((aR 7), .inl (cJ, 270, .inr (.inl R_elements)))] sz) := by
  refine cx_of (cc := cX4_kind) (maxL := 4) (ret := (some .int)) (own := RX4) (by decide) rfl rfl (Nat.le_of_ble_eq_true rfl) ?_
  intro p e s m below meth c A C0 hinN hK hN hsz hAe hA hP hD hS ls hl
  refine k_X4_kind_E C0 hK hN hA aR R_nodes R_arrows R_operators R_size R_elements res ?_ p0 hm _ _ hP hD hS ls hl
  intro v he pc H locs ls hdg hP hD hS
  have he := Option.some.inj he
  subst he
  exact cx_reti C0 hsz hAe hdg hP hD hS

set_option maxRecDepth 20000 in
theorem ggX4_empty_J7_fill_53178 : GoodIn wsX4_empty wsJ7_fill_53178 := goodIn_r _ [8] (by decide +kernel) (by decide +kernel)
set_option maxRecDepth 20000 in
theorem gX4_empty_J7_fill_53178 : GoodIn wsX4_empty (va_wsS RX4 50 yJ7_fill_53178 wsJ7_fill_53178) := goodIn_app (goodIn_of _ (by decide +kernel)) ggX4_empty_J7_fill_53178
theorem dX4_empty_0 : decode cX4_empty 0 = .ok (.aload_n 0, 1) := by decide +kernel
theorem dX4_empty_1 : decode cX4_empty 1 = .ok (.iconst 0, 1) := by decide +kernel
theorem dX4_empty_2 : decode cX4_empty 2 = .ok (.putfield 34, 3) := by decide +kernel
theorem dX4_empty_5 : decode cX4_empty 5 = .ok (.aload_n 0, 1) := by decide +kernel
theorem dX4_empty_6 : decode cX4_empty 6 = .ok (.iconst 0, 1) := by decide +kernel
theorem dX4_empty_7 : decode cX4_empty 7 = .ok (.putfield 38, 3) := by decide +kernel
theorem dX4_empty_10 : decode cX4_empty 10 = .ok (.aload_n 0, 1) := by decide +kernel
theorem dX4_empty_11 : decode cX4_empty 11 = .ok (.iconst 0, 1) := by decide +kernel
theorem dX4_empty_12 : decode cX4_empty 12 = .ok (.putfield 41, 3) := by decide +kernel
theorem dX4_empty_15 : decode cX4_empty 15 = .ok (.aload_n 0, 1) := by decide +kernel
theorem dX4_empty_16 : decode cX4_empty 16 = .ok (.getfield 9, 3) := by decide +kernel
theorem dX4_empty_19 : decode cX4_empty 19 = .ok (.iconst 0, 1) := by decide +kernel
theorem dX4_empty_20 : decode cX4_empty 20 = .ok (.invokestatic 50, 3) := by decide +kernel
theorem dX4_empty_23 : decode cX4_empty 23 = .ok (.return_, 1) := by decide +kernel
/-! MixfixDesk$Rules.empty()V -/
abbrev rm_X4_empty : Room := { frames := 1, cells := 0, slots := 0, locals := 23 }
theorem X4_empty_inX4 : ∀ w ∈ wsX40, w ∈ wsX4_empty := by decide +kernel
abbrev RT_X4_empty (p : Program) (l : Launch) (e : Env) (s : State) (m : MethodId) (args : Array Value) (below : List Frame) (meth : Method) (c : Code) (Q : State → Prop) (dC : Nat → ClassId) (dI : Nat → Nat → Nat) (cI cJ cB cZ : ClassId) (A : Nat → Prop) (aR : Nat → Nat) (res : (Nat → Int32) × Int32 × Int32 × Int32) : Prop := ∀ (R_tighter : Nat → Int32) (R_nodes : Int32) (R_arrows : Int32) (R_operators : Int32), some (R_tighter, R_nodes, R_arrows, R_operators) = some res → ∀ (pc : Nat) (H : Heap) (locs : List Loc) (ls : Array Slot), decode cX4_empty pc = .ok (.return_, 1) → va_P (dC, dI) vwCl [((aR 0), .inr (4, [.ref (aR 1), .ref (aR 2), .ref (aR 3), .ref (aR 4), .ref (aR 5), .ref (aR 6), .ref (aR 7), .int R_nodes, .int R_arrows, .int R_operators])), ((aR 1), .inl (cI, 16, .inl R_tighter))] H → va_D A [((aR 0), .inr (4, [.ref (aR 1), .ref (aR 2), .ref (aR 3), .ref (aR 4), .ref (aR 5), .ref (aR 6), .ref (aR 7), .int R_nodes, .int R_arrows, .int R_operators])), ((aR 1), .inl (cI, 16, .inl R_tighter))] → va_S A s.heap H locs → W p l e rm_X4_empty s m args below meth c H locs 0 0 Q (F0 m pc ls [])
set_option maxHeartbeats 4000000 in
set_option maxRecDepth 100000 in
theorem k_X4_empty_E {p : Program} {l : Launch} {e : Env} {s : State} {m : MethodId} {args : Array Value} {below : List Frame} {meth : Method} {c : Code} {Q : State → Prop} {dC : Nat → ClassId} {dI : Nat → Nat → Nat} {cI cJ cB cZ : ClassId} {A : Nat → Prop} (C0 : Cx p s m meth c args cX4_empty 1 none wsX4_empty RX4) (hK : va_K (dC, dI) vwCl [(cI, .int), (cJ, .long), (cB, .byte), (cZ, .boolean)] s) (hN : NW s) (hA : ∀ q, s.heap.size ≤ q → A q) (aR : Nat → Nat) (res : (Nat → Int32) × Int32 × Int32 × Int32) (RET : RT_X4_empty p l e s m args below meth c Q dC dI cI cJ cB cZ A aR res) : ∀ (R_tighter : Nat → Int32) (R_nodes : Int32) (R_arrows : Int32) (R_operators : Int32), m_X4_empty R_tighter R_nodes R_arrows R_operators = some res → ∀ (H : Heap) (locs : List Loc), va_P (dC, dI) vwCl [((aR 0), .inr (4, [.ref (aR 1), .ref (aR 2), .ref (aR 3), .ref (aR 4), .ref (aR 5), .ref (aR 6), .ref (aR 7), .int R_nodes, .int R_arrows, .int R_operators])), ((aR 1), .inl (cI, 16, .inl R_tighter))] H → va_D A [((aR 0), .inr (4, [.ref (aR 1), .ref (aR 2), .ref (aR 3), .ref (aR 4), .ref (aR 5), .ref (aR 6), .ref (aR 7), .int R_nodes, .int R_arrows, .int R_operators])), ((aR 1), .inl (cI, 16, .inl R_tighter))] → va_S A s.heap H locs → ∀ (ls : Array Slot), lv_has ls 1 [(0, .ref (aR 0))] → W p l e rm_X4_empty s m args below meth c H locs 0 0 Q (F0 m 0 ls []) := by
  obtain ⟨⟨hx, hb, hml, hown, hts⟩, hr, hlocks⟩ := id C0
  intro R_tighter R_nodes R_arrows R_operators hm H locs hP hD hS ls hl
  have hm : (Option.bind (m_J7_fill_53178 16 R_tighter 0) (fun r_1 => some (r_1, 0, 0, 0))) = some res := hm
  refine lv_aload_n hx hb dX4_empty_0 rfl (lv_at hl 0 rfl) ?_
  refine lv_iconst (v := 0) hx hb dX4_empty_1 (by decide) ?_
  refine va_put (D := (dC, dI)) (ci := 4) (v := .int 0) (ty := .int) (C := RX4) (T := TX4) (N := 10) hx hb hts X4_empty_inX4 tyX4 tyX4_ok nmX4 hown hK hP hD hS 0 rfl rfl 7 (by decide) (hts (.fieldLink RX4 34 "MixfixDesk$Rules" "nodes" "I") (by decide +kernel)) (fun _ h9 => h9) rfl (by decide +kernel) rfl rfl (Nat.le_of_ble_eq_true rfl) dX4_empty_2 (fun H locs hP hD hS => ?_)
  have hP : va_P (dC, dI) vwCl [((aR 0), .inr (4, [.ref (aR 1), .ref (aR 2), .ref (aR 3), .ref (aR 4), .ref (aR 5), .ref (aR 6), .ref (aR 7), .int 0, .int R_arrows, .int R_operators])), ((aR 1), .inl (cI, 16, .inl R_tighter))] H := hP
  have hD : va_D A [((aR 0), .inr (4, [.ref (aR 1), .ref (aR 2), .ref (aR 3), .ref (aR 4), .ref (aR 5), .ref (aR 6), .ref (aR 7), .int 0, .int R_arrows, .int R_operators])), ((aR 1), .inl (cI, 16, .inl R_tighter))] := hD
  refine lv_aload_n hx hb dX4_empty_5 rfl (lv_at hl 0 rfl) ?_
  refine lv_iconst (v := 0) hx hb dX4_empty_6 (by decide) ?_
  refine va_put (D := (dC, dI)) (ci := 4) (v := .int 0) (ty := .int) (C := RX4) (T := TX4) (N := 10) hx hb hts X4_empty_inX4 tyX4 tyX4_ok nmX4 hown hK hP hD hS 0 rfl rfl 8 (by decide) (hts (.fieldLink RX4 38 "MixfixDesk$Rules" "arrows" "I") (by decide +kernel)) (fun _ h9 => h9) rfl (by decide +kernel) rfl rfl (Nat.le_of_ble_eq_true rfl) dX4_empty_7 (fun H locs hP hD hS => ?_)
  have hP : va_P (dC, dI) vwCl [((aR 0), .inr (4, [.ref (aR 1), .ref (aR 2), .ref (aR 3), .ref (aR 4), .ref (aR 5), .ref (aR 6), .ref (aR 7), .int 0, .int 0, .int R_operators])), ((aR 1), .inl (cI, 16, .inl R_tighter))] H := hP
  have hD : va_D A [((aR 0), .inr (4, [.ref (aR 1), .ref (aR 2), .ref (aR 3), .ref (aR 4), .ref (aR 5), .ref (aR 6), .ref (aR 7), .int 0, .int 0, .int R_operators])), ((aR 1), .inl (cI, 16, .inl R_tighter))] := hD
  refine lv_aload_n hx hb dX4_empty_10 rfl (lv_at hl 0 rfl) ?_
  refine lv_iconst (v := 0) hx hb dX4_empty_11 (by decide) ?_
  refine va_put (D := (dC, dI)) (ci := 4) (v := .int 0) (ty := .int) (C := RX4) (T := TX4) (N := 10) hx hb hts X4_empty_inX4 tyX4 tyX4_ok nmX4 hown hK hP hD hS 0 rfl rfl 9 (by decide) (hts (.fieldLink RX4 41 "MixfixDesk$Rules" "operators" "I") (by decide +kernel)) (fun _ h9 => h9) rfl (by decide +kernel) rfl rfl (Nat.le_of_ble_eq_true rfl) dX4_empty_12 (fun H locs hP hD hS => ?_)
  have hP : va_P (dC, dI) vwCl [((aR 0), .inr (4, [.ref (aR 1), .ref (aR 2), .ref (aR 3), .ref (aR 4), .ref (aR 5), .ref (aR 6), .ref (aR 7), .int 0, .int 0, .int 0])), ((aR 1), .inl (cI, 16, .inl R_tighter))] H := hP
  have hD : va_D A [((aR 0), .inr (4, [.ref (aR 1), .ref (aR 2), .ref (aR 3), .ref (aR 4), .ref (aR 5), .ref (aR 6), .ref (aR 7), .int 0, .int 0, .int 0])), ((aR 1), .inl (cI, 16, .inl R_tighter))] := hD
  refine lv_aload_n hx hb dX4_empty_15 rfl (lv_at hl 0 rfl) ?_
  refine va_get (D := (dC, dI)) (ci := 4) (v := .ref (aR 1)) (C := RX4) (T := TX4) (N := 10) hx hb hts X4_empty_inX4 hown hK hP 0 rfl rfl 0 (by decide) (hts (.fieldLink RX4 9 "MixfixDesk$Rules" "tighter" "[I") (by decide +kernel)) (fun _ h9 => h9) rfl dX4_empty_16 ?_
  refine lv_iconst (v := 0) hx hb dX4_empty_19 (by decide) ?_
  obtain ⟨r_1, hc_2, hm⟩ := ob_some hm
  refine cx_v (wr := [((aR 0), .inr (4, [.ref (aR 1), .ref (aR 2), .ref (aR 3), .ref (aR 4), .ref (aR 5), .ref (aR 6), .ref (aR 7), .int 0, .int 0, .int 0]))]) (va_runS (As := [.ref (aR 1), .int 0]) (rest := []) C0.1 (c_J7_fill_53178 l dC dI cI cJ cB cZ (aR 1) H.size 16 R_tighter 0 r_1 hc_2) (va_cwS 2 hts gX4_empty_J7_fill_53178 rfl rfl rfl (by decide +kernel) ⟨Nat.le_of_ble_eq_true rfl, Nat.le_of_ble_eq_true rfl⟩) (cP_S hK hN hP hD [1] (by decide) rfl) rfl rfl hl.1 rfl (lv_room (Nat.le_of_ble_eq_true rfl)) dX4_empty_20 ⟨Nat.le_of_ble_eq_true rfl, Nat.le_of_ble_eq_true rfl⟩) hP hD hS hA [1] [0] rfl rfl (by decide) (by decide) (fun H locs hP hD hS => ?_)
  have hP : va_P (dC, dI) vwCl [((aR 0), .inr (4, [.ref (aR 1), .ref (aR 2), .ref (aR 3), .ref (aR 4), .ref (aR 5), .ref (aR 6), .ref (aR 7), .int 0, .int 0, .int 0])), ((aR 1), .inl (cI, 16, .inl r_1))] H := hP
  have hD : va_D A [((aR 0), .inr (4, [.ref (aR 1), .ref (aR 2), .ref (aR 3), .ref (aR 4), .ref (aR 5), .ref (aR 6), .ref (aR 7), .int 0, .int 0, .int 0])), ((aR 1), .inl (cI, 16, .inl r_1))] := hD
  exact RET r_1 0 0 0 hm _ H locs ls dX4_empty_23 hP hD hS
set_option maxHeartbeats 4000000 in
set_option maxRecDepth 100000 in
theorem c_X4_empty (l : Launch) (dC : Nat → ClassId) (dI : Nat → Nat → Nat) (cI cJ cB cZ : ClassId) (aR : Nat → Nat) (sz : Nat) (R_nodes : Int32) (R_arrows : Int32) (R_operators : Int32) (R_tighter : Nat → Int32) (res : (Nat → Int32) × Int32 × Int32 × Int32) (hm : m_X4_empty R_tighter R_nodes R_arrows R_operators = some res) : Met l yX4_empty wsX4_empty rm_X4_empty (cP (dC, dI) vwCl [(cI, .int), (cJ, .long), (cB, .byte), (cZ, .boolean)] [.ref (aR 0)] [((aR 0), .inr (4, [.ref (aR 1), .ref (aR 2), .ref (aR 3), .ref (aR 4), .ref (aR 5), .ref (aR 6), .ref (aR 7), .int R_nodes, .int R_arrows, .int R_operators])), ((aR 1), .inl (cI, 16, .inl R_tighter))] sz) (cQv (dC, dI) vwCl [((aR 0), .inr (4, [.ref (aR 1), .ref (aR 2), .ref (aR 3), .ref (aR 4), .ref (aR 5), .ref (aR 6), .ref (aR 7), .int res.2.1, .int res.2.2.1, .int res.2.2.2])), ((aR 1), .inl (cI, 16, .inl res.1))] [((aR 0), .inr (4, [.ref (aR 1), .ref (aR 2), .ref (aR 3), .ref (aR 4), .ref (aR 5), .ref (aR 6), .ref (aR 7), .int R_nodes, .int R_arrows, .int R_operators])), ((aR 1), .inl (cI, 16, .inl R_tighter))] sz) 0 0 (va_A [((aR 0), .inr (4, [.ref (aR 1), .ref (aR 2), .ref (aR 3), .ref (aR 4), .ref (aR 5), .ref (aR 6), .ref (aR 7), .int R_nodes, .int R_arrows, .int R_operators])), ((aR 1), .inl (cI, 16, .inl R_tighter))] sz) := by
  refine cx_of (cc := cX4_empty) (maxL := 1) (ret := none) (own := RX4) (by decide) rfl rfl (Nat.le_of_ble_eq_true rfl) ?_
  intro p e s m below meth c A C0 hinN hK hN hsz hAe hA hP hD hS ls hl
  refine k_X4_empty_E C0 hK hN hA aR res ?_ R_tighter R_nodes R_arrows R_operators hm _ _ hP hD hS ls hl
  intro R_tighter R_nodes R_arrows R_operators he pc H locs ls hdg hP hD hS
  have he := Option.some.inj he
  subst he
  exact cx_retv C0 hsz hAe hdg hP hD hS

theorem dX4_addNode_0 : decode cX4_addNode 0 = .ok (.aload_n 0, 1) := by decide +kernel
theorem dX4_addNode_1 : decode cX4_addNode 1 = .ok (.dup, 1) := by decide +kernel
theorem dX4_addNode_2 : decode cX4_addNode 2 = .ok (.getfield 34, 3) := by decide +kernel
theorem dX4_addNode_5 : decode cX4_addNode 5 = .ok (.iconst 1, 1) := by decide +kernel
theorem dX4_addNode_6 : decode cX4_addNode 6 = .ok (.iadd, 1) := by decide +kernel
theorem dX4_addNode_7 : decode cX4_addNode 7 = .ok (.putfield 34, 3) := by decide +kernel
theorem dX4_addNode_10 : decode cX4_addNode 10 = .ok (.aload_n 0, 1) := by decide +kernel
theorem dX4_addNode_11 : decode cX4_addNode 11 = .ok (.getfield 34, 3) := by decide +kernel
theorem dX4_addNode_14 : decode cX4_addNode 14 = .ok (.iconst 1, 1) := by decide +kernel
theorem dX4_addNode_15 : decode cX4_addNode 15 = .ok (.isub, 1) := by decide +kernel
theorem dX4_addNode_16 : decode cX4_addNode 16 = .ok (.ireturn, 1) := by decide +kernel
/-! MixfixDesk$Rules.addNode()I -/
abbrev rm_X4_addNode : Room := { frames := 0, cells := 0, slots := 0, locals := 0 }
theorem X4_addNode_inX4 : ∀ w ∈ wsX40, w ∈ wsX4_addNode := by decide +kernel
abbrev RT_X4_addNode (p : Program) (l : Launch) (e : Env) (s : State) (m : MethodId) (args : Array Value) (below : List Frame) (meth : Method) (c : Code) (Q : State → Prop) (dC : Nat → ClassId) (dI : Nat → Nat → Nat) (cI cJ cB cZ : ClassId) (A : Nat → Prop) (aR : Nat → Nat) (R_arrows : Int32) (R_operators : Int32) (res : Int32 × Int32) : Prop := ∀ (v : Int32) (R_nodes : Int32), some (v, R_nodes) = some res → ∀ (pc : Nat) (H : Heap) (locs : List Loc) (ls : Array Slot), decode cX4_addNode pc = .ok (.ireturn, 1) → va_P (dC, dI) vwCl [((aR 0), .inr (4, [.ref (aR 1), .ref (aR 2), .ref (aR 3), .ref (aR 4), .ref (aR 5), .ref (aR 6), .ref (aR 7), .int R_nodes, .int R_arrows, .int R_operators]))] H → va_D A [((aR 0), .inr (4, [.ref (aR 1), .ref (aR 2), .ref (aR 3), .ref (aR 4), .ref (aR 5), .ref (aR 6), .ref (aR 7), .int R_nodes, .int R_arrows, .int R_operators]))] → va_S A s.heap H locs → W p l e rm_X4_addNode s m args below meth c H locs 0 0 Q (F0 m pc ls [.int v])
set_option maxHeartbeats 4000000 in
set_option maxRecDepth 100000 in
theorem k_X4_addNode_E {p : Program} {l : Launch} {e : Env} {s : State} {m : MethodId} {args : Array Value} {below : List Frame} {meth : Method} {c : Code} {Q : State → Prop} {dC : Nat → ClassId} {dI : Nat → Nat → Nat} {cI cJ cB cZ : ClassId} {A : Nat → Prop} (C0 : Cx p s m meth c args cX4_addNode 1 (some .int) wsX4_addNode RX4) (hK : va_K (dC, dI) vwCl [(cI, .int), (cJ, .long), (cB, .byte), (cZ, .boolean)] s) (hN : NW s) (hA : ∀ q, s.heap.size ≤ q → A q) (aR : Nat → Nat) (R_arrows : Int32) (R_operators : Int32) (res : Int32 × Int32) (RET : RT_X4_addNode p l e s m args below meth c Q dC dI cI cJ cB cZ A aR R_arrows R_operators res) : ∀ (R_nodes : Int32), m_X4_addNode R_nodes = some res → ∀ (H : Heap) (locs : List Loc), va_P (dC, dI) vwCl [((aR 0), .inr (4, [.ref (aR 1), .ref (aR 2), .ref (aR 3), .ref (aR 4), .ref (aR 5), .ref (aR 6), .ref (aR 7), .int R_nodes, .int R_arrows, .int R_operators]))] H → va_D A [((aR 0), .inr (4, [.ref (aR 1), .ref (aR 2), .ref (aR 3), .ref (aR 4), .ref (aR 5), .ref (aR 6), .ref (aR 7), .int R_nodes, .int R_arrows, .int R_operators]))] → va_S A s.heap H locs → ∀ (ls : Array Slot), lv_has ls 1 [(0, .ref (aR 0))] → W p l e rm_X4_addNode s m args below meth c H locs 0 0 Q (F0 m 0 ls []) := by
  obtain ⟨⟨hx, hb, hml, hown, hts⟩, hr, hlocks⟩ := id C0
  intro R_nodes hm H locs hP hD hS ls hl
  have hm : (some ((R_nodes + 1) - 1, R_nodes + 1)) = some res := hm
  refine lv_aload_n hx hb dX4_addNode_0 rfl (lv_at hl 0 rfl) ?_
  refine lv_dup hx hb dX4_addNode_1 rfl ?_
  refine va_get (D := (dC, dI)) (ci := 4) (v := .int R_nodes) (C := RX4) (T := TX4) (N := 10) hx hb hts X4_addNode_inX4 hown hK hP 0 rfl rfl 7 (by decide) (hts (.fieldLink RX4 34 "MixfixDesk$Rules" "nodes" "I") (by decide +kernel)) (fun _ h9 => h9) rfl dX4_addNode_2 ?_
  refine lv_iconst (v := 1) hx hb dX4_addNode_5 (by decide) ?_
  refine lv_iadd hx hb dX4_addNode_6 ?_
  refine va_put (D := (dC, dI)) (ci := 4) (v := .int (R_nodes + 1)) (ty := .int) (C := RX4) (T := TX4) (N := 10) hx hb hts X4_addNode_inX4 tyX4 tyX4_ok nmX4 hown hK hP hD hS 0 rfl rfl 7 (by decide) (hts (.fieldLink RX4 34 "MixfixDesk$Rules" "nodes" "I") (by decide +kernel)) (fun _ h9 => h9) rfl (by decide +kernel) rfl rfl (Nat.le_of_ble_eq_true rfl) dX4_addNode_7 (fun H locs hP hD hS => ?_)
  have hP : va_P (dC, dI) vwCl [((aR 0), .inr (4, [.ref (aR 1), .ref (aR 2), .ref (aR 3), .ref (aR 4), .ref (aR 5), .ref (aR 6), .ref (aR 7), .int (R_nodes + 1), .int R_arrows, .int R_operators]))] H := hP
  have hD : va_D A [((aR 0), .inr (4, [.ref (aR 1), .ref (aR 2), .ref (aR 3), .ref (aR 4), .ref (aR 5), .ref (aR 6), .ref (aR 7), .int (R_nodes + 1), .int R_arrows, .int R_operators]))] := hD
  refine lv_aload_n hx hb dX4_addNode_10 rfl (lv_at hl 0 rfl) ?_
  refine va_get (D := (dC, dI)) (ci := 4) (v := .int (R_nodes + 1)) (C := RX4) (T := TX4) (N := 10) hx hb hts X4_addNode_inX4 hown hK hP 0 rfl rfl 7 (by decide) (hts (.fieldLink RX4 34 "MixfixDesk$Rules" "nodes" "I") (by decide +kernel)) (fun _ h9 => h9) rfl dX4_addNode_11 ?_
  refine lv_iconst (v := 1) hx hb dX4_addNode_14 (by decide) ?_
  refine lv_isub hx hb dX4_addNode_15 ?_
  exact RET ((R_nodes + 1) - 1) (R_nodes + 1) hm _ H locs ls dX4_addNode_16 hP hD hS
set_option maxHeartbeats 4000000 in
set_option maxRecDepth 100000 in
theorem c_X4_addNode (l : Launch) (dC : Nat → ClassId) (dI : Nat → Nat → Nat) (cI cJ cB cZ : ClassId) (aR : Nat → Nat) (sz : Nat) (R_nodes : Int32) (R_arrows : Int32) (R_operators : Int32) (res : Int32 × Int32) (hm : m_X4_addNode R_nodes = some res) : Met l yX4_addNode wsX4_addNode rm_X4_addNode (cP (dC, dI) vwCl [(cI, .int), (cJ, .long), (cB, .byte), (cZ, .boolean)] [.ref (aR 0)] [((aR 0), .inr (4, [.ref (aR 1), .ref (aR 2), .ref (aR 3), .ref (aR 4), .ref (aR 5), .ref (aR 6), .ref (aR 7), .int R_nodes, .int R_arrows, .int R_operators]))] sz) (cQi res.1 (dC, dI) vwCl [((aR 0), .inr (4, [.ref (aR 1), .ref (aR 2), .ref (aR 3), .ref (aR 4), .ref (aR 5), .ref (aR 6), .ref (aR 7), .int res.2, .int R_arrows, .int R_operators]))] [((aR 0), .inr (4, [.ref (aR 1), .ref (aR 2), .ref (aR 3), .ref (aR 4), .ref (aR 5), .ref (aR 6), .ref (aR 7), .int R_nodes, .int R_arrows, .int R_operators]))] sz) 0 0 (va_A [((aR 0), .inr (4, [.ref (aR 1), .ref (aR 2), .ref (aR 3), .ref (aR 4), .ref (aR 5), .ref (aR 6), .ref (aR 7), .int R_nodes, .int R_arrows, .int R_operators]))] sz) := by
  refine cx_of (cc := cX4_addNode) (maxL := 1) (ret := (some .int)) (own := RX4) (by decide) rfl rfl (Nat.le_of_ble_eq_true rfl) ?_
  intro p e s m below meth c A C0 hinN hK hN hsz hAe hA hP hD hS ls hl
  refine k_X4_addNode_E C0 hK hN hA aR R_arrows R_operators res ?_ R_nodes hm _ _ hP hD hS ls hl
  intro v R_nodes he pc H locs ls hdg hP hD hS
  have he := Option.some.inj he
  subst he
  exact cx_reti C0 hsz hAe hdg hP hD hS

set_option maxRecDepth 20000 in
theorem ggX4_hasArrow_X8_hasBit : GoodIn wsX4_hasArrow wsX8_hasBit := goodIn_r _ [4] (by decide +kernel) (by decide +kernel)
set_option maxRecDepth 20000 in
theorem gX4_hasArrow_X8_hasBit_n56 : GoodIn wsX4_hasArrow (wsX8_hasBit) := ggX4_hasArrow_X8_hasBit
theorem dX4_hasArrow_0 : decode cX4_hasArrow 0 = .ok (.aload_n 0, 1) := by decide +kernel
theorem dX4_hasArrow_1 : decode cX4_hasArrow 1 = .ok (.getfield 9, 3) := by decide +kernel
theorem dX4_hasArrow_4 : decode cX4_hasArrow 4 = .ok (.iload_n 1, 1) := by decide +kernel
theorem dX4_hasArrow_5 : decode cX4_hasArrow 5 = .ok (.iaload, 1) := by decide +kernel
theorem dX4_hasArrow_6 : decode cX4_hasArrow 6 = .ok (.iload_n 2, 1) := by decide +kernel
theorem dX4_hasArrow_7 : decode cX4_hasArrow 7 = .ok (.invokestatic 56, 3) := by decide +kernel
theorem dX4_hasArrow_10 : decode cX4_hasArrow 10 = .ok (.ireturn, 1) := by decide +kernel
/-! MixfixDesk$Rules.hasArrow(II)Z -/
abbrev rm_X4_hasArrow : Room := { frames := 1, cells := 0, slots := 0, locals := 21 }
theorem X4_hasArrow_inX4 : ∀ w ∈ wsX40, w ∈ wsX4_hasArrow := by decide +kernel
abbrev RT_X4_hasArrow (p : Program) (l : Launch) (e : Env) (s : State) (m : MethodId) (args : Array Value) (below : List Frame) (meth : Method) (c : Code) (Q : State → Prop) (dC : Nat → ClassId) (dI : Nat → Nat → Nat) (cI cJ cB cZ : ClassId) (A : Nat → Prop) (aR : Nat → Nat) (R_nodes : Int32) (R_arrows : Int32) (R_operators : Int32) (R_tighter : Nat → Int32) (res : Int32) : Prop := ∀ (v : Int32) , some v = some res → narrow .boolean (.int v) = .int v → ∀ (pc : Nat) (H : Heap) (locs : List Loc) (ls : Array Slot), decode cX4_hasArrow pc = .ok (.ireturn, 1) → va_P (dC, dI) vwCl [((aR 0), .inr (4, [.ref (aR 1), .ref (aR 2), .ref (aR 3), .ref (aR 4), .ref (aR 5), .ref (aR 6), .ref (aR 7), .int R_nodes, .int R_arrows, .int R_operators])), ((aR 1), .inl (cI, 16, .inl R_tighter))] H → va_D A [((aR 0), .inr (4, [.ref (aR 1), .ref (aR 2), .ref (aR 3), .ref (aR 4), .ref (aR 5), .ref (aR 6), .ref (aR 7), .int R_nodes, .int R_arrows, .int R_operators])), ((aR 1), .inl (cI, 16, .inl R_tighter))] → va_S A s.heap H locs → W p l e rm_X4_hasArrow s m args below meth c H locs 0 0 Q (F0 m pc ls [.int v])
set_option maxHeartbeats 4000000 in
set_option maxRecDepth 100000 in
theorem k_X4_hasArrow_E {p : Program} {l : Launch} {e : Env} {s : State} {m : MethodId} {args : Array Value} {below : List Frame} {meth : Method} {c : Code} {Q : State → Prop} {dC : Nat → ClassId} {dI : Nat → Nat → Nat} {cI cJ cB cZ : ClassId} {A : Nat → Prop} (C0 : Cx p s m meth c args cX4_hasArrow 3 (some .boolean) wsX4_hasArrow RX4) (hK : va_K (dC, dI) vwCl [(cI, .int), (cJ, .long), (cB, .byte), (cZ, .boolean)] s) (hN : NW s) (hA : ∀ q, s.heap.size ≤ q → A q) (aR : Nat → Nat) (R_nodes : Int32) (R_arrows : Int32) (R_operators : Int32) (R_tighter : Nat → Int32) (res : Int32) (RET : RT_X4_hasArrow p l e s m args below meth c Q dC dI cI cJ cB cZ A aR R_nodes R_arrows R_operators R_tighter res) : ∀ (p0 : Int32) (p1 : Int32), m_X4_hasArrow R_tighter p0 p1 = some res → ∀ (H : Heap) (locs : List Loc), va_P (dC, dI) vwCl [((aR 0), .inr (4, [.ref (aR 1), .ref (aR 2), .ref (aR 3), .ref (aR 4), .ref (aR 5), .ref (aR 6), .ref (aR 7), .int R_nodes, .int R_arrows, .int R_operators])), ((aR 1), .inl (cI, 16, .inl R_tighter))] H → va_D A [((aR 0), .inr (4, [.ref (aR 1), .ref (aR 2), .ref (aR 3), .ref (aR 4), .ref (aR 5), .ref (aR 6), .ref (aR 7), .int R_nodes, .int R_arrows, .int R_operators])), ((aR 1), .inl (cI, 16, .inl R_tighter))] → va_S A s.heap H locs → ∀ (ls : Array Slot), lv_has ls 3 [(0, .ref (aR 0)), (1, .int p0), (2, .int p1)] → W p l e rm_X4_hasArrow s m args below meth c H locs 0 0 Q (F0 m 0 ls []) := by
  obtain ⟨⟨hx, hb, hml, hown, hts⟩, hr, hlocks⟩ := id C0
  intro p0 p1 hm H locs hP hD hS ls hl
  have hm : (gd p0 16 (Option.bind (m_X8_hasBit (R_tighter p0.toNatClampNeg) p1) (fun r_2 => gb r_2 (some r_2)))) = some res := hm
  refine lv_aload_n hx hb dX4_hasArrow_0 rfl (lv_at hl 0 rfl) ?_
  refine va_get (D := (dC, dI)) (ci := 4) (v := .ref (aR 1)) (C := RX4) (T := TX4) (N := 10) hx hb hts X4_hasArrow_inX4 hown hK hP 0 rfl rfl 0 (by decide) (hts (.fieldLink RX4 9 "MixfixDesk$Rules" "tighter" "[I") (by decide +kernel)) (fun _ h9 => h9) rfl dX4_hasArrow_1 ?_
  refine lv_iload_n hx hb dX4_hasArrow_4 rfl (lv_at hl 1 rfl) ?_
  obtain ⟨hi_1, hm⟩ := gd_some hm
  refine va_iald (D := (dC, dI)) hx hb hK hP 1 0 rfl rfl hi_1 dX4_hasArrow_5 ?_
  refine lv_iload_n hx hb dX4_hasArrow_6 rfl (lv_at hl 2 rfl) ?_
  obtain ⟨r_2, hc_3, hm⟩ := ob_some hm
  refine cx_i (wr := [((aR 0), .inr (4, [.ref (aR 1), .ref (aR 2), .ref (aR 3), .ref (aR 4), .ref (aR 5), .ref (aR 6), .ref (aR 7), .int R_nodes, .int R_arrows, .int R_operators])), ((aR 1), .inl (cI, 16, .inl R_tighter))]) (va_runSN (As := [.int (R_tighter p0.toNatClampNeg), .int p1]) (rest := []) C0.1 (c_X8_hasBit l dC dI cI cJ cB cZ H.size (R_tighter p0.toNatClampNeg) p1 r_2 hc_3) ⟨va_cnB 2 hts gX4_hasArrow_X8_hasBit_n56 rfl rfl rfl (hN (RX4, 56, yX8_hasBit, "MixfixDesk") (by decide +kernel)) (hts (.initialized RX8) (by decide +kernel)) (by decide +kernel) ⟨Nat.le_of_ble_eq_true rfl, Nat.le_of_ble_eq_true rfl⟩, (hts (.static yX8_hasBit) (by decide +kernel)), trivial⟩ (cP_S hK hN hP hD [] (by decide) rfl) rfl rfl hl.1 rfl (lv_room (Nat.le_of_ble_eq_true rfl)) dX4_hasArrow_7 ⟨Nat.le_of_ble_eq_true rfl, Nat.le_of_ble_eq_true rfl⟩) hP hD hS hA [] [0, 1] rfl rfl (by decide) (by decide) (fun H locs hP hD hS => ?_)
  have hP : va_P (dC, dI) vwCl [((aR 0), .inr (4, [.ref (aR 1), .ref (aR 2), .ref (aR 3), .ref (aR 4), .ref (aR 5), .ref (aR 6), .ref (aR 7), .int R_nodes, .int R_arrows, .int R_operators])), ((aR 1), .inl (cI, 16, .inl R_tighter))] H := hP
  have hD : va_D A [((aR 0), .inr (4, [.ref (aR 1), .ref (aR 2), .ref (aR 3), .ref (aR 4), .ref (aR 5), .ref (aR 6), .ref (aR 7), .int R_nodes, .int R_arrows, .int R_operators])), ((aR 1), .inl (cI, 16, .inl R_tighter))] := hD
  obtain ⟨hg_4, hm⟩ := gb_some hm
  exact RET r_2 hm hg_4 _ H locs ls dX4_hasArrow_10 hP hD hS
set_option maxHeartbeats 4000000 in
set_option maxRecDepth 100000 in
theorem c_X4_hasArrow (l : Launch) (dC : Nat → ClassId) (dI : Nat → Nat → Nat) (cI cJ cB cZ : ClassId) (aR : Nat → Nat) (sz : Nat) (R_nodes : Int32) (R_arrows : Int32) (R_operators : Int32) (R_tighter : Nat → Int32) (p0 : Int32) (p1 : Int32) (res : Int32) (hm : m_X4_hasArrow R_tighter p0 p1 = some res) : Met l yX4_hasArrow wsX4_hasArrow rm_X4_hasArrow (cP (dC, dI) vwCl [(cI, .int), (cJ, .long), (cB, .byte), (cZ, .boolean)] [.ref (aR 0), .int p0, .int p1] [((aR 0), .inr (4, [.ref (aR 1), .ref (aR 2), .ref (aR 3), .ref (aR 4), .ref (aR 5), .ref (aR 6), .ref (aR 7), .int R_nodes, .int R_arrows, .int R_operators])), ((aR 1), .inl (cI, 16, .inl R_tighter))] sz) (cQi res (dC, dI) vwCl [((aR 0), .inr (4, [.ref (aR 1), .ref (aR 2), .ref (aR 3), .ref (aR 4), .ref (aR 5), .ref (aR 6), .ref (aR 7), .int R_nodes, .int R_arrows, .int R_operators])), ((aR 1), .inl (cI, 16, .inl R_tighter))] [((aR 0), .inr (4, [.ref (aR 1), .ref (aR 2), .ref (aR 3), .ref (aR 4), .ref (aR 5), .ref (aR 6), .ref (aR 7), .int R_nodes, .int R_arrows, .int R_operators])), ((aR 1), .inl (cI, 16, .inl R_tighter))] sz) 0 0 (va_A [((aR 0), .inr (4, [.ref (aR 1), .ref (aR 2), .ref (aR 3), .ref (aR 4), .ref (aR 5), .ref (aR 6), .ref (aR 7), .int R_nodes, .int R_arrows, .int R_operators])), ((aR 1), .inl (cI, 16, .inl R_tighter))] sz) := by
  refine cx_of (cc := cX4_hasArrow) (maxL := 3) (ret := (some .boolean)) (own := RX4) (by decide) rfl rfl (Nat.le_of_ble_eq_true rfl) ?_
  intro p e s m below meth c A C0 hinN hK hN hsz hAe hA hP hD hS ls hl
  refine k_X4_hasArrow_E C0 hK hN hA aR R_nodes R_arrows R_operators R_tighter res ?_ p0 p1 hm _ _ hP hD hS ls hl
  intro v he hn pc H locs ls hdg hP hD hS
  have he := Option.some.inj he
  subst he
  exact cx_retz C0 hn hsz hAe hdg hP hD hS

set_option maxRecDepth 20000 in
theorem ggX4_leans_X4_kind : GoodIn wsX4_leans wsX4_kind := goodIn_r _ [6, 7, 8, 9, 10, 5, 11, 12, 13, 14, 15, 16, 17, 18, 19, 20, 21, 22, 23] (by decide +kernel) (by decide +kernel)
set_option maxRecDepth 20000 in
theorem gX4_leans_X4_kind : GoodIn wsX4_leans (wsV RX4 76 RX4 yX4_kind wsX4_kind) := goodIn_app (goodIn_of _ (by decide +kernel)) ggX4_leans_X4_kind
theorem dX4_leans_0 : decode cX4_leans 0 = .ok (.aload_n 0, 1) := by decide +kernel
theorem dX4_leans_1 : decode cX4_leans 1 = .ok (.iload_n 1, 1) := by decide +kernel
theorem dX4_leans_2 : decode cX4_leans 2 = .ok (.invokevirtual 76, 3) := by decide +kernel
theorem dX4_leans_5 : decode cX4_leans 5 = .ok (.istore 4, 2) := by decide +kernel
theorem dX4_leans_7 : decode cX4_leans 7 = .ok (.iload 4, 2) := by decide +kernel
theorem dX4_leans_9 : decode cX4_leans 9 = .ok (.iload_n 2, 1) := by decide +kernel
theorem dX4_leans_10 : decode cX4_leans 10 = .ok (.if_icmp .eq 19, 3) := by decide +kernel
theorem dX4_leans_13 : decode cX4_leans 13 = .ok (.iload 4, 2) := by decide +kernel
theorem dX4_leans_15 : decode cX4_leans 15 = .ok (.iconst 3, 1) := by decide +kernel
theorem dX4_leans_16 : decode cX4_leans 16 = .ok (.if_icmp .ne 17, 3) := by decide +kernel
theorem dX4_leans_19 : decode cX4_leans 19 = .ok (.aload_n 0, 1) := by decide +kernel
theorem dX4_leans_20 : decode cX4_leans 20 = .ok (.getfield 21, 3) := by decide +kernel
theorem dX4_leans_23 : decode cX4_leans 23 = .ok (.iload_n 1, 1) := by decide +kernel
theorem dX4_leans_24 : decode cX4_leans 24 = .ok (.iaload, 1) := by decide +kernel
theorem dX4_leans_25 : decode cX4_leans 25 = .ok (.iload_n 3, 1) := by decide +kernel
theorem dX4_leans_26 : decode cX4_leans 26 = .ok (.if_icmp .ne 7, 3) := by decide +kernel
theorem dX4_leans_29 : decode cX4_leans 29 = .ok (.iconst 1, 1) := by decide +kernel
theorem dX4_leans_30 : decode cX4_leans 30 = .ok (.goto 4, 3) := by decide +kernel
theorem dX4_leans_33 : decode cX4_leans 33 = .ok (.iconst 0, 1) := by decide +kernel
theorem dX4_leans_34 : decode cX4_leans 34 = .ok (.ireturn, 1) := by decide +kernel
/-! MixfixDesk$Rules.leans(III)Z -/
abbrev rm_X4_leans : Room := { frames := 2, cells := 0, slots := 0, locals := 45 }
theorem X4_leans_inX4 : ∀ w ∈ wsX40, w ∈ wsX4_leans := by decide +kernel
abbrev RT_X4_leans (p : Program) (l : Launch) (e : Env) (s : State) (m : MethodId) (args : Array Value) (below : List Frame) (meth : Method) (c : Code) (Q : State → Prop) (dC : Nat → ClassId) (dI : Nat → Nat → Nat) (cI cJ cB cZ : ClassId) (A : Nat → Prop) (aR : Nat → Nat) (R_nodes : Int32) (R_arrows : Int32) (R_operators : Int32) (R_size : Nat → Int32) (R_way : Nat → Int32) (R_elements : Nat → Int64) (res : Int32) : Prop := ∀ (v : Int32) , some v = some res → narrow .boolean (.int v) = .int v → ∀ (pc : Nat) (H : Heap) (locs : List Loc) (ls : Array Slot), decode cX4_leans pc = .ok (.ireturn, 1) → va_P (dC, dI) vwCl [((aR 0), .inr (4, [.ref (aR 1), .ref (aR 2), .ref (aR 3), .ref (aR 4), .ref (aR 5), .ref (aR 6), .ref (aR 7), .int R_nodes, .int R_arrows, .int R_operators])), ((aR 2), .inl (cI, 30, .inl R_size)), ((aR 4), .inl (cI, 30, .inl R_way)), ((aR 7), .inl (cJ, 270, .inr (.inl R_elements)))] H → va_D A [((aR 0), .inr (4, [.ref (aR 1), .ref (aR 2), .ref (aR 3), .ref (aR 4), .ref (aR 5), .ref (aR 6), .ref (aR 7), .int R_nodes, .int R_arrows, .int R_operators])), ((aR 2), .inl (cI, 30, .inl R_size)), ((aR 4), .inl (cI, 30, .inl R_way)), ((aR 7), .inl (cJ, 270, .inr (.inl R_elements)))] → va_S A s.heap H locs → W p l e rm_X4_leans s m args below meth c H locs 0 0 Q (F0 m pc ls [.int v])
set_option maxHeartbeats 4000000 in
set_option maxRecDepth 100000 in
theorem k_X4_leans_E {p : Program} {l : Launch} {e : Env} {s : State} {m : MethodId} {args : Array Value} {below : List Frame} {meth : Method} {c : Code} {Q : State → Prop} {dC : Nat → ClassId} {dI : Nat → Nat → Nat} {cI cJ cB cZ : ClassId} {A : Nat → Prop} (C0 : Cx p s m meth c args cX4_leans 5 (some .boolean) wsX4_leans RX4) (hK : va_K (dC, dI) vwCl [(cI, .int), (cJ, .long), (cB, .byte), (cZ, .boolean)] s) (hN : NW s) (hA : ∀ q, s.heap.size ≤ q → A q) (aR : Nat → Nat) (R_nodes : Int32) (R_arrows : Int32) (R_operators : Int32) (R_size : Nat → Int32) (R_way : Nat → Int32) (R_elements : Nat → Int64) (res : Int32) (RET : RT_X4_leans p l e s m args below meth c Q dC dI cI cJ cB cZ A aR R_nodes R_arrows R_operators R_size R_way R_elements res) : ∀ (p0 : Int32) (p1 : Int32) (p2 : Int32), m_X4_leans R_size R_way R_elements p0 p1 p2 = some res → ∀ (H : Heap) (locs : List Loc), va_P (dC, dI) vwCl [((aR 0), .inr (4, [.ref (aR 1), .ref (aR 2), .ref (aR 3), .ref (aR 4), .ref (aR 5), .ref (aR 6), .ref (aR 7), .int R_nodes, .int R_arrows, .int R_operators])), ((aR 2), .inl (cI, 30, .inl R_size)), ((aR 4), .inl (cI, 30, .inl R_way)), ((aR 7), .inl (cJ, 270, .inr (.inl R_elements)))] H → va_D A [((aR 0), .inr (4, [.ref (aR 1), .ref (aR 2), .ref (aR 3), .ref (aR 4), .ref (aR 5), .ref (aR 6), .ref (aR 7), .int R_nodes, .int R_arrows, .int R_operators])), ((aR 2), .inl (cI, 30, .inl R_size)), ((aR 4), .inl (cI, 30, .inl R_way)), ((aR 7), .inl (cJ, 270, .inr (.inl R_elements)))] → va_S A s.heap H locs → ∀ (ls : Array Slot), lv_has ls 5 [(0, .ref (aR 0)), (1, .int p0), (2, .int p1), (3, .int p2)] → W p l e rm_X4_leans s m args below meth c H locs 0 0 Q (F0 m 0 ls []) := by
  obtain ⟨⟨hx, hb, hml, hown, hts⟩, hr, hlocks⟩ := id C0
  intro p0 p1 p2 hm H locs hP hD hS ls hl
  have hm : (Option.bind (m_X4_kind R_size R_elements p0) (fun r_1 => if r_1 = p1 then (some 1) else (if r_1 = 3 then (gd p0 30 (if (R_way p0.toNatClampNeg) = p2 then (some 1) else (some 0))) else (some 0)))) = some res := hm
  refine lv_aload_n hx hb dX4_leans_0 rfl (lv_at hl 0 rfl) ?_
  refine lv_iload_n hx hb dX4_leans_1 rfl (lv_at hl 1 rfl) ?_
  obtain ⟨r_1, hc_2, hm⟩ := ob_some hm
  refine cx_i (wr := [((aR 4), .inl (cI, 30, .inl R_way))]) (va_runV (As := [.int p0]) (rest := []) C0.1 (c_X4_kind l dC dI cI cJ cB cZ aR H.size R_nodes R_arrows R_operators R_size R_elements p0 r_1 hc_2) (cwV 1 hts gX4_leans_X4_kind rfl rfl rfl (by decide +kernel) ⟨Nat.le_of_ble_eq_true rfl, Nat.le_of_ble_eq_true rfl⟩) (cP_V (ci := 4) (q0 := 0) hK hN hP hD rfl rfl [0, 1, 3] (by decide) rfl) rfl rfl hl.1 rfl (lv_room (Nat.le_of_ble_eq_true rfl)) dX4_leans_2 ⟨Nat.le_of_ble_eq_true rfl, Nat.le_of_ble_eq_true rfl⟩) hP hD hS hA [0, 1, 3] [2] rfl rfl (by decide) (by decide) (fun H locs hP hD hS => ?_)
  have hP : va_P (dC, dI) vwCl [((aR 4), .inl (cI, 30, .inl R_way)), ((aR 0), .inr (4, [.ref (aR 1), .ref (aR 2), .ref (aR 3), .ref (aR 4), .ref (aR 5), .ref (aR 6), .ref (aR 7), .int R_nodes, .int R_arrows, .int R_operators])), ((aR 2), .inl (cI, 30, .inl R_size)), ((aR 7), .inl (cJ, 270, .inr (.inl R_elements)))] H := hP
  have hD : va_D A [((aR 4), .inl (cI, 30, .inl R_way)), ((aR 0), .inr (4, [.ref (aR 1), .ref (aR 2), .ref (aR 3), .ref (aR 4), .ref (aR 5), .ref (aR 6), .ref (aR 7), .int R_nodes, .int R_arrows, .int R_operators])), ((aR 2), .inl (cI, 30, .inl R_size)), ((aR 7), .inl (cJ, 270, .inr (.inl R_elements)))] := hD
  refine lv_istore (lv' := [(4, .int r_1), (0, .ref (aR 0)), (1, .int p0), (2, .int p1), (3, .int p2)]) hx hb dX4_leans_5 hl (by decide) rfl (fun ls hl => ?_)
  refine lv_iload hx hb dX4_leans_7 (lv_at hl 0 rfl) ?_
  refine lv_iload_n hx hb dX4_leans_9 rfl (lv_at hl 3 rfl) ?_
  refine lv_icmp_eq (tgt := 29) hx hb dX4_leans_10 (by decide) (fun c_3 => ?_) (fun c_3 => ?_)
  · have hm := it_some c_3 hm
    refine lv_iconst (v := 1) hx hb dX4_leans_29 (by decide) ?_
    refine lv_goto (tgt := 34) hx hb dX4_leans_30 (by decide) ?_
    exact RET 1 hm rfl _ H locs ls dX4_leans_34 (P_sub' hP [1, 2, 0, 3] rfl) (hD.sub [1, 2, 0, 3] (by decide) rfl) hS
  · have hm := if_some' c_3 hm
    refine lv_iload hx hb dX4_leans_13 (lv_at hl 0 rfl) ?_
    refine lv_iconst (v := 3) hx hb dX4_leans_15 (by decide) ?_
    refine lv_icmp_ne (tgt := 33) hx hb dX4_leans_16 (by decide) (fun c_4 => ?_) (fun c_4 => ?_)
    · have hm := if_some' c_4 hm
      refine lv_iconst (v := 0) hx hb dX4_leans_33 (by decide) ?_
      exact RET 0 hm rfl _ H locs ls dX4_leans_34 (P_sub' hP [1, 2, 0, 3] rfl) (hD.sub [1, 2, 0, 3] (by decide) rfl) hS
    · have hm := it_some c_4 hm
      refine lv_aload_n hx hb dX4_leans_19 rfl (lv_at hl 1 rfl) ?_
      refine va_get (D := (dC, dI)) (ci := 4) (v := .ref (aR 4)) (C := RX4) (T := TX4) (N := 10) hx hb hts X4_leans_inX4 hown hK hP 1 rfl rfl 3 (by decide) (hts (.fieldLink RX4 21 "MixfixDesk$Rules" "way" "[I") (by decide +kernel)) (fun _ h9 => h9) rfl dX4_leans_20 ?_
      refine lv_iload_n hx hb dX4_leans_23 rfl (lv_at hl 2 rfl) ?_
      obtain ⟨hi_5, hm⟩ := gd_some hm
      refine va_iald (D := (dC, dI)) hx hb hK hP 0 0 rfl rfl hi_5 dX4_leans_24 ?_
      refine lv_iload_n hx hb dX4_leans_25 rfl (lv_at hl 4 rfl) ?_
      refine lv_icmp_ne (tgt := 33) hx hb dX4_leans_26 (by decide) (fun c_6 => ?_) (fun c_6 => ?_)
      · have hm := if_some' c_6 hm
        refine lv_iconst (v := 0) hx hb dX4_leans_33 (by decide) ?_
        exact RET 0 hm rfl _ H locs ls dX4_leans_34 (P_sub' hP [1, 2, 0, 3] rfl) (hD.sub [1, 2, 0, 3] (by decide) rfl) hS
      · have hm := it_some c_6 hm
        refine lv_iconst (v := 1) hx hb dX4_leans_29 (by decide) ?_
        refine lv_goto (tgt := 34) hx hb dX4_leans_30 (by decide) ?_
        exact RET 1 hm rfl _ H locs ls dX4_leans_34 (P_sub' hP [1, 2, 0, 3] rfl) (hD.sub [1, 2, 0, 3] (by decide) rfl) hS
set_option maxHeartbeats 4000000 in
set_option maxRecDepth 100000 in
theorem c_X4_leans (l : Launch) (dC : Nat → ClassId) (dI : Nat → Nat → Nat) (cI cJ cB cZ : ClassId) (aR : Nat → Nat) (sz : Nat) (R_nodes : Int32) (R_arrows : Int32) (R_operators : Int32) (R_size : Nat → Int32) (R_way : Nat → Int32) (R_elements : Nat → Int64) (p0 : Int32) (p1 : Int32) (p2 : Int32) (res : Int32) (hm : m_X4_leans R_size R_way R_elements p0 p1 p2 = some res) : Met l yX4_leans wsX4_leans rm_X4_leans (cP (dC, dI) vwCl [(cI, .int), (cJ, .long), (cB, .byte), (cZ, .boolean)] [.ref (aR 0), .int p0, .int p1, .int p2] [((aR 0), .inr (4, [.ref (aR 1), .ref (aR 2), .ref (aR 3), .ref (aR 4), .ref (aR 5), .ref (aR 6), .ref (aR 7), .int R_nodes, .int R_arrows, .int R_operators])), ((aR 2), .inl (cI, 30, .inl R_size)), ((aR 4), .inl (cI, 30, .inl R_way)), ((aR 7), .inl (cJ, 270, .inr (.inl R_elements)))] sz) (cQi res (dC, dI) vwCl [((aR 0), .inr (4, [.ref (aR 1), .ref (aR 2), .ref (aR 3), .ref (aR 4), .ref (aR 5), .ref (aR 6), .ref (aR 7), .int R_nodes, .int R_arrows, .int R_operators])), ((aR 2), .inl (cI, 30, .inl R_size)), ((aR 4), .inl (cI, 30, .inl R_way)), ((aR 7), .inl (cJ, 270, .inr (.inl R_elements)))] [((aR 0), .inr (4, [.ref (aR 1), .ref (aR 2), .ref (aR 3), .ref (aR 4), .ref (aR 5), .ref (aR 6), .ref (aR 7), .int R_nodes, .int R_arrows, .int R_operators])), ((aR 2), .inl (cI, 30, .inl R_size)), ((aR 4), .inl (cI, 30, .inl R_way)), ((aR 7), .inl (cJ, 270, .inr (.inl R_elements)))] sz) 0 0 (va_A [((aR 0), .inr (4, [.ref (aR 1), .ref (aR 2), .ref (aR 3), .ref (aR 4), .ref (aR 5), .ref (aR 6), .ref (aR 7), .int R_nodes, .int R_arrows, .int R_operators])), ((aR 2), .inl (cI, 30, .inl R_size)), ((aR 4), .inl (cI, 30, .inl R_way)), ((aR 7), .inl (cJ, 270, .inr (.inl R_elements)))] sz) := by
  refine cx_of (cc := cX4_leans) (maxL := 5) (ret := (some .boolean)) (own := RX4) (by decide) rfl rfl (Nat.le_of_ble_eq_true rfl) ?_
  intro p e s m below meth c A C0 hinN hK hN hsz hAe hA hP hD hS ls hl
  refine k_X4_leans_E C0 hK hN hA aR R_nodes R_arrows R_operators R_size R_way R_elements res ?_ p0 p1 p2 hm _ _ hP hD hS ls hl
  intro v he hn pc H locs ls hdg hP hD hS
  have he := Option.some.inj he
  subst he
  exact cx_retz C0 hn hsz hAe hdg hP hD hS

set_option maxRecDepth 20000 in
theorem ggX4_settle_X4_kind : GoodIn wsX4_settle wsX4_kind := goodIn_r _ [10, 11, 12, 13, 14, 9, 15, 16, 17, 26, 27, 28, 29, 30, 31, 32, 33, 34, 35] (by decide +kernel) (by decide +kernel)
set_option maxRecDepth 20000 in
theorem gX4_settle_X4_kind : GoodIn wsX4_settle (wsV RX4 76 RX4 yX4_kind wsX4_kind) := goodIn_app (goodIn_of _ (by decide +kernel)) ggX4_settle_X4_kind
set_option maxRecDepth 20000 in
theorem ggX4_settle_X8_hasBit : GoodIn wsX4_settle wsX8_hasBit := goodIn_r _ [20] (by decide +kernel) (by decide +kernel)
set_option maxRecDepth 20000 in
theorem gX4_settle_X8_hasBit_n56 : GoodIn wsX4_settle (wsX8_hasBit) := ggX4_settle_X8_hasBit
set_option maxRecDepth 20000 in
theorem ggX4_settle_X4_leans : GoodIn wsX4_settle wsX4_leans := goodIn_r _ [24, 25, 6, 7, 8, 9, 10, 11, 12, 13, 14, 15, 16, 17, 26, 27, 28, 29, 30, 31, 32, 33, 34, 35] (by decide +kernel) (by decide +kernel)
set_option maxRecDepth 20000 in
theorem gX4_settle_X4_leans : GoodIn wsX4_settle (wsV RX4 80 RX4 yX4_leans wsX4_leans) := goodIn_app (goodIn_of _ (by decide +kernel)) ggX4_settle_X4_leans
theorem dX4_settle_0 : decode cX4_settle 0 = .ok (.iconst 0, 1) := by decide +kernel
theorem dX4_settle_1 : decode cX4_settle 1 = .ok (.istore_n 1, 1) := by decide +kernel
theorem dX4_settle_2 : decode cX4_settle 2 = .ok (.iload_n 1, 1) := by decide +kernel
theorem dX4_settle_3 : decode cX4_settle 3 = .ok (.aload_n 0, 1) := by decide +kernel
theorem dX4_settle_4 : decode cX4_settle 4 = .ok (.getfield 41, 3) := by decide +kernel
theorem dX4_settle_7 : decode cX4_settle 7 = .ok (.if_icmp .ge 175, 3) := by decide +kernel
theorem dX4_settle_10 : decode cX4_settle 10 = .ok (.iconst 0, 1) := by decide +kernel
theorem dX4_settle_11 : decode cX4_settle 11 = .ok (.istore_n 2, 1) := by decide +kernel
theorem dX4_settle_12 : decode cX4_settle 12 = .ok (.iconst 0, 1) := by decide +kernel
theorem dX4_settle_13 : decode cX4_settle 13 = .ok (.istore_n 3, 1) := by decide +kernel
theorem dX4_settle_14 : decode cX4_settle 14 = .ok (.iconst 0, 1) := by decide +kernel
theorem dX4_settle_15 : decode cX4_settle 15 = .ok (.istore 4, 2) := by decide +kernel
theorem dX4_settle_17 : decode cX4_settle 17 = .ok (.iload 4, 2) := by decide +kernel
theorem dX4_settle_19 : decode cX4_settle 19 = .ok (.aload_n 0, 1) := by decide +kernel
theorem dX4_settle_20 : decode cX4_settle 20 = .ok (.getfield 41, 3) := by decide +kernel
theorem dX4_settle_23 : decode cX4_settle 23 = .ok (.if_icmp .ge 139, 3) := by decide +kernel
theorem dX4_settle_26 : decode cX4_settle 26 = .ok (.aload_n 0, 1) := by decide +kernel
theorem dX4_settle_27 : decode cX4_settle 27 = .ok (.iload 4, 2) := by decide +kernel
theorem dX4_settle_29 : decode cX4_settle 29 = .ok (.invokevirtual 76, 3) := by decide +kernel
theorem dX4_settle_32 : decode cX4_settle 32 = .ok (.ifCond .eq 27, 3) := by decide +kernel
theorem dX4_settle_35 : decode cX4_settle 35 = .ok (.aload_n 0, 1) := by decide +kernel
theorem dX4_settle_36 : decode cX4_settle 36 = .ok (.getfield 9, 3) := by decide +kernel
theorem dX4_settle_39 : decode cX4_settle 39 = .ok (.aload_n 0, 1) := by decide +kernel
theorem dX4_settle_40 : decode cX4_settle 40 = .ok (.getfield 18, 3) := by decide +kernel
theorem dX4_settle_43 : decode cX4_settle 43 = .ok (.iload_n 1, 1) := by decide +kernel
theorem dX4_settle_44 : decode cX4_settle 44 = .ok (.iaload, 1) := by decide +kernel
theorem dX4_settle_45 : decode cX4_settle 45 = .ok (.iaload, 1) := by decide +kernel
theorem dX4_settle_46 : decode cX4_settle 46 = .ok (.aload_n 0, 1) := by decide +kernel
theorem dX4_settle_47 : decode cX4_settle 47 = .ok (.getfield 18, 3) := by decide +kernel
theorem dX4_settle_50 : decode cX4_settle 50 = .ok (.iload 4, 2) := by decide +kernel
theorem dX4_settle_52 : decode cX4_settle 52 = .ok (.iaload, 1) := by decide +kernel
theorem dX4_settle_53 : decode cX4_settle 53 = .ok (.invokestatic 56, 3) := by decide +kernel
theorem dX4_settle_56 : decode cX4_settle 56 = .ok (.ifCond .eq 20, 3) := by decide +kernel
theorem dX4_settle_59 : decode cX4_settle 59 = .ok (.iload_n 2, 1) := by decide +kernel
theorem dX4_settle_60 : decode cX4_settle 60 = .ok (.iconst 1, 1) := by decide +kernel
theorem dX4_settle_61 : decode cX4_settle 61 = .ok (.iload 4, 2) := by decide +kernel
theorem dX4_settle_63 : decode cX4_settle 63 = .ok (.ishl, 1) := by decide +kernel
theorem dX4_settle_64 : decode cX4_settle 64 = .ok (.ior, 1) := by decide +kernel
theorem dX4_settle_65 : decode cX4_settle 65 = .ok (.istore_n 2, 1) := by decide +kernel
theorem dX4_settle_66 : decode cX4_settle 66 = .ok (.iload_n 3, 1) := by decide +kernel
theorem dX4_settle_67 : decode cX4_settle 67 = .ok (.iconst 1, 1) := by decide +kernel
theorem dX4_settle_68 : decode cX4_settle 68 = .ok (.iload 4, 2) := by decide +kernel
theorem dX4_settle_70 : decode cX4_settle 70 = .ok (.ishl, 1) := by decide +kernel
theorem dX4_settle_71 : decode cX4_settle 71 = .ok (.ior, 1) := by decide +kernel
theorem dX4_settle_72 : decode cX4_settle 72 = .ok (.istore_n 3, 1) := by decide +kernel
theorem dX4_settle_73 : decode cX4_settle 73 = .ok (.goto 83, 3) := by decide +kernel
theorem dX4_settle_76 : decode cX4_settle 76 = .ok (.aload_n 0, 1) := by decide +kernel
theorem dX4_settle_77 : decode cX4_settle 77 = .ok (.getfield 18, 3) := by decide +kernel
theorem dX4_settle_80 : decode cX4_settle 80 = .ok (.iload_n 1, 1) := by decide +kernel
theorem dX4_settle_81 : decode cX4_settle 81 = .ok (.iaload, 1) := by decide +kernel
theorem dX4_settle_82 : decode cX4_settle 82 = .ok (.aload_n 0, 1) := by decide +kernel
theorem dX4_settle_83 : decode cX4_settle 83 = .ok (.getfield 18, 3) := by decide +kernel
theorem dX4_settle_86 : decode cX4_settle 86 = .ok (.iload 4, 2) := by decide +kernel
theorem dX4_settle_88 : decode cX4_settle 88 = .ok (.iaload, 1) := by decide +kernel
theorem dX4_settle_89 : decode cX4_settle 89 = .ok (.if_icmp .ne 67, 3) := by decide +kernel
theorem dX4_settle_92 : decode cX4_settle 92 = .ok (.iload_n 2, 1) := by decide +kernel
theorem dX4_settle_93 : decode cX4_settle 93 = .ok (.aload_n 0, 1) := by decide +kernel
theorem dX4_settle_94 : decode cX4_settle 94 = .ok (.iload_n 1, 1) := by decide +kernel
theorem dX4_settle_95 : decode cX4_settle 95 = .ok (.iconst 2, 1) := by decide +kernel
theorem dX4_settle_96 : decode cX4_settle 96 = .ok (.iconst 1, 1) := by decide +kernel
theorem dX4_settle_97 : decode cX4_settle 97 = .ok (.invokevirtual 80, 3) := by decide +kernel
theorem dX4_settle_100 : decode cX4_settle 100 = .ok (.ifCond .eq 21, 3) := by decide +kernel
theorem dX4_settle_103 : decode cX4_settle 103 = .ok (.aload_n 0, 1) := by decide +kernel
theorem dX4_settle_104 : decode cX4_settle 104 = .ok (.iload 4, 2) := by decide +kernel
theorem dX4_settle_106 : decode cX4_settle 106 = .ok (.iconst 2, 1) := by decide +kernel
theorem dX4_settle_107 : decode cX4_settle 107 = .ok (.iconst 1, 1) := by decide +kernel
theorem dX4_settle_108 : decode cX4_settle 108 = .ok (.invokevirtual 80, 3) := by decide +kernel
theorem dX4_settle_111 : decode cX4_settle 111 = .ok (.ifCond .eq 10, 3) := by decide +kernel
theorem dX4_settle_114 : decode cX4_settle 114 = .ok (.iconst 1, 1) := by decide +kernel
theorem dX4_settle_115 : decode cX4_settle 115 = .ok (.iload 4, 2) := by decide +kernel
theorem dX4_settle_117 : decode cX4_settle 117 = .ok (.ishl, 1) := by decide +kernel
theorem dX4_settle_118 : decode cX4_settle 118 = .ok (.goto 4, 3) := by decide +kernel
theorem dX4_settle_121 : decode cX4_settle 121 = .ok (.iconst 0, 1) := by decide +kernel
theorem dX4_settle_122 : decode cX4_settle 122 = .ok (.ior, 1) := by decide +kernel
theorem dX4_settle_123 : decode cX4_settle 123 = .ok (.istore_n 2, 1) := by decide +kernel
theorem dX4_settle_124 : decode cX4_settle 124 = .ok (.iload_n 3, 1) := by decide +kernel
theorem dX4_settle_125 : decode cX4_settle 125 = .ok (.aload_n 0, 1) := by decide +kernel
theorem dX4_settle_126 : decode cX4_settle 126 = .ok (.iload_n 1, 1) := by decide +kernel
theorem dX4_settle_127 : decode cX4_settle 127 = .ok (.iconst 1, 1) := by decide +kernel
theorem dX4_settle_128 : decode cX4_settle 128 = .ok (.iconst 2, 1) := by decide +kernel
theorem dX4_settle_129 : decode cX4_settle 129 = .ok (.invokevirtual 80, 3) := by decide +kernel
theorem dX4_settle_132 : decode cX4_settle 132 = .ok (.ifCond .eq 21, 3) := by decide +kernel
theorem dX4_settle_135 : decode cX4_settle 135 = .ok (.aload_n 0, 1) := by decide +kernel
theorem dX4_settle_136 : decode cX4_settle 136 = .ok (.iload 4, 2) := by decide +kernel
theorem dX4_settle_138 : decode cX4_settle 138 = .ok (.iconst 1, 1) := by decide +kernel
theorem dX4_settle_139 : decode cX4_settle 139 = .ok (.iconst 2, 1) := by decide +kernel
theorem dX4_settle_140 : decode cX4_settle 140 = .ok (.invokevirtual 80, 3) := by decide +kernel
theorem dX4_settle_143 : decode cX4_settle 143 = .ok (.ifCond .eq 10, 3) := by decide +kernel
theorem dX4_settle_146 : decode cX4_settle 146 = .ok (.iconst 1, 1) := by decide +kernel
theorem dX4_settle_147 : decode cX4_settle 147 = .ok (.iload 4, 2) := by decide +kernel
theorem dX4_settle_149 : decode cX4_settle 149 = .ok (.ishl, 1) := by decide +kernel
theorem dX4_settle_150 : decode cX4_settle 150 = .ok (.goto 4, 3) := by decide +kernel
theorem dX4_settle_153 : decode cX4_settle 153 = .ok (.iconst 0, 1) := by decide +kernel
theorem dX4_settle_154 : decode cX4_settle 154 = .ok (.ior, 1) := by decide +kernel
theorem dX4_settle_155 : decode cX4_settle 155 = .ok (.istore_n 3, 1) := by decide +kernel
theorem dX4_settle_156 : decode cX4_settle 156 = .ok (.iinc 4 1, 3) := by decide +kernel
theorem dX4_settle_159 : decode cX4_settle 159 = .ok (.goto (-142), 3) := by decide +kernel
theorem dX4_settle_162 : decode cX4_settle 162 = .ok (.aload_n 0, 1) := by decide +kernel
theorem dX4_settle_163 : decode cX4_settle 163 = .ok (.getfield 24, 3) := by decide +kernel
theorem dX4_settle_166 : decode cX4_settle 166 = .ok (.iload_n 1, 1) := by decide +kernel
theorem dX4_settle_167 : decode cX4_settle 167 = .ok (.iload_n 2, 1) := by decide +kernel
theorem dX4_settle_168 : decode cX4_settle 168 = .ok (.iastore, 1) := by decide +kernel
theorem dX4_settle_169 : decode cX4_settle 169 = .ok (.aload_n 0, 1) := by decide +kernel
theorem dX4_settle_170 : decode cX4_settle 170 = .ok (.getfield 27, 3) := by decide +kernel
theorem dX4_settle_173 : decode cX4_settle 173 = .ok (.iload_n 1, 1) := by decide +kernel
theorem dX4_settle_174 : decode cX4_settle 174 = .ok (.iload_n 3, 1) := by decide +kernel
theorem dX4_settle_175 : decode cX4_settle 175 = .ok (.iastore, 1) := by decide +kernel
theorem dX4_settle_176 : decode cX4_settle 176 = .ok (.iinc 1 1, 3) := by decide +kernel
theorem dX4_settle_179 : decode cX4_settle 179 = .ok (.goto (-177), 3) := by decide +kernel
theorem dX4_settle_182 : decode cX4_settle 182 = .ok (.return_, 1) := by decide +kernel
/-! MixfixDesk$Rules.settle()V -/
abbrev rm_X4_settle : Room := { frames := 3, cells := 0, slots := 0, locals := 69 }
theorem X4_settle_inX4 : ∀ w ∈ wsX40, w ∈ wsX4_settle := by decide +kernel
abbrev RT_X4_settle (p : Program) (l : Launch) (e : Env) (s : State) (m : MethodId) (args : Array Value) (below : List Frame) (meth : Method) (c : Code) (Q : State → Prop) (dC : Nat → ClassId) (dI : Nat → Nat → Nat) (cI cJ cB cZ : ClassId) (A : Nat → Prop) (aR : Nat → Nat) (R_nodes : Int32) (R_arrows : Int32) (R_operators : Int32) (R_tighter : Nat → Int32) (R_size : Nat → Int32) (R_home : Nat → Int32) (R_way : Nat → Int32) (R_elements : Nat → Int64) (res : (Nat → Int32) × (Nat → Int32)) : Prop := ∀ (R_firstTakes : Nat → Int32) (R_lastTakes : Nat → Int32), some (R_firstTakes, R_lastTakes) = some res → ∀ (pc : Nat) (H : Heap) (locs : List Loc) (ls : Array Slot), decode cX4_settle pc = .ok (.return_, 1) → va_P (dC, dI) vwCl [((aR 0), .inr (4, [.ref (aR 1), .ref (aR 2), .ref (aR 3), .ref (aR 4), .ref (aR 5), .ref (aR 6), .ref (aR 7), .int R_nodes, .int R_arrows, .int R_operators])), ((aR 1), .inl (cI, 16, .inl R_tighter)), ((aR 2), .inl (cI, 30, .inl R_size)), ((aR 3), .inl (cI, 30, .inl R_home)), ((aR 4), .inl (cI, 30, .inl R_way)), ((aR 5), .inl (cI, 30, .inl R_firstTakes)), ((aR 6), .inl (cI, 30, .inl R_lastTakes)), ((aR 7), .inl (cJ, 270, .inr (.inl R_elements)))] H → va_D A [((aR 0), .inr (4, [.ref (aR 1), .ref (aR 2), .ref (aR 3), .ref (aR 4), .ref (aR 5), .ref (aR 6), .ref (aR 7), .int R_nodes, .int R_arrows, .int R_operators])), ((aR 1), .inl (cI, 16, .inl R_tighter)), ((aR 2), .inl (cI, 30, .inl R_size)), ((aR 3), .inl (cI, 30, .inl R_home)), ((aR 4), .inl (cI, 30, .inl R_way)), ((aR 5), .inl (cI, 30, .inl R_firstTakes)), ((aR 6), .inl (cI, 30, .inl R_lastTakes)), ((aR 7), .inl (cJ, 270, .inr (.inl R_elements)))] → va_S A s.heap H locs → W p l e rm_X4_settle s m args below meth c H locs 0 0 Q (F0 m pc ls [])
set_option maxHeartbeats 4000000 in
set_option maxRecDepth 100000 in
theorem k_X4_settle_156 {p : Program} {l : Launch} {e : Env} {s : State} {m : MethodId} {args : Array Value} {below : List Frame} {meth : Method} {c : Code} {Q : State → Prop} {dC : Nat → ClassId} {dI : Nat → Nat → Nat} {cI cJ cB cZ : ClassId} {A : Nat → Prop} (C0 : Cx p s m meth c args cX4_settle 5 none wsX4_settle RX4) (hK : va_K (dC, dI) vwCl [(cI, .int), (cJ, .long), (cB, .byte), (cZ, .boolean)] s) (hN : NW s) (hA : ∀ q, s.heap.size ≤ q → A q) (aR : Nat → Nat) (R_nodes : Int32) (R_arrows : Int32) (R_operators : Int32) (R_tighter : Nat → Int32) (R_size : Nat → Int32) (R_home : Nat → Int32) (R_way : Nat → Int32) (R_elements : Nat → Int64) (res : (Nat → Int32) × (Nat → Int32)) (RET : RT_X4_settle p l e s m args below meth c Q dC dI cI cJ cB cZ A aR R_nodes R_arrows R_operators R_tighter R_size R_home R_way R_elements res) (k2 : (Nat → Int32) → (Nat → Int32) → Int32 → Option ((Nat → Int32) × (Nat → Int32))) (k17 : (Nat → Int32) → (Nat → Int32) → Int32 → Int32 → Int32 → Int32 → Option ((Nat → Int32) × (Nat → Int32))) (hk2 : ∀ (R_firstTakes : Nat → Int32) (R_lastTakes : Nat → Int32) (x1 : Int32), k2 R_firstTakes R_lastTakes x1 = some res → ∀ (H : Heap) (locs : List Loc), va_P (dC, dI) vwCl [((aR 0), .inr (4, [.ref (aR 1), .ref (aR 2), .ref (aR 3), .ref (aR 4), .ref (aR 5), .ref (aR 6), .ref (aR 7), .int R_nodes, .int R_arrows, .int R_operators])), ((aR 1), .inl (cI, 16, .inl R_tighter)), ((aR 2), .inl (cI, 30, .inl R_size)), ((aR 3), .inl (cI, 30, .inl R_home)), ((aR 4), .inl (cI, 30, .inl R_way)), ((aR 5), .inl (cI, 30, .inl R_firstTakes)), ((aR 6), .inl (cI, 30, .inl R_lastTakes)), ((aR 7), .inl (cJ, 270, .inr (.inl R_elements)))] H → va_D A [((aR 0), .inr (4, [.ref (aR 1), .ref (aR 2), .ref (aR 3), .ref (aR 4), .ref (aR 5), .ref (aR 6), .ref (aR 7), .int R_nodes, .int R_arrows, .int R_operators])), ((aR 1), .inl (cI, 16, .inl R_tighter)), ((aR 2), .inl (cI, 30, .inl R_size)), ((aR 3), .inl (cI, 30, .inl R_home)), ((aR 4), .inl (cI, 30, .inl R_way)), ((aR 5), .inl (cI, 30, .inl R_firstTakes)), ((aR 6), .inl (cI, 30, .inl R_lastTakes)), ((aR 7), .inl (cJ, 270, .inr (.inl R_elements)))] → va_S A s.heap H locs → ∀ (ls : Array Slot), lv_has ls 5 [(0, .ref (aR 0)), (1, .int x1)] → W p l e rm_X4_settle s m args below meth c H locs 0 0 Q (F0 m 2 ls [])) (hk17 : ∀ (R_firstTakes : Nat → Int32) (R_lastTakes : Nat → Int32) (x1 : Int32) (x2 : Int32) (x3 : Int32) (x4 : Int32), k17 R_firstTakes R_lastTakes x1 x2 x3 x4 = some res → ∀ (H : Heap) (locs : List Loc), va_P (dC, dI) vwCl [((aR 0), .inr (4, [.ref (aR 1), .ref (aR 2), .ref (aR 3), .ref (aR 4), .ref (aR 5), .ref (aR 6), .ref (aR 7), .int R_nodes, .int R_arrows, .int R_operators])), ((aR 1), .inl (cI, 16, .inl R_tighter)), ((aR 2), .inl (cI, 30, .inl R_size)), ((aR 3), .inl (cI, 30, .inl R_home)), ((aR 4), .inl (cI, 30, .inl R_way)), ((aR 5), .inl (cI, 30, .inl R_firstTakes)), ((aR 6), .inl (cI, 30, .inl R_lastTakes)), ((aR 7), .inl (cJ, 270, .inr (.inl R_elements)))] H → va_D A [((aR 0), .inr (4, [.ref (aR 1), .ref (aR 2), .ref (aR 3), .ref (aR 4), .ref (aR 5), .ref (aR 6), .ref (aR 7), .int R_nodes, .int R_arrows, .int R_operators])), ((aR 1), .inl (cI, 16, .inl R_tighter)), ((aR 2), .inl (cI, 30, .inl R_size)), ((aR 3), .inl (cI, 30, .inl R_home)), ((aR 4), .inl (cI, 30, .inl R_way)), ((aR 5), .inl (cI, 30, .inl R_firstTakes)), ((aR 6), .inl (cI, 30, .inl R_lastTakes)), ((aR 7), .inl (cJ, 270, .inr (.inl R_elements)))] → va_S A s.heap H locs → ∀ (ls : Array Slot), lv_has ls 5 [(0, .ref (aR 0)), (1, .int x1), (2, .int x2), (3, .int x3), (4, .int x4)] → W p l e rm_X4_settle s m args below meth c H locs 0 0 Q (F0 m 17 ls [])) : ∀ (R_firstTakes : Nat → Int32) (R_lastTakes : Nat → Int32) (x1 : Int32) (x2 : Int32) (x3 : Int32) (x4 : Int32), m_X4_settle_156 R_operators R_tighter R_size R_home R_way R_elements k2 k17 R_firstTakes R_lastTakes x1 x2 x3 x4 = some res → ∀ (H : Heap) (locs : List Loc), va_P (dC, dI) vwCl [((aR 0), .inr (4, [.ref (aR 1), .ref (aR 2), .ref (aR 3), .ref (aR 4), .ref (aR 5), .ref (aR 6), .ref (aR 7), .int R_nodes, .int R_arrows, .int R_operators])), ((aR 1), .inl (cI, 16, .inl R_tighter)), ((aR 2), .inl (cI, 30, .inl R_size)), ((aR 3), .inl (cI, 30, .inl R_home)), ((aR 4), .inl (cI, 30, .inl R_way)), ((aR 5), .inl (cI, 30, .inl R_firstTakes)), ((aR 6), .inl (cI, 30, .inl R_lastTakes)), ((aR 7), .inl (cJ, 270, .inr (.inl R_elements)))] H → va_D A [((aR 0), .inr (4, [.ref (aR 1), .ref (aR 2), .ref (aR 3), .ref (aR 4), .ref (aR 5), .ref (aR 6), .ref (aR 7), .int R_nodes, .int R_arrows, .int R_operators])), ((aR 1), .inl (cI, 16, .inl R_tighter)), ((aR 2), .inl (cI, 30, .inl R_size)), ((aR 3), .inl (cI, 30, .inl R_home)), ((aR 4), .inl (cI, 30, .inl R_way)), ((aR 5), .inl (cI, 30, .inl R_firstTakes)), ((aR 6), .inl (cI, 30, .inl R_lastTakes)), ((aR 7), .inl (cJ, 270, .inr (.inl R_elements)))] → va_S A s.heap H locs → ∀ (ls : Array Slot), lv_has ls 5 [(0, .ref (aR 0)), (1, .int x1), (2, .int x2), (3, .int x3), (4, .int x4)] → W p l e rm_X4_settle s m args below meth c H locs 0 0 Q (F0 m 156 ls []) := by
  obtain ⟨⟨hx, hb, hml, hown, hts⟩, hr, hlocks⟩ := id C0
  intro R_firstTakes R_lastTakes x1 x2 x3 x4 hm H locs hP hD hS ls hl
  have hm : (k17 R_firstTakes R_lastTakes x1 x2 x3 (x4 + 1)) = some res := hm
  refine lv_iinc (v := x4 + 1) (lv' := [(4, .int (x4 + 1)), (0, .ref (aR 0)), (1, .int x1), (2, .int x2), (3, .int x3)]) hx hb dX4_settle_156 hl (k := 4) rfl rfl (by decide) rfl (fun ls hl => ?_)
  refine lv_goto (tgt := 17) hx hb dX4_settle_159 (by decide) ?_
  exact hk17 R_firstTakes R_lastTakes x1 x2 x3 (x4 + 1) hm H locs hP hD hS ls (lv_sub hl [1, 2, 3, 4, 0] rfl)
set_option maxHeartbeats 4000000 in
set_option maxRecDepth 100000 in
theorem k_X4_settle_59 {p : Program} {l : Launch} {e : Env} {s : State} {m : MethodId} {args : Array Value} {below : List Frame} {meth : Method} {c : Code} {Q : State → Prop} {dC : Nat → ClassId} {dI : Nat → Nat → Nat} {cI cJ cB cZ : ClassId} {A : Nat → Prop} (C0 : Cx p s m meth c args cX4_settle 5 none wsX4_settle RX4) (hK : va_K (dC, dI) vwCl [(cI, .int), (cJ, .long), (cB, .byte), (cZ, .boolean)] s) (hN : NW s) (hA : ∀ q, s.heap.size ≤ q → A q) (aR : Nat → Nat) (R_nodes : Int32) (R_arrows : Int32) (R_operators : Int32) (R_tighter : Nat → Int32) (R_size : Nat → Int32) (R_home : Nat → Int32) (R_way : Nat → Int32) (R_elements : Nat → Int64) (res : (Nat → Int32) × (Nat → Int32)) (RET : RT_X4_settle p l e s m args below meth c Q dC dI cI cJ cB cZ A aR R_nodes R_arrows R_operators R_tighter R_size R_home R_way R_elements res) (k2 : (Nat → Int32) → (Nat → Int32) → Int32 → Option ((Nat → Int32) × (Nat → Int32))) (k17 : (Nat → Int32) → (Nat → Int32) → Int32 → Int32 → Int32 → Int32 → Option ((Nat → Int32) × (Nat → Int32))) (hk2 : ∀ (R_firstTakes : Nat → Int32) (R_lastTakes : Nat → Int32) (x1 : Int32), k2 R_firstTakes R_lastTakes x1 = some res → ∀ (H : Heap) (locs : List Loc), va_P (dC, dI) vwCl [((aR 0), .inr (4, [.ref (aR 1), .ref (aR 2), .ref (aR 3), .ref (aR 4), .ref (aR 5), .ref (aR 6), .ref (aR 7), .int R_nodes, .int R_arrows, .int R_operators])), ((aR 1), .inl (cI, 16, .inl R_tighter)), ((aR 2), .inl (cI, 30, .inl R_size)), ((aR 3), .inl (cI, 30, .inl R_home)), ((aR 4), .inl (cI, 30, .inl R_way)), ((aR 5), .inl (cI, 30, .inl R_firstTakes)), ((aR 6), .inl (cI, 30, .inl R_lastTakes)), ((aR 7), .inl (cJ, 270, .inr (.inl R_elements)))] H → va_D A [((aR 0), .inr (4, [.ref (aR 1), .ref (aR 2), .ref (aR 3), .ref (aR 4), .ref (aR 5), .ref (aR 6), .ref (aR 7), .int R_nodes, .int R_arrows, .int R_operators])), ((aR 1), .inl (cI, 16, .inl R_tighter)), ((aR 2), .inl (cI, 30, .inl R_size)), ((aR 3), .inl (cI, 30, .inl R_home)), ((aR 4), .inl (cI, 30, .inl R_way)), ((aR 5), .inl (cI, 30, .inl R_firstTakes)), ((aR 6), .inl (cI, 30, .inl R_lastTakes)), ((aR 7), .inl (cJ, 270, .inr (.inl R_elements)))] → va_S A s.heap H locs → ∀ (ls : Array Slot), lv_has ls 5 [(0, .ref (aR 0)), (1, .int x1)] → W p l e rm_X4_settle s m args below meth c H locs 0 0 Q (F0 m 2 ls [])) (hk17 : ∀ (R_firstTakes : Nat → Int32) (R_lastTakes : Nat → Int32) (x1 : Int32) (x2 : Int32) (x3 : Int32) (x4 : Int32), k17 R_firstTakes R_lastTakes x1 x2 x3 x4 = some res → ∀ (H : Heap) (locs : List Loc), va_P (dC, dI) vwCl [((aR 0), .inr (4, [.ref (aR 1), .ref (aR 2), .ref (aR 3), .ref (aR 4), .ref (aR 5), .ref (aR 6), .ref (aR 7), .int R_nodes, .int R_arrows, .int R_operators])), ((aR 1), .inl (cI, 16, .inl R_tighter)), ((aR 2), .inl (cI, 30, .inl R_size)), ((aR 3), .inl (cI, 30, .inl R_home)), ((aR 4), .inl (cI, 30, .inl R_way)), ((aR 5), .inl (cI, 30, .inl R_firstTakes)), ((aR 6), .inl (cI, 30, .inl R_lastTakes)), ((aR 7), .inl (cJ, 270, .inr (.inl R_elements)))] H → va_D A [((aR 0), .inr (4, [.ref (aR 1), .ref (aR 2), .ref (aR 3), .ref (aR 4), .ref (aR 5), .ref (aR 6), .ref (aR 7), .int R_nodes, .int R_arrows, .int R_operators])), ((aR 1), .inl (cI, 16, .inl R_tighter)), ((aR 2), .inl (cI, 30, .inl R_size)), ((aR 3), .inl (cI, 30, .inl R_home)), ((aR 4), .inl (cI, 30, .inl R_way)), ((aR 5), .inl (cI, 30, .inl R_firstTakes)), ((aR 6), .inl (cI, 30, .inl R_lastTakes)), ((aR 7), .inl (cJ, 270, .inr (.inl R_elements)))] → va_S A s.heap H locs → ∀ (ls : Array Slot), lv_has ls 5 [(0, .ref (aR 0)), (1, .int x1), (2, .int x2), (3, .int x3), (4, .int x4)] → W p l e rm_X4_settle s m args below meth c H locs 0 0 Q (F0 m 17 ls [])) : ∀ (R_firstTakes : Nat → Int32) (R_lastTakes : Nat → Int32) (x1 : Int32) (x2 : Int32) (x3 : Int32) (x4 : Int32), m_X4_settle_59 R_operators R_tighter R_size R_home R_way R_elements k2 k17 R_firstTakes R_lastTakes x1 x2 x3 x4 = some res → ∀ (H : Heap) (locs : List Loc), va_P (dC, dI) vwCl [((aR 0), .inr (4, [.ref (aR 1), .ref (aR 2), .ref (aR 3), .ref (aR 4), .ref (aR 5), .ref (aR 6), .ref (aR 7), .int R_nodes, .int R_arrows, .int R_operators])), ((aR 1), .inl (cI, 16, .inl R_tighter)), ((aR 2), .inl (cI, 30, .inl R_size)), ((aR 3), .inl (cI, 30, .inl R_home)), ((aR 4), .inl (cI, 30, .inl R_way)), ((aR 5), .inl (cI, 30, .inl R_firstTakes)), ((aR 6), .inl (cI, 30, .inl R_lastTakes)), ((aR 7), .inl (cJ, 270, .inr (.inl R_elements)))] H → va_D A [((aR 0), .inr (4, [.ref (aR 1), .ref (aR 2), .ref (aR 3), .ref (aR 4), .ref (aR 5), .ref (aR 6), .ref (aR 7), .int R_nodes, .int R_arrows, .int R_operators])), ((aR 1), .inl (cI, 16, .inl R_tighter)), ((aR 2), .inl (cI, 30, .inl R_size)), ((aR 3), .inl (cI, 30, .inl R_home)), ((aR 4), .inl (cI, 30, .inl R_way)), ((aR 5), .inl (cI, 30, .inl R_firstTakes)), ((aR 6), .inl (cI, 30, .inl R_lastTakes)), ((aR 7), .inl (cJ, 270, .inr (.inl R_elements)))] → va_S A s.heap H locs → ∀ (ls : Array Slot), lv_has ls 5 [(0, .ref (aR 0)), (1, .int x1), (2, .int x2), (3, .int x3), (4, .int x4)] → W p l e rm_X4_settle s m args below meth c H locs 0 0 Q (F0 m 59 ls []) := by
  obtain ⟨⟨hx, hb, hml, hown, hts⟩, hr, hlocks⟩ := id C0
  intro R_firstTakes R_lastTakes x1 x2 x3 x4 hm H locs hP hD hS ls hl
  have hm : (m_X4_settle_156 R_operators R_tighter R_size R_home R_way R_elements k2 k17 R_firstTakes R_lastTakes x1 (x2 ||| (1 <<< (x4 &&& 31))) (x3 ||| (1 <<< (x4 &&& 31))) x4) = some res := hm
  refine lv_iload_n hx hb dX4_settle_59 rfl (lv_at hl 2 rfl) ?_
  refine lv_iconst (v := 1) hx hb dX4_settle_60 (by decide) ?_
  refine lv_iload hx hb dX4_settle_61 (lv_at hl 4 rfl) ?_
  refine lv_ishl hx hb dX4_settle_63 ?_
  refine lv_ior hx hb dX4_settle_64 ?_
  refine lv_istore_n (lv' := [(2, .int (x2 ||| (1 <<< (x4 &&& 31)))), (0, .ref (aR 0)), (1, .int x1), (3, .int x3), (4, .int x4)]) hx hb dX4_settle_65 rfl hl (by decide) rfl (fun ls hl => ?_)
  refine lv_iload_n hx hb dX4_settle_66 rfl (lv_at hl 3 rfl) ?_
  refine lv_iconst (v := 1) hx hb dX4_settle_67 (by decide) ?_
  refine lv_iload hx hb dX4_settle_68 (lv_at hl 4 rfl) ?_
  refine lv_ishl hx hb dX4_settle_70 ?_
  refine lv_ior hx hb dX4_settle_71 ?_
  refine lv_istore_n (lv' := [(3, .int (x3 ||| (1 <<< (x4 &&& 31)))), (2, .int (x2 ||| (1 <<< (x4 &&& 31)))), (0, .ref (aR 0)), (1, .int x1), (4, .int x4)]) hx hb dX4_settle_72 rfl hl (by decide) rfl (fun ls hl => ?_)
  refine lv_goto (tgt := 156) hx hb dX4_settle_73 (by decide) ?_
  exact k_X4_settle_156 C0 hK hN hA aR R_nodes R_arrows R_operators R_tighter R_size R_home R_way R_elements res RET k2 k17 hk2 hk17 R_firstTakes R_lastTakes x1 (x2 ||| (1 <<< (x4 &&& 31))) (x3 ||| (1 <<< (x4 &&& 31))) x4 hm H locs hP hD hS ls (lv_sub hl [2, 3, 1, 0, 4] rfl)
set_option maxHeartbeats 4000000 in
set_option maxRecDepth 100000 in
theorem k_X4_settle_154 {p : Program} {l : Launch} {e : Env} {s : State} {m : MethodId} {args : Array Value} {below : List Frame} {meth : Method} {c : Code} {Q : State → Prop} {dC : Nat → ClassId} {dI : Nat → Nat → Nat} {cI cJ cB cZ : ClassId} {A : Nat → Prop} (C0 : Cx p s m meth c args cX4_settle 5 none wsX4_settle RX4) (hK : va_K (dC, dI) vwCl [(cI, .int), (cJ, .long), (cB, .byte), (cZ, .boolean)] s) (hN : NW s) (hA : ∀ q, s.heap.size ≤ q → A q) (aR : Nat → Nat) (R_nodes : Int32) (R_arrows : Int32) (R_operators : Int32) (R_tighter : Nat → Int32) (R_size : Nat → Int32) (R_home : Nat → Int32) (R_way : Nat → Int32) (R_elements : Nat → Int64) (res : (Nat → Int32) × (Nat → Int32)) (RET : RT_X4_settle p l e s m args below meth c Q dC dI cI cJ cB cZ A aR R_nodes R_arrows R_operators R_tighter R_size R_home R_way R_elements res) (k2 : (Nat → Int32) → (Nat → Int32) → Int32 → Option ((Nat → Int32) × (Nat → Int32))) (k17 : (Nat → Int32) → (Nat → Int32) → Int32 → Int32 → Int32 → Int32 → Option ((Nat → Int32) × (Nat → Int32))) (hk2 : ∀ (R_firstTakes : Nat → Int32) (R_lastTakes : Nat → Int32) (x1 : Int32), k2 R_firstTakes R_lastTakes x1 = some res → ∀ (H : Heap) (locs : List Loc), va_P (dC, dI) vwCl [((aR 0), .inr (4, [.ref (aR 1), .ref (aR 2), .ref (aR 3), .ref (aR 4), .ref (aR 5), .ref (aR 6), .ref (aR 7), .int R_nodes, .int R_arrows, .int R_operators])), ((aR 1), .inl (cI, 16, .inl R_tighter)), ((aR 2), .inl (cI, 30, .inl R_size)), ((aR 3), .inl (cI, 30, .inl R_home)), ((aR 4), .inl (cI, 30, .inl R_way)), ((aR 5), .inl (cI, 30, .inl R_firstTakes)), ((aR 6), .inl (cI, 30, .inl R_lastTakes)), ((aR 7), .inl (cJ, 270, .inr (.inl R_elements)))] H → va_D A [((aR 0), .inr (4, [.ref (aR 1), .ref (aR 2), .ref (aR 3), .ref (aR 4), .ref (aR 5), .ref (aR 6), .ref (aR 7), .int R_nodes, .int R_arrows, .int R_operators])), ((aR 1), .inl (cI, 16, .inl R_tighter)), ((aR 2), .inl (cI, 30, .inl R_size)), ((aR 3), .inl (cI, 30, .inl R_home)), ((aR 4), .inl (cI, 30, .inl R_way)), ((aR 5), .inl (cI, 30, .inl R_firstTakes)), ((aR 6), .inl (cI, 30, .inl R_lastTakes)), ((aR 7), .inl (cJ, 270, .inr (.inl R_elements)))] → va_S A s.heap H locs → ∀ (ls : Array Slot), lv_has ls 5 [(0, .ref (aR 0)), (1, .int x1)] → W p l e rm_X4_settle s m args below meth c H locs 0 0 Q (F0 m 2 ls [])) (hk17 : ∀ (R_firstTakes : Nat → Int32) (R_lastTakes : Nat → Int32) (x1 : Int32) (x2 : Int32) (x3 : Int32) (x4 : Int32), k17 R_firstTakes R_lastTakes x1 x2 x3 x4 = some res → ∀ (H : Heap) (locs : List Loc), va_P (dC, dI) vwCl [((aR 0), .inr (4, [.ref (aR 1), .ref (aR 2), .ref (aR 3), .ref (aR 4), .ref (aR 5), .ref (aR 6), .ref (aR 7), .int R_nodes, .int R_arrows, .int R_operators])), ((aR 1), .inl (cI, 16, .inl R_tighter)), ((aR 2), .inl (cI, 30, .inl R_size)), ((aR 3), .inl (cI, 30, .inl R_home)), ((aR 4), .inl (cI, 30, .inl R_way)), ((aR 5), .inl (cI, 30, .inl R_firstTakes)), ((aR 6), .inl (cI, 30, .inl R_lastTakes)), ((aR 7), .inl (cJ, 270, .inr (.inl R_elements)))] H → va_D A [((aR 0), .inr (4, [.ref (aR 1), .ref (aR 2), .ref (aR 3), .ref (aR 4), .ref (aR 5), .ref (aR 6), .ref (aR 7), .int R_nodes, .int R_arrows, .int R_operators])), ((aR 1), .inl (cI, 16, .inl R_tighter)), ((aR 2), .inl (cI, 30, .inl R_size)), ((aR 3), .inl (cI, 30, .inl R_home)), ((aR 4), .inl (cI, 30, .inl R_way)), ((aR 5), .inl (cI, 30, .inl R_firstTakes)), ((aR 6), .inl (cI, 30, .inl R_lastTakes)), ((aR 7), .inl (cJ, 270, .inr (.inl R_elements)))] → va_S A s.heap H locs → ∀ (ls : Array Slot), lv_has ls 5 [(0, .ref (aR 0)), (1, .int x1), (2, .int x2), (3, .int x3), (4, .int x4)] → W p l e rm_X4_settle s m args below meth c H locs 0 0 Q (F0 m 17 ls [])) : ∀ (R_firstTakes : Nat → Int32) (R_lastTakes : Nat → Int32) (x1 : Int32) (x2 : Int32) (x4 : Int32) (y0 : Int32) (y1 : Int32), m_X4_settle_154 R_operators R_tighter R_size R_home R_way R_elements k2 k17 R_firstTakes R_lastTakes x1 x2 x4 y0 y1 = some res → ∀ (H : Heap) (locs : List Loc), va_P (dC, dI) vwCl [((aR 0), .inr (4, [.ref (aR 1), .ref (aR 2), .ref (aR 3), .ref (aR 4), .ref (aR 5), .ref (aR 6), .ref (aR 7), .int R_nodes, .int R_arrows, .int R_operators])), ((aR 1), .inl (cI, 16, .inl R_tighter)), ((aR 2), .inl (cI, 30, .inl R_size)), ((aR 3), .inl (cI, 30, .inl R_home)), ((aR 4), .inl (cI, 30, .inl R_way)), ((aR 5), .inl (cI, 30, .inl R_firstTakes)), ((aR 6), .inl (cI, 30, .inl R_lastTakes)), ((aR 7), .inl (cJ, 270, .inr (.inl R_elements)))] H → va_D A [((aR 0), .inr (4, [.ref (aR 1), .ref (aR 2), .ref (aR 3), .ref (aR 4), .ref (aR 5), .ref (aR 6), .ref (aR 7), .int R_nodes, .int R_arrows, .int R_operators])), ((aR 1), .inl (cI, 16, .inl R_tighter)), ((aR 2), .inl (cI, 30, .inl R_size)), ((aR 3), .inl (cI, 30, .inl R_home)), ((aR 4), .inl (cI, 30, .inl R_way)), ((aR 5), .inl (cI, 30, .inl R_firstTakes)), ((aR 6), .inl (cI, 30, .inl R_lastTakes)), ((aR 7), .inl (cJ, 270, .inr (.inl R_elements)))] → va_S A s.heap H locs → ∀ (ls : Array Slot), lv_has ls 5 [(0, .ref (aR 0)), (1, .int x1), (2, .int x2), (4, .int x4)] → W p l e rm_X4_settle s m args below meth c H locs 0 0 Q (F0 m 154 ls [.int y0, .int y1]) := by
  obtain ⟨⟨hx, hb, hml, hown, hts⟩, hr, hlocks⟩ := id C0
  intro R_firstTakes R_lastTakes x1 x2 x4 y0 y1 hm H locs hP hD hS ls hl
  have hm : (m_X4_settle_156 R_operators R_tighter R_size R_home R_way R_elements k2 k17 R_firstTakes R_lastTakes x1 x2 (y1 ||| y0) x4) = some res := hm
  refine lv_ior hx hb dX4_settle_154 ?_
  refine lv_istore_n (lv' := [(3, .int (y1 ||| y0)), (0, .ref (aR 0)), (1, .int x1), (2, .int x2), (4, .int x4)]) hx hb dX4_settle_155 rfl hl (by decide) rfl (fun ls hl => ?_)
  exact k_X4_settle_156 C0 hK hN hA aR R_nodes R_arrows R_operators R_tighter R_size R_home R_way R_elements res RET k2 k17 hk2 hk17 R_firstTakes R_lastTakes x1 x2 (y1 ||| y0) x4 hm H locs hP hD hS ls (lv_sub hl [1, 2, 3, 0, 4] rfl)
set_option maxHeartbeats 4000000 in
set_option maxRecDepth 100000 in
theorem k_X4_settle_153 {p : Program} {l : Launch} {e : Env} {s : State} {m : MethodId} {args : Array Value} {below : List Frame} {meth : Method} {c : Code} {Q : State → Prop} {dC : Nat → ClassId} {dI : Nat → Nat → Nat} {cI cJ cB cZ : ClassId} {A : Nat → Prop} (C0 : Cx p s m meth c args cX4_settle 5 none wsX4_settle RX4) (hK : va_K (dC, dI) vwCl [(cI, .int), (cJ, .long), (cB, .byte), (cZ, .boolean)] s) (hN : NW s) (hA : ∀ q, s.heap.size ≤ q → A q) (aR : Nat → Nat) (R_nodes : Int32) (R_arrows : Int32) (R_operators : Int32) (R_tighter : Nat → Int32) (R_size : Nat → Int32) (R_home : Nat → Int32) (R_way : Nat → Int32) (R_elements : Nat → Int64) (res : (Nat → Int32) × (Nat → Int32)) (RET : RT_X4_settle p l e s m args below meth c Q dC dI cI cJ cB cZ A aR R_nodes R_arrows R_operators R_tighter R_size R_home R_way R_elements res) (k2 : (Nat → Int32) → (Nat → Int32) → Int32 → Option ((Nat → Int32) × (Nat → Int32))) (k17 : (Nat → Int32) → (Nat → Int32) → Int32 → Int32 → Int32 → Int32 → Option ((Nat → Int32) × (Nat → Int32))) (hk2 : ∀ (R_firstTakes : Nat → Int32) (R_lastTakes : Nat → Int32) (x1 : Int32), k2 R_firstTakes R_lastTakes x1 = some res → ∀ (H : Heap) (locs : List Loc), va_P (dC, dI) vwCl [((aR 0), .inr (4, [.ref (aR 1), .ref (aR 2), .ref (aR 3), .ref (aR 4), .ref (aR 5), .ref (aR 6), .ref (aR 7), .int R_nodes, .int R_arrows, .int R_operators])), ((aR 1), .inl (cI, 16, .inl R_tighter)), ((aR 2), .inl (cI, 30, .inl R_size)), ((aR 3), .inl (cI, 30, .inl R_home)), ((aR 4), .inl (cI, 30, .inl R_way)), ((aR 5), .inl (cI, 30, .inl R_firstTakes)), ((aR 6), .inl (cI, 30, .inl R_lastTakes)), ((aR 7), .inl (cJ, 270, .inr (.inl R_elements)))] H → va_D A [((aR 0), .inr (4, [.ref (aR 1), .ref (aR 2), .ref (aR 3), .ref (aR 4), .ref (aR 5), .ref (aR 6), .ref (aR 7), .int R_nodes, .int R_arrows, .int R_operators])), ((aR 1), .inl (cI, 16, .inl R_tighter)), ((aR 2), .inl (cI, 30, .inl R_size)), ((aR 3), .inl (cI, 30, .inl R_home)), ((aR 4), .inl (cI, 30, .inl R_way)), ((aR 5), .inl (cI, 30, .inl R_firstTakes)), ((aR 6), .inl (cI, 30, .inl R_lastTakes)), ((aR 7), .inl (cJ, 270, .inr (.inl R_elements)))] → va_S A s.heap H locs → ∀ (ls : Array Slot), lv_has ls 5 [(0, .ref (aR 0)), (1, .int x1)] → W p l e rm_X4_settle s m args below meth c H locs 0 0 Q (F0 m 2 ls [])) (hk17 : ∀ (R_firstTakes : Nat → Int32) (R_lastTakes : Nat → Int32) (x1 : Int32) (x2 : Int32) (x3 : Int32) (x4 : Int32), k17 R_firstTakes R_lastTakes x1 x2 x3 x4 = some res → ∀ (H : Heap) (locs : List Loc), va_P (dC, dI) vwCl [((aR 0), .inr (4, [.ref (aR 1), .ref (aR 2), .ref (aR 3), .ref (aR 4), .ref (aR 5), .ref (aR 6), .ref (aR 7), .int R_nodes, .int R_arrows, .int R_operators])), ((aR 1), .inl (cI, 16, .inl R_tighter)), ((aR 2), .inl (cI, 30, .inl R_size)), ((aR 3), .inl (cI, 30, .inl R_home)), ((aR 4), .inl (cI, 30, .inl R_way)), ((aR 5), .inl (cI, 30, .inl R_firstTakes)), ((aR 6), .inl (cI, 30, .inl R_lastTakes)), ((aR 7), .inl (cJ, 270, .inr (.inl R_elements)))] H → va_D A [((aR 0), .inr (4, [.ref (aR 1), .ref (aR 2), .ref (aR 3), .ref (aR 4), .ref (aR 5), .ref (aR 6), .ref (aR 7), .int R_nodes, .int R_arrows, .int R_operators])), ((aR 1), .inl (cI, 16, .inl R_tighter)), ((aR 2), .inl (cI, 30, .inl R_size)), ((aR 3), .inl (cI, 30, .inl R_home)), ((aR 4), .inl (cI, 30, .inl R_way)), ((aR 5), .inl (cI, 30, .inl R_firstTakes)), ((aR 6), .inl (cI, 30, .inl R_lastTakes)), ((aR 7), .inl (cJ, 270, .inr (.inl R_elements)))] → va_S A s.heap H locs → ∀ (ls : Array Slot), lv_has ls 5 [(0, .ref (aR 0)), (1, .int x1), (2, .int x2), (3, .int x3), (4, .int x4)] → W p l e rm_X4_settle s m args below meth c H locs 0 0 Q (F0 m 17 ls [])) : ∀ (R_firstTakes : Nat → Int32) (R_lastTakes : Nat → Int32) (x1 : Int32) (x2 : Int32) (x4 : Int32) (y0 : Int32), m_X4_settle_153 R_operators R_tighter R_size R_home R_way R_elements k2 k17 R_firstTakes R_lastTakes x1 x2 x4 y0 = some res → ∀ (H : Heap) (locs : List Loc), va_P (dC, dI) vwCl [((aR 0), .inr (4, [.ref (aR 1), .ref (aR 2), .ref (aR 3), .ref (aR 4), .ref (aR 5), .ref (aR 6), .ref (aR 7), .int R_nodes, .int R_arrows, .int R_operators])), ((aR 1), .inl (cI, 16, .inl R_tighter)), ((aR 2), .inl (cI, 30, .inl R_size)), ((aR 3), .inl (cI, 30, .inl R_home)), ((aR 4), .inl (cI, 30, .inl R_way)), ((aR 5), .inl (cI, 30, .inl R_firstTakes)), ((aR 6), .inl (cI, 30, .inl R_lastTakes)), ((aR 7), .inl (cJ, 270, .inr (.inl R_elements)))] H → va_D A [((aR 0), .inr (4, [.ref (aR 1), .ref (aR 2), .ref (aR 3), .ref (aR 4), .ref (aR 5), .ref (aR 6), .ref (aR 7), .int R_nodes, .int R_arrows, .int R_operators])), ((aR 1), .inl (cI, 16, .inl R_tighter)), ((aR 2), .inl (cI, 30, .inl R_size)), ((aR 3), .inl (cI, 30, .inl R_home)), ((aR 4), .inl (cI, 30, .inl R_way)), ((aR 5), .inl (cI, 30, .inl R_firstTakes)), ((aR 6), .inl (cI, 30, .inl R_lastTakes)), ((aR 7), .inl (cJ, 270, .inr (.inl R_elements)))] → va_S A s.heap H locs → ∀ (ls : Array Slot), lv_has ls 5 [(0, .ref (aR 0)), (1, .int x1), (2, .int x2), (4, .int x4)] → W p l e rm_X4_settle s m args below meth c H locs 0 0 Q (F0 m 153 ls [.int y0]) := by
  obtain ⟨⟨hx, hb, hml, hown, hts⟩, hr, hlocks⟩ := id C0
  intro R_firstTakes R_lastTakes x1 x2 x4 y0 hm H locs hP hD hS ls hl
  have hm : (m_X4_settle_154 R_operators R_tighter R_size R_home R_way R_elements k2 k17 R_firstTakes R_lastTakes x1 x2 x4 0 y0) = some res := hm
  refine lv_iconst (v := 0) hx hb dX4_settle_153 (by decide) ?_
  exact k_X4_settle_154 C0 hK hN hA aR R_nodes R_arrows R_operators R_tighter R_size R_home R_way R_elements res RET k2 k17 hk2 hk17 R_firstTakes R_lastTakes x1 x2 x4 0 y0 hm H locs hP hD hS ls hl
set_option maxHeartbeats 4000000 in
set_option maxRecDepth 100000 in
theorem k_X4_settle_122 {p : Program} {l : Launch} {e : Env} {s : State} {m : MethodId} {args : Array Value} {below : List Frame} {meth : Method} {c : Code} {Q : State → Prop} {dC : Nat → ClassId} {dI : Nat → Nat → Nat} {cI cJ cB cZ : ClassId} {A : Nat → Prop} (C0 : Cx p s m meth c args cX4_settle 5 none wsX4_settle RX4) (hK : va_K (dC, dI) vwCl [(cI, .int), (cJ, .long), (cB, .byte), (cZ, .boolean)] s) (hN : NW s) (hA : ∀ q, s.heap.size ≤ q → A q) (aR : Nat → Nat) (R_nodes : Int32) (R_arrows : Int32) (R_operators : Int32) (R_tighter : Nat → Int32) (R_size : Nat → Int32) (R_home : Nat → Int32) (R_way : Nat → Int32) (R_elements : Nat → Int64) (res : (Nat → Int32) × (Nat → Int32)) (RET : RT_X4_settle p l e s m args below meth c Q dC dI cI cJ cB cZ A aR R_nodes R_arrows R_operators R_tighter R_size R_home R_way R_elements res) (k2 : (Nat → Int32) → (Nat → Int32) → Int32 → Option ((Nat → Int32) × (Nat → Int32))) (k17 : (Nat → Int32) → (Nat → Int32) → Int32 → Int32 → Int32 → Int32 → Option ((Nat → Int32) × (Nat → Int32))) (hk2 : ∀ (R_firstTakes : Nat → Int32) (R_lastTakes : Nat → Int32) (x1 : Int32), k2 R_firstTakes R_lastTakes x1 = some res → ∀ (H : Heap) (locs : List Loc), va_P (dC, dI) vwCl [((aR 0), .inr (4, [.ref (aR 1), .ref (aR 2), .ref (aR 3), .ref (aR 4), .ref (aR 5), .ref (aR 6), .ref (aR 7), .int R_nodes, .int R_arrows, .int R_operators])), ((aR 1), .inl (cI, 16, .inl R_tighter)), ((aR 2), .inl (cI, 30, .inl R_size)), ((aR 3), .inl (cI, 30, .inl R_home)), ((aR 4), .inl (cI, 30, .inl R_way)), ((aR 5), .inl (cI, 30, .inl R_firstTakes)), ((aR 6), .inl (cI, 30, .inl R_lastTakes)), ((aR 7), .inl (cJ, 270, .inr (.inl R_elements)))] H → va_D A [((aR 0), .inr (4, [.ref (aR 1), .ref (aR 2), .ref (aR 3), .ref (aR 4), .ref (aR 5), .ref (aR 6), .ref (aR 7), .int R_nodes, .int R_arrows, .int R_operators])), ((aR 1), .inl (cI, 16, .inl R_tighter)), ((aR 2), .inl (cI, 30, .inl R_size)), ((aR 3), .inl (cI, 30, .inl R_home)), ((aR 4), .inl (cI, 30, .inl R_way)), ((aR 5), .inl (cI, 30, .inl R_firstTakes)), ((aR 6), .inl (cI, 30, .inl R_lastTakes)), ((aR 7), .inl (cJ, 270, .inr (.inl R_elements)))] → va_S A s.heap H locs → ∀ (ls : Array Slot), lv_has ls 5 [(0, .ref (aR 0)), (1, .int x1)] → W p l e rm_X4_settle s m args below meth c H locs 0 0 Q (F0 m 2 ls [])) (hk17 : ∀ (R_firstTakes : Nat → Int32) (R_lastTakes : Nat → Int32) (x1 : Int32) (x2 : Int32) (x3 : Int32) (x4 : Int32), k17 R_firstTakes R_lastTakes x1 x2 x3 x4 = some res → ∀ (H : Heap) (locs : List Loc), va_P (dC, dI) vwCl [((aR 0), .inr (4, [.ref (aR 1), .ref (aR 2), .ref (aR 3), .ref (aR 4), .ref (aR 5), .ref (aR 6), .ref (aR 7), .int R_nodes, .int R_arrows, .int R_operators])), ((aR 1), .inl (cI, 16, .inl R_tighter)), ((aR 2), .inl (cI, 30, .inl R_size)), ((aR 3), .inl (cI, 30, .inl R_home)), ((aR 4), .inl (cI, 30, .inl R_way)), ((aR 5), .inl (cI, 30, .inl R_firstTakes)), ((aR 6), .inl (cI, 30, .inl R_lastTakes)), ((aR 7), .inl (cJ, 270, .inr (.inl R_elements)))] H → va_D A [((aR 0), .inr (4, [.ref (aR 1), .ref (aR 2), .ref (aR 3), .ref (aR 4), .ref (aR 5), .ref (aR 6), .ref (aR 7), .int R_nodes, .int R_arrows, .int R_operators])), ((aR 1), .inl (cI, 16, .inl R_tighter)), ((aR 2), .inl (cI, 30, .inl R_size)), ((aR 3), .inl (cI, 30, .inl R_home)), ((aR 4), .inl (cI, 30, .inl R_way)), ((aR 5), .inl (cI, 30, .inl R_firstTakes)), ((aR 6), .inl (cI, 30, .inl R_lastTakes)), ((aR 7), .inl (cJ, 270, .inr (.inl R_elements)))] → va_S A s.heap H locs → ∀ (ls : Array Slot), lv_has ls 5 [(0, .ref (aR 0)), (1, .int x1), (2, .int x2), (3, .int x3), (4, .int x4)] → W p l e rm_X4_settle s m args below meth c H locs 0 0 Q (F0 m 17 ls [])) : ∀ (R_firstTakes : Nat → Int32) (R_lastTakes : Nat → Int32) (x1 : Int32) (x3 : Int32) (x4 : Int32) (y0 : Int32) (y1 : Int32), m_X4_settle_122 R_operators R_tighter R_size R_home R_way R_elements k2 k17 R_firstTakes R_lastTakes x1 x3 x4 y0 y1 = some res → ∀ (H : Heap) (locs : List Loc), va_P (dC, dI) vwCl [((aR 0), .inr (4, [.ref (aR 1), .ref (aR 2), .ref (aR 3), .ref (aR 4), .ref (aR 5), .ref (aR 6), .ref (aR 7), .int R_nodes, .int R_arrows, .int R_operators])), ((aR 1), .inl (cI, 16, .inl R_tighter)), ((aR 2), .inl (cI, 30, .inl R_size)), ((aR 3), .inl (cI, 30, .inl R_home)), ((aR 4), .inl (cI, 30, .inl R_way)), ((aR 5), .inl (cI, 30, .inl R_firstTakes)), ((aR 6), .inl (cI, 30, .inl R_lastTakes)), ((aR 7), .inl (cJ, 270, .inr (.inl R_elements)))] H → va_D A [((aR 0), .inr (4, [.ref (aR 1), .ref (aR 2), .ref (aR 3), .ref (aR 4), .ref (aR 5), .ref (aR 6), .ref (aR 7), .int R_nodes, .int R_arrows, .int R_operators])), ((aR 1), .inl (cI, 16, .inl R_tighter)), ((aR 2), .inl (cI, 30, .inl R_size)), ((aR 3), .inl (cI, 30, .inl R_home)), ((aR 4), .inl (cI, 30, .inl R_way)), ((aR 5), .inl (cI, 30, .inl R_firstTakes)), ((aR 6), .inl (cI, 30, .inl R_lastTakes)), ((aR 7), .inl (cJ, 270, .inr (.inl R_elements)))] → va_S A s.heap H locs → ∀ (ls : Array Slot), lv_has ls 5 [(0, .ref (aR 0)), (1, .int x1), (3, .int x3), (4, .int x4)] → W p l e rm_X4_settle s m args below meth c H locs 0 0 Q (F0 m 122 ls [.int y0, .int y1]) := by
  obtain ⟨⟨hx, hb, hml, hown, hts⟩, hr, hlocks⟩ := id C0
  intro R_firstTakes R_lastTakes x1 x3 x4 y0 y1 hm H locs hP hD hS ls hl
  have hm : (Option.bind (m_X4_leans R_size R_way R_elements x1 1 2) (fun r_1 => if r_1 = 0 then (m_X4_settle_153 R_operators R_tighter R_size R_home R_way R_elements k2 k17 R_firstTakes R_lastTakes x1 (y1 ||| y0) x4 x3) else (Option.bind (m_X4_leans R_size R_way R_elements x4 1 2) (fun r_4 => if r_4 = 0 then (m_X4_settle_153 R_operators R_tighter R_size R_home R_way R_elements k2 k17 R_firstTakes R_lastTakes x1 (y1 ||| y0) x4 x3) else (m_X4_settle_154 R_operators R_tighter R_size R_home R_way R_elements k2 k17 R_firstTakes R_lastTakes x1 (y1 ||| y0) x4 (1 <<< (x4 &&& 31)) x3))))) = some res := hm
  refine lv_ior hx hb dX4_settle_122 ?_
  refine lv_istore_n (lv' := [(2, .int (y1 ||| y0)), (0, .ref (aR 0)), (1, .int x1), (3, .int x3), (4, .int x4)]) hx hb dX4_settle_123 rfl hl (by decide) rfl (fun ls hl => ?_)
  refine lv_iload_n hx hb dX4_settle_124 rfl (lv_at hl 3 rfl) ?_
  refine lv_aload_n hx hb dX4_settle_125 rfl (lv_at hl 1 rfl) ?_
  refine lv_iload_n hx hb dX4_settle_126 rfl (lv_at hl 2 rfl) ?_
  refine lv_iconst (v := 1) hx hb dX4_settle_127 (by decide) ?_
  refine lv_iconst (v := 2) hx hb dX4_settle_128 (by decide) ?_
  obtain ⟨r_1, hc_2, hm⟩ := ob_some hm
  refine cx_i (wr := [((aR 1), .inl (cI, 16, .inl R_tighter)), ((aR 3), .inl (cI, 30, .inl R_home)), ((aR 5), .inl (cI, 30, .inl R_firstTakes)), ((aR 6), .inl (cI, 30, .inl R_lastTakes))]) (va_runV (As := [.int x1, .int 1, .int 2]) (rest := [.int x3]) C0.1 (c_X4_leans l dC dI cI cJ cB cZ aR H.size R_nodes R_arrows R_operators R_size R_way R_elements x1 1 2 r_1 hc_2) (cwV 3 hts gX4_settle_X4_leans rfl rfl rfl (by decide +kernel) ⟨Nat.le_of_ble_eq_true rfl, Nat.le_of_ble_eq_true rfl⟩) (cP_V (ci := 4) (q0 := 0) hK hN hP hD rfl rfl [0, 2, 4, 7] (by decide) rfl) rfl rfl hl.1 rfl (lv_room (Nat.le_of_ble_eq_true rfl)) dX4_settle_129 ⟨Nat.le_of_ble_eq_true rfl, Nat.le_of_ble_eq_true rfl⟩) hP hD hS hA [0, 2, 4, 7] [1, 3, 5, 6] rfl rfl (by decide) (by decide) (fun H locs hP hD hS => ?_)
  have hP : va_P (dC, dI) vwCl [((aR 1), .inl (cI, 16, .inl R_tighter)), ((aR 3), .inl (cI, 30, .inl R_home)), ((aR 5), .inl (cI, 30, .inl R_firstTakes)), ((aR 6), .inl (cI, 30, .inl R_lastTakes)), ((aR 0), .inr (4, [.ref (aR 1), .ref (aR 2), .ref (aR 3), .ref (aR 4), .ref (aR 5), .ref (aR 6), .ref (aR 7), .int R_nodes, .int R_arrows, .int R_operators])), ((aR 2), .inl (cI, 30, .inl R_size)), ((aR 4), .inl (cI, 30, .inl R_way)), ((aR 7), .inl (cJ, 270, .inr (.inl R_elements)))] H := hP
  have hD : va_D A [((aR 1), .inl (cI, 16, .inl R_tighter)), ((aR 3), .inl (cI, 30, .inl R_home)), ((aR 5), .inl (cI, 30, .inl R_firstTakes)), ((aR 6), .inl (cI, 30, .inl R_lastTakes)), ((aR 0), .inr (4, [.ref (aR 1), .ref (aR 2), .ref (aR 3), .ref (aR 4), .ref (aR 5), .ref (aR 6), .ref (aR 7), .int R_nodes, .int R_arrows, .int R_operators])), ((aR 2), .inl (cI, 30, .inl R_size)), ((aR 4), .inl (cI, 30, .inl R_way)), ((aR 7), .inl (cJ, 270, .inr (.inl R_elements)))] := hD
  refine lv_if_eq (tgt := 153) hx hb dX4_settle_132 (by decide) (fun c_3 => ?_) (fun c_3 => ?_)
  · have hm := it_some c_3 hm
    exact k_X4_settle_153 C0 hK hN hA aR R_nodes R_arrows R_operators R_tighter R_size R_home R_way R_elements res RET k2 k17 hk2 hk17 R_firstTakes R_lastTakes x1 (y1 ||| y0) x4 x3 hm H locs (P_sub' hP [4, 0, 5, 1, 6, 2, 3, 7] rfl) (hD.sub [4, 0, 5, 1, 6, 2, 3, 7] (by decide) rfl) hS ls (lv_sub hl [1, 2, 0, 4] rfl)
  · have hm := if_some' c_3 hm
    refine lv_aload_n hx hb dX4_settle_135 rfl (lv_at hl 1 rfl) ?_
    refine lv_iload hx hb dX4_settle_136 (lv_at hl 4 rfl) ?_
    refine lv_iconst (v := 1) hx hb dX4_settle_138 (by decide) ?_
    refine lv_iconst (v := 2) hx hb dX4_settle_139 (by decide) ?_
    obtain ⟨r_4, hc_5, hm⟩ := ob_some hm
    refine cx_i (wr := [((aR 1), .inl (cI, 16, .inl R_tighter)), ((aR 3), .inl (cI, 30, .inl R_home)), ((aR 5), .inl (cI, 30, .inl R_firstTakes)), ((aR 6), .inl (cI, 30, .inl R_lastTakes))]) (va_runV (As := [.int x4, .int 1, .int 2]) (rest := [.int x3]) C0.1 (c_X4_leans l dC dI cI cJ cB cZ aR H.size R_nodes R_arrows R_operators R_size R_way R_elements x4 1 2 r_4 hc_5) (cwV 3 hts gX4_settle_X4_leans rfl rfl rfl (by decide +kernel) ⟨Nat.le_of_ble_eq_true rfl, Nat.le_of_ble_eq_true rfl⟩) (cP_V (ci := 4) (q0 := 4) hK hN hP hD rfl rfl [4, 5, 6, 7] (by decide) rfl) rfl rfl hl.1 rfl (lv_room (Nat.le_of_ble_eq_true rfl)) dX4_settle_140 ⟨Nat.le_of_ble_eq_true rfl, Nat.le_of_ble_eq_true rfl⟩) hP hD hS hA [4, 5, 6, 7] [0, 1, 2, 3] rfl rfl (by decide) (by decide) (fun H locs hP hD hS => ?_)
    have hP : va_P (dC, dI) vwCl [((aR 1), .inl (cI, 16, .inl R_tighter)), ((aR 3), .inl (cI, 30, .inl R_home)), ((aR 5), .inl (cI, 30, .inl R_firstTakes)), ((aR 6), .inl (cI, 30, .inl R_lastTakes)), ((aR 0), .inr (4, [.ref (aR 1), .ref (aR 2), .ref (aR 3), .ref (aR 4), .ref (aR 5), .ref (aR 6), .ref (aR 7), .int R_nodes, .int R_arrows, .int R_operators])), ((aR 2), .inl (cI, 30, .inl R_size)), ((aR 4), .inl (cI, 30, .inl R_way)), ((aR 7), .inl (cJ, 270, .inr (.inl R_elements)))] H := hP
    have hD : va_D A [((aR 1), .inl (cI, 16, .inl R_tighter)), ((aR 3), .inl (cI, 30, .inl R_home)), ((aR 5), .inl (cI, 30, .inl R_firstTakes)), ((aR 6), .inl (cI, 30, .inl R_lastTakes)), ((aR 0), .inr (4, [.ref (aR 1), .ref (aR 2), .ref (aR 3), .ref (aR 4), .ref (aR 5), .ref (aR 6), .ref (aR 7), .int R_nodes, .int R_arrows, .int R_operators])), ((aR 2), .inl (cI, 30, .inl R_size)), ((aR 4), .inl (cI, 30, .inl R_way)), ((aR 7), .inl (cJ, 270, .inr (.inl R_elements)))] := hD
    refine lv_if_eq (tgt := 153) hx hb dX4_settle_143 (by decide) (fun c_6 => ?_) (fun c_6 => ?_)
    · have hm := it_some c_6 hm
      exact k_X4_settle_153 C0 hK hN hA aR R_nodes R_arrows R_operators R_tighter R_size R_home R_way R_elements res RET k2 k17 hk2 hk17 R_firstTakes R_lastTakes x1 (y1 ||| y0) x4 x3 hm H locs (P_sub' hP [4, 0, 5, 1, 6, 2, 3, 7] rfl) (hD.sub [4, 0, 5, 1, 6, 2, 3, 7] (by decide) rfl) hS ls (lv_sub hl [1, 2, 0, 4] rfl)
    · have hm := if_some' c_6 hm
      refine lv_iconst (v := 1) hx hb dX4_settle_146 (by decide) ?_
      refine lv_iload hx hb dX4_settle_147 (lv_at hl 4 rfl) ?_
      refine lv_ishl hx hb dX4_settle_149 ?_
      refine lv_goto (tgt := 154) hx hb dX4_settle_150 (by decide) ?_
      exact k_X4_settle_154 C0 hK hN hA aR R_nodes R_arrows R_operators R_tighter R_size R_home R_way R_elements res RET k2 k17 hk2 hk17 R_firstTakes R_lastTakes x1 (y1 ||| y0) x4 (1 <<< (x4 &&& 31)) x3 hm H locs (P_sub' hP [4, 0, 5, 1, 6, 2, 3, 7] rfl) (hD.sub [4, 0, 5, 1, 6, 2, 3, 7] (by decide) rfl) hS ls (lv_sub hl [1, 2, 0, 4] rfl)
set_option maxHeartbeats 4000000 in
set_option maxRecDepth 100000 in
theorem k_X4_settle_121 {p : Program} {l : Launch} {e : Env} {s : State} {m : MethodId} {args : Array Value} {below : List Frame} {meth : Method} {c : Code} {Q : State → Prop} {dC : Nat → ClassId} {dI : Nat → Nat → Nat} {cI cJ cB cZ : ClassId} {A : Nat → Prop} (C0 : Cx p s m meth c args cX4_settle 5 none wsX4_settle RX4) (hK : va_K (dC, dI) vwCl [(cI, .int), (cJ, .long), (cB, .byte), (cZ, .boolean)] s) (hN : NW s) (hA : ∀ q, s.heap.size ≤ q → A q) (aR : Nat → Nat) (R_nodes : Int32) (R_arrows : Int32) (R_operators : Int32) (R_tighter : Nat → Int32) (R_size : Nat → Int32) (R_home : Nat → Int32) (R_way : Nat → Int32) (R_elements : Nat → Int64) (res : (Nat → Int32) × (Nat → Int32)) (RET : RT_X4_settle p l e s m args below meth c Q dC dI cI cJ cB cZ A aR R_nodes R_arrows R_operators R_tighter R_size R_home R_way R_elements res) (k2 : (Nat → Int32) → (Nat → Int32) → Int32 → Option ((Nat → Int32) × (Nat → Int32))) (k17 : (Nat → Int32) → (Nat → Int32) → Int32 → Int32 → Int32 → Int32 → Option ((Nat → Int32) × (Nat → Int32))) (hk2 : ∀ (R_firstTakes : Nat → Int32) (R_lastTakes : Nat → Int32) (x1 : Int32), k2 R_firstTakes R_lastTakes x1 = some res → ∀ (H : Heap) (locs : List Loc), va_P (dC, dI) vwCl [((aR 0), .inr (4, [.ref (aR 1), .ref (aR 2), .ref (aR 3), .ref (aR 4), .ref (aR 5), .ref (aR 6), .ref (aR 7), .int R_nodes, .int R_arrows, .int R_operators])), ((aR 1), .inl (cI, 16, .inl R_tighter)), ((aR 2), .inl (cI, 30, .inl R_size)), ((aR 3), .inl (cI, 30, .inl R_home)), ((aR 4), .inl (cI, 30, .inl R_way)), ((aR 5), .inl (cI, 30, .inl R_firstTakes)), ((aR 6), .inl (cI, 30, .inl R_lastTakes)), ((aR 7), .inl (cJ, 270, .inr (.inl R_elements)))] H → va_D A [((aR 0), .inr (4, [.ref (aR 1), .ref (aR 2), .ref (aR 3), .ref (aR 4), .ref (aR 5), .ref (aR 6), .ref (aR 7), .int R_nodes, .int R_arrows, .int R_operators])), ((aR 1), .inl (cI, 16, .inl R_tighter)), ((aR 2), .inl (cI, 30, .inl R_size)), ((aR 3), .inl (cI, 30, .inl R_home)), ((aR 4), .inl (cI, 30, .inl R_way)), ((aR 5), .inl (cI, 30, .inl R_firstTakes)), ((aR 6), .inl (cI, 30, .inl R_lastTakes)), ((aR 7), .inl (cJ, 270, .inr (.inl R_elements)))] → va_S A s.heap H locs → ∀ (ls : Array Slot), lv_has ls 5 [(0, .ref (aR 0)), (1, .int x1)] → W p l e rm_X4_settle s m args below meth c H locs 0 0 Q (F0 m 2 ls [])) (hk17 : ∀ (R_firstTakes : Nat → Int32) (R_lastTakes : Nat → Int32) (x1 : Int32) (x2 : Int32) (x3 : Int32) (x4 : Int32), k17 R_firstTakes R_lastTakes x1 x2 x3 x4 = some res → ∀ (H : Heap) (locs : List Loc), va_P (dC, dI) vwCl [((aR 0), .inr (4, [.ref (aR 1), .ref (aR 2), .ref (aR 3), .ref (aR 4), .ref (aR 5), .ref (aR 6), .ref (aR 7), .int R_nodes, .int R_arrows, .int R_operators])), ((aR 1), .inl (cI, 16, .inl R_tighter)), ((aR 2), .inl (cI, 30, .inl R_size)), ((aR 3), .inl (cI, 30, .inl R_home)), ((aR 4), .inl (cI, 30, .inl R_way)), ((aR 5), .inl (cI, 30, .inl R_firstTakes)), ((aR 6), .inl (cI, 30, .inl R_lastTakes)), ((aR 7), .inl (cJ, 270, .inr (.inl R_elements)))] H → va_D A [((aR 0), .inr (4, [.ref (aR 1), .ref (aR 2), .ref (aR 3), .ref (aR 4), .ref (aR 5), .ref (aR 6), .ref (aR 7), .int R_nodes, .int R_arrows, .int R_operators])), ((aR 1), .inl (cI, 16, .inl R_tighter)), ((aR 2), .inl (cI, 30, .inl R_size)), ((aR 3), .inl (cI, 30, .inl R_home)), ((aR 4), .inl (cI, 30, .inl R_way)), ((aR 5), .inl (cI, 30, .inl R_firstTakes)), ((aR 6), .inl (cI, 30, .inl R_lastTakes)), ((aR 7), .inl (cJ, 270, .inr (.inl R_elements)))] → va_S A s.heap H locs → ∀ (ls : Array Slot), lv_has ls 5 [(0, .ref (aR 0)), (1, .int x1), (2, .int x2), (3, .int x3), (4, .int x4)] → W p l e rm_X4_settle s m args below meth c H locs 0 0 Q (F0 m 17 ls [])) : ∀ (R_firstTakes : Nat → Int32) (R_lastTakes : Nat → Int32) (x1 : Int32) (x3 : Int32) (x4 : Int32) (y0 : Int32), m_X4_settle_121 R_operators R_tighter R_size R_home R_way R_elements k2 k17 R_firstTakes R_lastTakes x1 x3 x4 y0 = some res → ∀ (H : Heap) (locs : List Loc), va_P (dC, dI) vwCl [((aR 0), .inr (4, [.ref (aR 1), .ref (aR 2), .ref (aR 3), .ref (aR 4), .ref (aR 5), .ref (aR 6), .ref (aR 7), .int R_nodes, .int R_arrows, .int R_operators])), ((aR 1), .inl (cI, 16, .inl R_tighter)), ((aR 2), .inl (cI, 30, .inl R_size)), ((aR 3), .inl (cI, 30, .inl R_home)), ((aR 4), .inl (cI, 30, .inl R_way)), ((aR 5), .inl (cI, 30, .inl R_firstTakes)), ((aR 6), .inl (cI, 30, .inl R_lastTakes)), ((aR 7), .inl (cJ, 270, .inr (.inl R_elements)))] H → va_D A [((aR 0), .inr (4, [.ref (aR 1), .ref (aR 2), .ref (aR 3), .ref (aR 4), .ref (aR 5), .ref (aR 6), .ref (aR 7), .int R_nodes, .int R_arrows, .int R_operators])), ((aR 1), .inl (cI, 16, .inl R_tighter)), ((aR 2), .inl (cI, 30, .inl R_size)), ((aR 3), .inl (cI, 30, .inl R_home)), ((aR 4), .inl (cI, 30, .inl R_way)), ((aR 5), .inl (cI, 30, .inl R_firstTakes)), ((aR 6), .inl (cI, 30, .inl R_lastTakes)), ((aR 7), .inl (cJ, 270, .inr (.inl R_elements)))] → va_S A s.heap H locs → ∀ (ls : Array Slot), lv_has ls 5 [(0, .ref (aR 0)), (1, .int x1), (3, .int x3), (4, .int x4)] → W p l e rm_X4_settle s m args below meth c H locs 0 0 Q (F0 m 121 ls [.int y0]) := by
  obtain ⟨⟨hx, hb, hml, hown, hts⟩, hr, hlocks⟩ := id C0
  intro R_firstTakes R_lastTakes x1 x3 x4 y0 hm H locs hP hD hS ls hl
  have hm : (m_X4_settle_122 R_operators R_tighter R_size R_home R_way R_elements k2 k17 R_firstTakes R_lastTakes x1 x3 x4 0 y0) = some res := hm
  refine lv_iconst (v := 0) hx hb dX4_settle_121 (by decide) ?_
  exact k_X4_settle_122 C0 hK hN hA aR R_nodes R_arrows R_operators R_tighter R_size R_home R_way R_elements res RET k2 k17 hk2 hk17 R_firstTakes R_lastTakes x1 x3 x4 0 y0 hm H locs hP hD hS ls hl
set_option maxHeartbeats 4000000 in
set_option maxRecDepth 100000 in
theorem k_X4_settle_17 {p : Program} {l : Launch} {e : Env} {s : State} {m : MethodId} {args : Array Value} {below : List Frame} {meth : Method} {c : Code} {Q : State → Prop} {dC : Nat → ClassId} {dI : Nat → Nat → Nat} {cI cJ cB cZ : ClassId} {A : Nat → Prop} (C0 : Cx p s m meth c args cX4_settle 5 none wsX4_settle RX4) (hK : va_K (dC, dI) vwCl [(cI, .int), (cJ, .long), (cB, .byte), (cZ, .boolean)] s) (hN : NW s) (hA : ∀ q, s.heap.size ≤ q → A q) (aR : Nat → Nat) (R_nodes : Int32) (R_arrows : Int32) (R_operators : Int32) (R_tighter : Nat → Int32) (R_size : Nat → Int32) (R_home : Nat → Int32) (R_way : Nat → Int32) (R_elements : Nat → Int64) (res : (Nat → Int32) × (Nat → Int32)) (RET : RT_X4_settle p l e s m args below meth c Q dC dI cI cJ cB cZ A aR R_nodes R_arrows R_operators R_tighter R_size R_home R_way R_elements res) (k2 : (Nat → Int32) → (Nat → Int32) → Int32 → Option ((Nat → Int32) × (Nat → Int32))) (hk2 : ∀ (R_firstTakes : Nat → Int32) (R_lastTakes : Nat → Int32) (x1 : Int32), k2 R_firstTakes R_lastTakes x1 = some res → ∀ (H : Heap) (locs : List Loc), va_P (dC, dI) vwCl [((aR 0), .inr (4, [.ref (aR 1), .ref (aR 2), .ref (aR 3), .ref (aR 4), .ref (aR 5), .ref (aR 6), .ref (aR 7), .int R_nodes, .int R_arrows, .int R_operators])), ((aR 1), .inl (cI, 16, .inl R_tighter)), ((aR 2), .inl (cI, 30, .inl R_size)), ((aR 3), .inl (cI, 30, .inl R_home)), ((aR 4), .inl (cI, 30, .inl R_way)), ((aR 5), .inl (cI, 30, .inl R_firstTakes)), ((aR 6), .inl (cI, 30, .inl R_lastTakes)), ((aR 7), .inl (cJ, 270, .inr (.inl R_elements)))] H → va_D A [((aR 0), .inr (4, [.ref (aR 1), .ref (aR 2), .ref (aR 3), .ref (aR 4), .ref (aR 5), .ref (aR 6), .ref (aR 7), .int R_nodes, .int R_arrows, .int R_operators])), ((aR 1), .inl (cI, 16, .inl R_tighter)), ((aR 2), .inl (cI, 30, .inl R_size)), ((aR 3), .inl (cI, 30, .inl R_home)), ((aR 4), .inl (cI, 30, .inl R_way)), ((aR 5), .inl (cI, 30, .inl R_firstTakes)), ((aR 6), .inl (cI, 30, .inl R_lastTakes)), ((aR 7), .inl (cJ, 270, .inr (.inl R_elements)))] → va_S A s.heap H locs → ∀ (ls : Array Slot), lv_has ls 5 [(0, .ref (aR 0)), (1, .int x1)] → W p l e rm_X4_settle s m args below meth c H locs 0 0 Q (F0 m 2 ls [])) : ∀ (n : Nat) (R_firstTakes : Nat → Int32) (R_lastTakes : Nat → Int32) (x1 : Int32) (x2 : Int32) (x3 : Int32) (x4 : Int32), m_X4_settle_17 R_operators R_tighter R_size R_home R_way R_elements k2 n R_firstTakes R_lastTakes x1 x2 x3 x4 = some res → ∀ (H : Heap) (locs : List Loc), va_P (dC, dI) vwCl [((aR 0), .inr (4, [.ref (aR 1), .ref (aR 2), .ref (aR 3), .ref (aR 4), .ref (aR 5), .ref (aR 6), .ref (aR 7), .int R_nodes, .int R_arrows, .int R_operators])), ((aR 1), .inl (cI, 16, .inl R_tighter)), ((aR 2), .inl (cI, 30, .inl R_size)), ((aR 3), .inl (cI, 30, .inl R_home)), ((aR 4), .inl (cI, 30, .inl R_way)), ((aR 5), .inl (cI, 30, .inl R_firstTakes)), ((aR 6), .inl (cI, 30, .inl R_lastTakes)), ((aR 7), .inl (cJ, 270, .inr (.inl R_elements)))] H → va_D A [((aR 0), .inr (4, [.ref (aR 1), .ref (aR 2), .ref (aR 3), .ref (aR 4), .ref (aR 5), .ref (aR 6), .ref (aR 7), .int R_nodes, .int R_arrows, .int R_operators])), ((aR 1), .inl (cI, 16, .inl R_tighter)), ((aR 2), .inl (cI, 30, .inl R_size)), ((aR 3), .inl (cI, 30, .inl R_home)), ((aR 4), .inl (cI, 30, .inl R_way)), ((aR 5), .inl (cI, 30, .inl R_firstTakes)), ((aR 6), .inl (cI, 30, .inl R_lastTakes)), ((aR 7), .inl (cJ, 270, .inr (.inl R_elements)))] → va_S A s.heap H locs → ∀ (ls : Array Slot), lv_has ls 5 [(0, .ref (aR 0)), (1, .int x1), (2, .int x2), (3, .int x3), (4, .int x4)] → W p l e rm_X4_settle s m args below meth c H locs 0 0 Q (F0 m 17 ls []) := by
  obtain ⟨⟨hx, hb, hml, hown, hts⟩, hr, hlocks⟩ := id C0
  intro n
  induction n with
  | zero =>
    intro R_firstTakes R_lastTakes x1 x2 x3 x4 hm
    exact absurd hm (by intro h; cases h)
  | succ n ih =>
    intro R_firstTakes R_lastTakes x1 x2 x3 x4 hm H locs hP hD hS ls hl
    have hm : (if R_operators ≤ x4 then (gd x1 30 (gd x1 30 (k2 (upd R_firstTakes x1.toNatClampNeg x2) (upd R_lastTakes x1.toNatClampNeg x3) (x1 + 1)))) else (Option.bind (m_X4_kind R_size R_elements x4) (fun r_10 => if r_10 = 0 then (m_X4_settle_59 R_operators R_tighter R_size R_home R_way R_elements k2 (m_X4_settle_17 R_operators R_tighter R_size R_home R_way R_elements k2 n) R_firstTakes R_lastTakes x1 x2 x3 x4) else (gd x1 30 (gd (R_home x1.toNatClampNeg) 16 (gd x4 30 (Option.bind (m_X8_hasBit (R_tighter (R_home x1.toNatClampNeg).toNatClampNeg) (R_home x4.toNatClampNeg)) (fun r_16 => if r_16 = 0 then (gd x1 30 (gd x4 30 (if (R_home x1.toNatClampNeg) = (R_home x4.toNatClampNeg) then (Option.bind (m_X4_leans R_size R_way R_elements x1 2 1) (fun r_22 => if r_22 = 0 then (m_X4_settle_121 R_operators R_tighter R_size R_home R_way R_elements k2 (m_X4_settle_17 R_operators R_tighter R_size R_home R_way R_elements k2 n) R_firstTakes R_lastTakes x1 x3 x4 x2) else (Option.bind (m_X4_leans R_size R_way R_elements x4 2 1) (fun r_25 => if r_25 = 0 then (m_X4_settle_121 R_operators R_tighter R_size R_home R_way R_elements k2 (m_X4_settle_17 R_operators R_tighter R_size R_home R_way R_elements k2 n) R_firstTakes R_lastTakes x1 x3 x4 x2) else (m_X4_settle_122 R_operators R_tighter R_size R_home R_way R_elements k2 (m_X4_settle_17 R_operators R_tighter R_size R_home R_way R_elements k2 n) R_firstTakes R_lastTakes x1 x3 x4 (1 <<< (x4 &&& 31)) x2))))) else (m_X4_settle_156 R_operators R_tighter R_size R_home R_way R_elements k2 (m_X4_settle_17 R_operators R_tighter R_size R_home R_way R_elements k2 n) R_firstTakes R_lastTakes x1 x2 x3 x4)))) else (m_X4_settle_59 R_operators R_tighter R_size R_home R_way R_elements k2 (m_X4_settle_17 R_operators R_tighter R_size R_home R_way R_elements k2 n) R_firstTakes R_lastTakes x1 x2 x3 x4))))))))) = some res := hm
    refine lv_iload hx hb dX4_settle_17 (lv_at hl 4 rfl) ?_
    refine lv_aload_n hx hb dX4_settle_19 rfl (lv_at hl 0 rfl) ?_
    refine va_get (D := (dC, dI)) (ci := 4) (v := .int R_operators) (C := RX4) (T := TX4) (N := 10) hx hb hts X4_settle_inX4 hown hK hP 0 rfl rfl 9 (by decide) (hts (.fieldLink RX4 41 "MixfixDesk$Rules" "operators" "I") (by decide +kernel)) (fun _ h9 => h9) rfl dX4_settle_20 ?_
    refine lv_icmp_ge (tgt := 162) hx hb dX4_settle_23 (by decide) (fun c_7 => ?_) (fun c_7 => ?_)
    · have hm := it_some c_7 hm
      refine lv_aload_n hx hb dX4_settle_162 rfl (lv_at hl 0 rfl) ?_
      refine va_get (D := (dC, dI)) (ci := 4) (v := .ref (aR 5)) (C := RX4) (T := TX4) (N := 10) hx hb hts X4_settle_inX4 hown hK hP 0 rfl rfl 4 (by decide) (hts (.fieldLink RX4 24 "MixfixDesk$Rules" "firstTakes" "[I") (by decide +kernel)) (fun _ h9 => h9) rfl dX4_settle_163 ?_
      refine lv_iload_n hx hb dX4_settle_166 rfl (lv_at hl 1 rfl) ?_
      refine lv_iload_n hx hb dX4_settle_167 rfl (lv_at hl 2 rfl) ?_
      obtain ⟨hi_8, hm⟩ := gd_some hm
      refine va_iast (D := (dC, dI)) hx hb hK hP hD hS 5 0 rfl rfl hi_8 dX4_settle_168 (fun H locs hP hD hS => ?_)
      have hP : va_P (dC, dI) vwCl [((aR 0), .inr (4, [.ref (aR 1), .ref (aR 2), .ref (aR 3), .ref (aR 4), .ref (aR 5), .ref (aR 6), .ref (aR 7), .int R_nodes, .int R_arrows, .int R_operators])), ((aR 1), .inl (cI, 16, .inl R_tighter)), ((aR 2), .inl (cI, 30, .inl R_size)), ((aR 3), .inl (cI, 30, .inl R_home)), ((aR 4), .inl (cI, 30, .inl R_way)), ((aR 5), .inl (cI, 30, .inl (upd R_firstTakes x1.toNatClampNeg x2))), ((aR 6), .inl (cI, 30, .inl R_lastTakes)), ((aR 7), .inl (cJ, 270, .inr (.inl R_elements)))] H := hP
      have hD : va_D A [((aR 0), .inr (4, [.ref (aR 1), .ref (aR 2), .ref (aR 3), .ref (aR 4), .ref (aR 5), .ref (aR 6), .ref (aR 7), .int R_nodes, .int R_arrows, .int R_operators])), ((aR 1), .inl (cI, 16, .inl R_tighter)), ((aR 2), .inl (cI, 30, .inl R_size)), ((aR 3), .inl (cI, 30, .inl R_home)), ((aR 4), .inl (cI, 30, .inl R_way)), ((aR 5), .inl (cI, 30, .inl (upd R_firstTakes x1.toNatClampNeg x2))), ((aR 6), .inl (cI, 30, .inl R_lastTakes)), ((aR 7), .inl (cJ, 270, .inr (.inl R_elements)))] := hD
      refine lv_aload_n hx hb dX4_settle_169 rfl (lv_at hl 0 rfl) ?_
      refine va_get (D := (dC, dI)) (ci := 4) (v := .ref (aR 6)) (C := RX4) (T := TX4) (N := 10) hx hb hts X4_settle_inX4 hown hK hP 0 rfl rfl 5 (by decide) (hts (.fieldLink RX4 27 "MixfixDesk$Rules" "lastTakes" "[I") (by decide +kernel)) (fun _ h9 => h9) rfl dX4_settle_170 ?_
      refine lv_iload_n hx hb dX4_settle_173 rfl (lv_at hl 1 rfl) ?_
      refine lv_iload_n hx hb dX4_settle_174 rfl (lv_at hl 3 rfl) ?_
      obtain ⟨hi_9, hm⟩ := gd_some hm
      refine va_iast (D := (dC, dI)) hx hb hK hP hD hS 6 0 rfl rfl hi_9 dX4_settle_175 (fun H locs hP hD hS => ?_)
      have hP : va_P (dC, dI) vwCl [((aR 0), .inr (4, [.ref (aR 1), .ref (aR 2), .ref (aR 3), .ref (aR 4), .ref (aR 5), .ref (aR 6), .ref (aR 7), .int R_nodes, .int R_arrows, .int R_operators])), ((aR 1), .inl (cI, 16, .inl R_tighter)), ((aR 2), .inl (cI, 30, .inl R_size)), ((aR 3), .inl (cI, 30, .inl R_home)), ((aR 4), .inl (cI, 30, .inl R_way)), ((aR 5), .inl (cI, 30, .inl (upd R_firstTakes x1.toNatClampNeg x2))), ((aR 6), .inl (cI, 30, .inl (upd R_lastTakes x1.toNatClampNeg x3))), ((aR 7), .inl (cJ, 270, .inr (.inl R_elements)))] H := hP
      have hD : va_D A [((aR 0), .inr (4, [.ref (aR 1), .ref (aR 2), .ref (aR 3), .ref (aR 4), .ref (aR 5), .ref (aR 6), .ref (aR 7), .int R_nodes, .int R_arrows, .int R_operators])), ((aR 1), .inl (cI, 16, .inl R_tighter)), ((aR 2), .inl (cI, 30, .inl R_size)), ((aR 3), .inl (cI, 30, .inl R_home)), ((aR 4), .inl (cI, 30, .inl R_way)), ((aR 5), .inl (cI, 30, .inl (upd R_firstTakes x1.toNatClampNeg x2))), ((aR 6), .inl (cI, 30, .inl (upd R_lastTakes x1.toNatClampNeg x3))), ((aR 7), .inl (cJ, 270, .inr (.inl R_elements)))] := hD
      refine lv_iinc (v := x1 + 1) (lv' := [(1, .int (x1 + 1)), (0, .ref (aR 0)), (2, .int x2), (3, .int x3), (4, .int x4)]) hx hb dX4_settle_176 hl (k := 1) rfl rfl (by decide) rfl (fun ls hl => ?_)
      refine lv_goto (tgt := 2) hx hb dX4_settle_179 (by decide) ?_
      exact hk2 (upd R_firstTakes x1.toNatClampNeg x2) (upd R_lastTakes x1.toNatClampNeg x3) (x1 + 1) hm H locs hP hD hS ls (lv_sub hl [1, 0] rfl)
    · have hm := if_some' c_7 hm
      refine lv_aload_n hx hb dX4_settle_26 rfl (lv_at hl 0 rfl) ?_
      refine lv_iload hx hb dX4_settle_27 (lv_at hl 4 rfl) ?_
      obtain ⟨r_10, hc_11, hm⟩ := ob_some hm
      refine cx_i (wr := [((aR 1), .inl (cI, 16, .inl R_tighter)), ((aR 3), .inl (cI, 30, .inl R_home)), ((aR 4), .inl (cI, 30, .inl R_way)), ((aR 5), .inl (cI, 30, .inl R_firstTakes)), ((aR 6), .inl (cI, 30, .inl R_lastTakes))]) (va_runV (As := [.int x4]) (rest := []) C0.1 (c_X4_kind l dC dI cI cJ cB cZ aR H.size R_nodes R_arrows R_operators R_size R_elements x4 r_10 hc_11) (cwV 1 hts gX4_settle_X4_kind rfl rfl rfl (by decide +kernel) ⟨Nat.le_of_ble_eq_true rfl, Nat.le_of_ble_eq_true rfl⟩) (cP_V (ci := 4) (q0 := 0) hK hN hP hD rfl rfl [0, 2, 7] (by decide) rfl) rfl rfl hl.1 rfl (lv_room (Nat.le_of_ble_eq_true rfl)) dX4_settle_29 ⟨Nat.le_of_ble_eq_true rfl, Nat.le_of_ble_eq_true rfl⟩) hP hD hS hA [0, 2, 7] [1, 3, 4, 5, 6] rfl rfl (by decide) (by decide) (fun H locs hP hD hS => ?_)
      have hP : va_P (dC, dI) vwCl [((aR 1), .inl (cI, 16, .inl R_tighter)), ((aR 3), .inl (cI, 30, .inl R_home)), ((aR 4), .inl (cI, 30, .inl R_way)), ((aR 5), .inl (cI, 30, .inl R_firstTakes)), ((aR 6), .inl (cI, 30, .inl R_lastTakes)), ((aR 0), .inr (4, [.ref (aR 1), .ref (aR 2), .ref (aR 3), .ref (aR 4), .ref (aR 5), .ref (aR 6), .ref (aR 7), .int R_nodes, .int R_arrows, .int R_operators])), ((aR 2), .inl (cI, 30, .inl R_size)), ((aR 7), .inl (cJ, 270, .inr (.inl R_elements)))] H := hP
      have hD : va_D A [((aR 1), .inl (cI, 16, .inl R_tighter)), ((aR 3), .inl (cI, 30, .inl R_home)), ((aR 4), .inl (cI, 30, .inl R_way)), ((aR 5), .inl (cI, 30, .inl R_firstTakes)), ((aR 6), .inl (cI, 30, .inl R_lastTakes)), ((aR 0), .inr (4, [.ref (aR 1), .ref (aR 2), .ref (aR 3), .ref (aR 4), .ref (aR 5), .ref (aR 6), .ref (aR 7), .int R_nodes, .int R_arrows, .int R_operators])), ((aR 2), .inl (cI, 30, .inl R_size)), ((aR 7), .inl (cJ, 270, .inr (.inl R_elements)))] := hD
      refine lv_if_eq (tgt := 59) hx hb dX4_settle_32 (by decide) (fun c_12 => ?_) (fun c_12 => ?_)
      · have hm := it_some c_12 hm
        exact k_X4_settle_59 C0 hK hN hA aR R_nodes R_arrows R_operators R_tighter R_size R_home R_way R_elements res RET k2 (m_X4_settle_17 R_operators R_tighter R_size R_home R_way R_elements k2 n) hk2 ih R_firstTakes R_lastTakes x1 x2 x3 x4 hm H locs (P_sub' hP [5, 0, 6, 1, 2, 3, 4, 7] rfl) (hD.sub [5, 0, 6, 1, 2, 3, 4, 7] (by decide) rfl) hS ls hl
      · have hm := if_some' c_12 hm
        refine lv_aload_n hx hb dX4_settle_35 rfl (lv_at hl 0 rfl) ?_
        refine va_get (D := (dC, dI)) (ci := 4) (v := .ref (aR 1)) (C := RX4) (T := TX4) (N := 10) hx hb hts X4_settle_inX4 hown hK hP 5 rfl rfl 0 (by decide) (hts (.fieldLink RX4 9 "MixfixDesk$Rules" "tighter" "[I") (by decide +kernel)) (fun _ h9 => h9) rfl dX4_settle_36 ?_
        refine lv_aload_n hx hb dX4_settle_39 rfl (lv_at hl 0 rfl) ?_
        refine va_get (D := (dC, dI)) (ci := 4) (v := .ref (aR 3)) (C := RX4) (T := TX4) (N := 10) hx hb hts X4_settle_inX4 hown hK hP 5 rfl rfl 2 (by decide) (hts (.fieldLink RX4 18 "MixfixDesk$Rules" "home" "[I") (by decide +kernel)) (fun _ h9 => h9) rfl dX4_settle_40 ?_
        refine lv_iload_n hx hb dX4_settle_43 rfl (lv_at hl 1 rfl) ?_
        obtain ⟨hi_13, hm⟩ := gd_some hm
        refine va_iald (D := (dC, dI)) hx hb hK hP 1 0 rfl rfl hi_13 dX4_settle_44 ?_
        obtain ⟨hi_14, hm⟩ := gd_some hm
        refine va_iald (D := (dC, dI)) hx hb hK hP 0 0 rfl rfl hi_14 dX4_settle_45 ?_
        refine lv_aload_n hx hb dX4_settle_46 rfl (lv_at hl 0 rfl) ?_
        refine va_get (D := (dC, dI)) (ci := 4) (v := .ref (aR 3)) (C := RX4) (T := TX4) (N := 10) hx hb hts X4_settle_inX4 hown hK hP 5 rfl rfl 2 (by decide) (hts (.fieldLink RX4 18 "MixfixDesk$Rules" "home" "[I") (by decide +kernel)) (fun _ h9 => h9) rfl dX4_settle_47 ?_
        refine lv_iload hx hb dX4_settle_50 (lv_at hl 4 rfl) ?_
        obtain ⟨hi_15, hm⟩ := gd_some hm
        refine va_iald (D := (dC, dI)) hx hb hK hP 1 0 rfl rfl hi_15 dX4_settle_52 ?_
        obtain ⟨r_16, hc_17, hm⟩ := ob_some hm
        refine cx_i (wr := [((aR 1), .inl (cI, 16, .inl R_tighter)), ((aR 3), .inl (cI, 30, .inl R_home)), ((aR 4), .inl (cI, 30, .inl R_way)), ((aR 5), .inl (cI, 30, .inl R_firstTakes)), ((aR 6), .inl (cI, 30, .inl R_lastTakes)), ((aR 0), .inr (4, [.ref (aR 1), .ref (aR 2), .ref (aR 3), .ref (aR 4), .ref (aR 5), .ref (aR 6), .ref (aR 7), .int R_nodes, .int R_arrows, .int R_operators])), ((aR 2), .inl (cI, 30, .inl R_size)), ((aR 7), .inl (cJ, 270, .inr (.inl R_elements)))]) (va_runSN (As := [.int (R_tighter (R_home x1.toNatClampNeg).toNatClampNeg), .int (R_home x4.toNatClampNeg)]) (rest := []) C0.1 (c_X8_hasBit l dC dI cI cJ cB cZ H.size (R_tighter (R_home x1.toNatClampNeg).toNatClampNeg) (R_home x4.toNatClampNeg) r_16 hc_17) ⟨va_cnB 2 hts gX4_settle_X8_hasBit_n56 rfl rfl rfl (hN (RX4, 56, yX8_hasBit, "MixfixDesk") (by decide +kernel)) (hts (.initialized RX8) (by decide +kernel)) (by decide +kernel) ⟨Nat.le_of_ble_eq_true rfl, Nat.le_of_ble_eq_true rfl⟩, (hts (.static yX8_hasBit) (by decide +kernel)), trivial⟩ (cP_S hK hN hP hD [] (by decide) rfl) rfl rfl hl.1 rfl (lv_room (Nat.le_of_ble_eq_true rfl)) dX4_settle_53 ⟨Nat.le_of_ble_eq_true rfl, Nat.le_of_ble_eq_true rfl⟩) hP hD hS hA [] [0, 1, 2, 3, 4, 5, 6, 7] rfl rfl (by decide) (by decide) (fun H locs hP hD hS => ?_)
        have hP : va_P (dC, dI) vwCl [((aR 1), .inl (cI, 16, .inl R_tighter)), ((aR 3), .inl (cI, 30, .inl R_home)), ((aR 4), .inl (cI, 30, .inl R_way)), ((aR 5), .inl (cI, 30, .inl R_firstTakes)), ((aR 6), .inl (cI, 30, .inl R_lastTakes)), ((aR 0), .inr (4, [.ref (aR 1), .ref (aR 2), .ref (aR 3), .ref (aR 4), .ref (aR 5), .ref (aR 6), .ref (aR 7), .int R_nodes, .int R_arrows, .int R_operators])), ((aR 2), .inl (cI, 30, .inl R_size)), ((aR 7), .inl (cJ, 270, .inr (.inl R_elements)))] H := hP
        have hD : va_D A [((aR 1), .inl (cI, 16, .inl R_tighter)), ((aR 3), .inl (cI, 30, .inl R_home)), ((aR 4), .inl (cI, 30, .inl R_way)), ((aR 5), .inl (cI, 30, .inl R_firstTakes)), ((aR 6), .inl (cI, 30, .inl R_lastTakes)), ((aR 0), .inr (4, [.ref (aR 1), .ref (aR 2), .ref (aR 3), .ref (aR 4), .ref (aR 5), .ref (aR 6), .ref (aR 7), .int R_nodes, .int R_arrows, .int R_operators])), ((aR 2), .inl (cI, 30, .inl R_size)), ((aR 7), .inl (cJ, 270, .inr (.inl R_elements)))] := hD
        refine lv_if_eq (tgt := 76) hx hb dX4_settle_56 (by decide) (fun c_18 => ?_) (fun c_18 => ?_)
        · have hm := it_some c_18 hm
          refine lv_aload_n hx hb dX4_settle_76 rfl (lv_at hl 0 rfl) ?_
          refine va_get (D := (dC, dI)) (ci := 4) (v := .ref (aR 3)) (C := RX4) (T := TX4) (N := 10) hx hb hts X4_settle_inX4 hown hK hP 5 rfl rfl 2 (by decide) (hts (.fieldLink RX4 18 "MixfixDesk$Rules" "home" "[I") (by decide +kernel)) (fun _ h9 => h9) rfl dX4_settle_77 ?_
          refine lv_iload_n hx hb dX4_settle_80 rfl (lv_at hl 1 rfl) ?_
          obtain ⟨hi_19, hm⟩ := gd_some hm
          refine va_iald (D := (dC, dI)) hx hb hK hP 1 0 rfl rfl hi_19 dX4_settle_81 ?_
          refine lv_aload_n hx hb dX4_settle_82 rfl (lv_at hl 0 rfl) ?_
          refine va_get (D := (dC, dI)) (ci := 4) (v := .ref (aR 3)) (C := RX4) (T := TX4) (N := 10) hx hb hts X4_settle_inX4 hown hK hP 5 rfl rfl 2 (by decide) (hts (.fieldLink RX4 18 "MixfixDesk$Rules" "home" "[I") (by decide +kernel)) (fun _ h9 => h9) rfl dX4_settle_83 ?_
          refine lv_iload hx hb dX4_settle_86 (lv_at hl 4 rfl) ?_
          obtain ⟨hi_20, hm⟩ := gd_some hm
          refine va_iald (D := (dC, dI)) hx hb hK hP 1 0 rfl rfl hi_20 dX4_settle_88 ?_
          refine lv_icmp_ne (tgt := 156) hx hb dX4_settle_89 (by decide) (fun c_21 => ?_) (fun c_21 => ?_)
          · have hm := if_some' c_21 hm
            exact k_X4_settle_156 C0 hK hN hA aR R_nodes R_arrows R_operators R_tighter R_size R_home R_way R_elements res RET k2 (m_X4_settle_17 R_operators R_tighter R_size R_home R_way R_elements k2 n) hk2 ih R_firstTakes R_lastTakes x1 x2 x3 x4 hm H locs (P_sub' hP [5, 0, 6, 1, 2, 3, 4, 7] rfl) (hD.sub [5, 0, 6, 1, 2, 3, 4, 7] (by decide) rfl) hS ls hl
          · have hm := it_some c_21 hm
            refine lv_iload_n hx hb dX4_settle_92 rfl (lv_at hl 2 rfl) ?_
            refine lv_aload_n hx hb dX4_settle_93 rfl (lv_at hl 0 rfl) ?_
            refine lv_iload_n hx hb dX4_settle_94 rfl (lv_at hl 1 rfl) ?_
            refine lv_iconst (v := 2) hx hb dX4_settle_95 (by decide) ?_
            refine lv_iconst (v := 1) hx hb dX4_settle_96 (by decide) ?_
            obtain ⟨r_22, hc_23, hm⟩ := ob_some hm
            refine cx_i (wr := [((aR 1), .inl (cI, 16, .inl R_tighter)), ((aR 3), .inl (cI, 30, .inl R_home)), ((aR 5), .inl (cI, 30, .inl R_firstTakes)), ((aR 6), .inl (cI, 30, .inl R_lastTakes))]) (va_runV (As := [.int x1, .int 2, .int 1]) (rest := [.int x2]) C0.1 (c_X4_leans l dC dI cI cJ cB cZ aR H.size R_nodes R_arrows R_operators R_size R_way R_elements x1 2 1 r_22 hc_23) (cwV 3 hts gX4_settle_X4_leans rfl rfl rfl (by decide +kernel) ⟨Nat.le_of_ble_eq_true rfl, Nat.le_of_ble_eq_true rfl⟩) (cP_V (ci := 4) (q0 := 5) hK hN hP hD rfl rfl [5, 6, 2, 7] (by decide) rfl) rfl rfl hl.1 rfl (lv_room (Nat.le_of_ble_eq_true rfl)) dX4_settle_97 ⟨Nat.le_of_ble_eq_true rfl, Nat.le_of_ble_eq_true rfl⟩) hP hD hS hA [5, 6, 2, 7] [0, 1, 3, 4] rfl rfl (by decide) (by decide) (fun H locs hP hD hS => ?_)
            have hP : va_P (dC, dI) vwCl [((aR 1), .inl (cI, 16, .inl R_tighter)), ((aR 3), .inl (cI, 30, .inl R_home)), ((aR 5), .inl (cI, 30, .inl R_firstTakes)), ((aR 6), .inl (cI, 30, .inl R_lastTakes)), ((aR 0), .inr (4, [.ref (aR 1), .ref (aR 2), .ref (aR 3), .ref (aR 4), .ref (aR 5), .ref (aR 6), .ref (aR 7), .int R_nodes, .int R_arrows, .int R_operators])), ((aR 2), .inl (cI, 30, .inl R_size)), ((aR 4), .inl (cI, 30, .inl R_way)), ((aR 7), .inl (cJ, 270, .inr (.inl R_elements)))] H := hP
            have hD : va_D A [((aR 1), .inl (cI, 16, .inl R_tighter)), ((aR 3), .inl (cI, 30, .inl R_home)), ((aR 5), .inl (cI, 30, .inl R_firstTakes)), ((aR 6), .inl (cI, 30, .inl R_lastTakes)), ((aR 0), .inr (4, [.ref (aR 1), .ref (aR 2), .ref (aR 3), .ref (aR 4), .ref (aR 5), .ref (aR 6), .ref (aR 7), .int R_nodes, .int R_arrows, .int R_operators])), ((aR 2), .inl (cI, 30, .inl R_size)), ((aR 4), .inl (cI, 30, .inl R_way)), ((aR 7), .inl (cJ, 270, .inr (.inl R_elements)))] := hD
            refine lv_if_eq (tgt := 121) hx hb dX4_settle_100 (by decide) (fun c_24 => ?_) (fun c_24 => ?_)
            · have hm := it_some c_24 hm
              exact k_X4_settle_121 C0 hK hN hA aR R_nodes R_arrows R_operators R_tighter R_size R_home R_way R_elements res RET k2 (m_X4_settle_17 R_operators R_tighter R_size R_home R_way R_elements k2 n) hk2 ih R_firstTakes R_lastTakes x1 x3 x4 x2 hm H locs (P_sub' hP [4, 0, 5, 1, 6, 2, 3, 7] rfl) (hD.sub [4, 0, 5, 1, 6, 2, 3, 7] (by decide) rfl) hS ls (lv_sub hl [0, 1, 3, 4] rfl)
            · have hm := if_some' c_24 hm
              refine lv_aload_n hx hb dX4_settle_103 rfl (lv_at hl 0 rfl) ?_
              refine lv_iload hx hb dX4_settle_104 (lv_at hl 4 rfl) ?_
              refine lv_iconst (v := 2) hx hb dX4_settle_106 (by decide) ?_
              refine lv_iconst (v := 1) hx hb dX4_settle_107 (by decide) ?_
              obtain ⟨r_25, hc_26, hm⟩ := ob_some hm
              refine cx_i (wr := [((aR 1), .inl (cI, 16, .inl R_tighter)), ((aR 3), .inl (cI, 30, .inl R_home)), ((aR 5), .inl (cI, 30, .inl R_firstTakes)), ((aR 6), .inl (cI, 30, .inl R_lastTakes))]) (va_runV (As := [.int x4, .int 2, .int 1]) (rest := [.int x2]) C0.1 (c_X4_leans l dC dI cI cJ cB cZ aR H.size R_nodes R_arrows R_operators R_size R_way R_elements x4 2 1 r_25 hc_26) (cwV 3 hts gX4_settle_X4_leans rfl rfl rfl (by decide +kernel) ⟨Nat.le_of_ble_eq_true rfl, Nat.le_of_ble_eq_true rfl⟩) (cP_V (ci := 4) (q0 := 4) hK hN hP hD rfl rfl [4, 5, 6, 7] (by decide) rfl) rfl rfl hl.1 rfl (lv_room (Nat.le_of_ble_eq_true rfl)) dX4_settle_108 ⟨Nat.le_of_ble_eq_true rfl, Nat.le_of_ble_eq_true rfl⟩) hP hD hS hA [4, 5, 6, 7] [0, 1, 2, 3] rfl rfl (by decide) (by decide) (fun H locs hP hD hS => ?_)
              have hP : va_P (dC, dI) vwCl [((aR 1), .inl (cI, 16, .inl R_tighter)), ((aR 3), .inl (cI, 30, .inl R_home)), ((aR 5), .inl (cI, 30, .inl R_firstTakes)), ((aR 6), .inl (cI, 30, .inl R_lastTakes)), ((aR 0), .inr (4, [.ref (aR 1), .ref (aR 2), .ref (aR 3), .ref (aR 4), .ref (aR 5), .ref (aR 6), .ref (aR 7), .int R_nodes, .int R_arrows, .int R_operators])), ((aR 2), .inl (cI, 30, .inl R_size)), ((aR 4), .inl (cI, 30, .inl R_way)), ((aR 7), .inl (cJ, 270, .inr (.inl R_elements)))] H := hP
              have hD : va_D A [((aR 1), .inl (cI, 16, .inl R_tighter)), ((aR 3), .inl (cI, 30, .inl R_home)), ((aR 5), .inl (cI, 30, .inl R_firstTakes)), ((aR 6), .inl (cI, 30, .inl R_lastTakes)), ((aR 0), .inr (4, [.ref (aR 1), .ref (aR 2), .ref (aR 3), .ref (aR 4), .ref (aR 5), .ref (aR 6), .ref (aR 7), .int R_nodes, .int R_arrows, .int R_operators])), ((aR 2), .inl (cI, 30, .inl R_size)), ((aR 4), .inl (cI, 30, .inl R_way)), ((aR 7), .inl (cJ, 270, .inr (.inl R_elements)))] := hD
              refine lv_if_eq (tgt := 121) hx hb dX4_settle_111 (by decide) (fun c_27 => ?_) (fun c_27 => ?_)
              · have hm := it_some c_27 hm
                exact k_X4_settle_121 C0 hK hN hA aR R_nodes R_arrows R_operators R_tighter R_size R_home R_way R_elements res RET k2 (m_X4_settle_17 R_operators R_tighter R_size R_home R_way R_elements k2 n) hk2 ih R_firstTakes R_lastTakes x1 x3 x4 x2 hm H locs (P_sub' hP [4, 0, 5, 1, 6, 2, 3, 7] rfl) (hD.sub [4, 0, 5, 1, 6, 2, 3, 7] (by decide) rfl) hS ls (lv_sub hl [0, 1, 3, 4] rfl)
              · have hm := if_some' c_27 hm
                refine lv_iconst (v := 1) hx hb dX4_settle_114 (by decide) ?_
                refine lv_iload hx hb dX4_settle_115 (lv_at hl 4 rfl) ?_
                refine lv_ishl hx hb dX4_settle_117 ?_
                refine lv_goto (tgt := 122) hx hb dX4_settle_118 (by decide) ?_
                exact k_X4_settle_122 C0 hK hN hA aR R_nodes R_arrows R_operators R_tighter R_size R_home R_way R_elements res RET k2 (m_X4_settle_17 R_operators R_tighter R_size R_home R_way R_elements k2 n) hk2 ih R_firstTakes R_lastTakes x1 x3 x4 (1 <<< (x4 &&& 31)) x2 hm H locs (P_sub' hP [4, 0, 5, 1, 6, 2, 3, 7] rfl) (hD.sub [4, 0, 5, 1, 6, 2, 3, 7] (by decide) rfl) hS ls (lv_sub hl [0, 1, 3, 4] rfl)
        · have hm := if_some' c_18 hm
          exact k_X4_settle_59 C0 hK hN hA aR R_nodes R_arrows R_operators R_tighter R_size R_home R_way R_elements res RET k2 (m_X4_settle_17 R_operators R_tighter R_size R_home R_way R_elements k2 n) hk2 ih R_firstTakes R_lastTakes x1 x2 x3 x4 hm H locs (P_sub' hP [5, 0, 6, 1, 2, 3, 4, 7] rfl) (hD.sub [5, 0, 6, 1, 2, 3, 4, 7] (by decide) rfl) hS ls hl
set_option maxHeartbeats 4000000 in
set_option maxRecDepth 100000 in
theorem k_X4_settle_2 {p : Program} {l : Launch} {e : Env} {s : State} {m : MethodId} {args : Array Value} {below : List Frame} {meth : Method} {c : Code} {Q : State → Prop} {dC : Nat → ClassId} {dI : Nat → Nat → Nat} {cI cJ cB cZ : ClassId} {A : Nat → Prop} (C0 : Cx p s m meth c args cX4_settle 5 none wsX4_settle RX4) (hK : va_K (dC, dI) vwCl [(cI, .int), (cJ, .long), (cB, .byte), (cZ, .boolean)] s) (hN : NW s) (hA : ∀ q, s.heap.size ≤ q → A q) (aR : Nat → Nat) (R_nodes : Int32) (R_arrows : Int32) (R_operators : Int32) (R_tighter : Nat → Int32) (R_size : Nat → Int32) (R_home : Nat → Int32) (R_way : Nat → Int32) (R_elements : Nat → Int64) (res : (Nat → Int32) × (Nat → Int32)) (RET : RT_X4_settle p l e s m args below meth c Q dC dI cI cJ cB cZ A aR R_nodes R_arrows R_operators R_tighter R_size R_home R_way R_elements res)   : ∀ (n : Nat) (R_firstTakes : Nat → Int32) (R_lastTakes : Nat → Int32) (x1 : Int32), m_X4_settle_2 R_operators R_tighter R_size R_home R_way R_elements n R_firstTakes R_lastTakes x1 = some res → ∀ (H : Heap) (locs : List Loc), va_P (dC, dI) vwCl [((aR 0), .inr (4, [.ref (aR 1), .ref (aR 2), .ref (aR 3), .ref (aR 4), .ref (aR 5), .ref (aR 6), .ref (aR 7), .int R_nodes, .int R_arrows, .int R_operators])), ((aR 1), .inl (cI, 16, .inl R_tighter)), ((aR 2), .inl (cI, 30, .inl R_size)), ((aR 3), .inl (cI, 30, .inl R_home)), ((aR 4), .inl (cI, 30, .inl R_way)), ((aR 5), .inl (cI, 30, .inl R_firstTakes)), ((aR 6), .inl (cI, 30, .inl R_lastTakes)), ((aR 7), .inl (cJ, 270, .inr (.inl R_elements)))] H → va_D A [((aR 0), .inr (4, [.ref (aR 1), .ref (aR 2), .ref (aR 3), .ref (aR 4), .ref (aR 5), .ref (aR 6), .ref (aR 7), .int R_nodes, .int R_arrows, .int R_operators])), ((aR 1), .inl (cI, 16, .inl R_tighter)), ((aR 2), .inl (cI, 30, .inl R_size)), ((aR 3), .inl (cI, 30, .inl R_home)), ((aR 4), .inl (cI, 30, .inl R_way)), ((aR 5), .inl (cI, 30, .inl R_firstTakes)), ((aR 6), .inl (cI, 30, .inl R_lastTakes)), ((aR 7), .inl (cJ, 270, .inr (.inl R_elements)))] → va_S A s.heap H locs → ∀ (ls : Array Slot), lv_has ls 5 [(0, .ref (aR 0)), (1, .int x1)] → W p l e rm_X4_settle s m args below meth c H locs 0 0 Q (F0 m 2 ls []) := by
  obtain ⟨⟨hx, hb, hml, hown, hts⟩, hr, hlocks⟩ := id C0
  intro n
  induction n with
  | zero =>
    intro R_firstTakes R_lastTakes x1 hm
    exact absurd hm (by intro h; cases h)
  | succ n ih =>
    intro R_firstTakes R_lastTakes x1 hm H locs hP hD hS ls hl
    have hm : (if R_operators ≤ x1 then (some (R_firstTakes, R_lastTakes)) else (m_X4_settle_17 R_operators R_tighter R_size R_home R_way R_elements (m_X4_settle_2 R_operators R_tighter R_size R_home R_way R_elements n) FU R_firstTakes R_lastTakes x1 0 0 0)) = some res := hm
    refine lv_iload_n hx hb dX4_settle_2 rfl (lv_at hl 1 rfl) ?_
    refine lv_aload_n hx hb dX4_settle_3 rfl (lv_at hl 0 rfl) ?_
    refine va_get (D := (dC, dI)) (ci := 4) (v := .int R_operators) (C := RX4) (T := TX4) (N := 10) hx hb hts X4_settle_inX4 hown hK hP 0 rfl rfl 9 (by decide) (hts (.fieldLink RX4 41 "MixfixDesk$Rules" "operators" "I") (by decide +kernel)) (fun _ h9 => h9) rfl dX4_settle_4 ?_
    refine lv_icmp_ge (tgt := 182) hx hb dX4_settle_7 (by decide) (fun c_28 => ?_) (fun c_28 => ?_)
    · have hm := it_some c_28 hm
      exact RET R_firstTakes R_lastTakes hm _ H locs ls dX4_settle_182 hP hD hS
    · have hm := if_some' c_28 hm
      refine lv_iconst (v := 0) hx hb dX4_settle_10 (by decide) ?_
      refine lv_istore_n (lv' := [(2, .int 0), (0, .ref (aR 0)), (1, .int x1)]) hx hb dX4_settle_11 rfl hl (by decide) rfl (fun ls hl => ?_)
      refine lv_iconst (v := 0) hx hb dX4_settle_12 (by decide) ?_
      refine lv_istore_n (lv' := [(3, .int 0), (2, .int 0), (0, .ref (aR 0)), (1, .int x1)]) hx hb dX4_settle_13 rfl hl (by decide) rfl (fun ls hl => ?_)
      refine lv_iconst (v := 0) hx hb dX4_settle_14 (by decide) ?_
      refine lv_istore (lv' := [(4, .int 0), (3, .int 0), (2, .int 0), (0, .ref (aR 0)), (1, .int x1)]) hx hb dX4_settle_15 hl (by decide) rfl (fun ls hl => ?_)
      exact k_X4_settle_17 C0 hK hN hA aR R_nodes R_arrows R_operators R_tighter R_size R_home R_way R_elements res RET (m_X4_settle_2 R_operators R_tighter R_size R_home R_way R_elements n) ih FU R_firstTakes R_lastTakes x1 0 0 0 hm H locs hP hD hS ls (lv_sub hl [3, 4, 2, 1, 0] rfl)
set_option maxHeartbeats 4000000 in
set_option maxRecDepth 100000 in
theorem k_X4_settle_E {p : Program} {l : Launch} {e : Env} {s : State} {m : MethodId} {args : Array Value} {below : List Frame} {meth : Method} {c : Code} {Q : State → Prop} {dC : Nat → ClassId} {dI : Nat → Nat → Nat} {cI cJ cB cZ : ClassId} {A : Nat → Prop} (C0 : Cx p s m meth c args cX4_settle 5 none wsX4_settle RX4) (hK : va_K (dC, dI) vwCl [(cI, .int), (cJ, .long), (cB, .byte), (cZ, .boolean)] s) (hN : NW s) (hA : ∀ q, s.heap.size ≤ q → A q) (aR : Nat → Nat) (R_nodes : Int32) (R_arrows : Int32) (R_operators : Int32) (R_tighter : Nat → Int32) (R_size : Nat → Int32) (R_home : Nat → Int32) (R_way : Nat → Int32) (R_elements : Nat → Int64) (res : (Nat → Int32) × (Nat → Int32)) (RET : RT_X4_settle p l e s m args below meth c Q dC dI cI cJ cB cZ A aR R_nodes R_arrows R_operators R_tighter R_size R_home R_way R_elements res) : ∀ (R_firstTakes : Nat → Int32) (R_lastTakes : Nat → Int32), m_X4_settle R_tighter R_size R_home R_way R_firstTakes R_lastTakes R_elements R_operators = some res → ∀ (H : Heap) (locs : List Loc), va_P (dC, dI) vwCl [((aR 0), .inr (4, [.ref (aR 1), .ref (aR 2), .ref (aR 3), .ref (aR 4), .ref (aR 5), .ref (aR 6), .ref (aR 7), .int R_nodes, .int R_arrows, .int R_operators])), ((aR 1), .inl (cI, 16, .inl R_tighter)), ((aR 2), .inl (cI, 30, .inl R_size)), ((aR 3), .inl (cI, 30, .inl R_home)), ((aR 4), .inl (cI, 30, .inl R_way)), ((aR 5), .inl (cI, 30, .inl R_firstTakes)), ((aR 6), .inl (cI, 30, .inl R_lastTakes)), ((aR 7), .inl (cJ, 270, .inr (.inl R_elements)))] H → va_D A [((aR 0), .inr (4, [.ref (aR 1), .ref (aR 2), .ref (aR 3), .ref (aR 4), .ref (aR 5), .ref (aR 6), .ref (aR 7), .int R_nodes, .int R_arrows, .int R_operators])), ((aR 1), .inl (cI, 16, .inl R_tighter)), ((aR 2), .inl (cI, 30, .inl R_size)), ((aR 3), .inl (cI, 30, .inl R_home)), ((aR 4), .inl (cI, 30, .inl R_way)), ((aR 5), .inl (cI, 30, .inl R_firstTakes)), ((aR 6), .inl (cI, 30, .inl R_lastTakes)), ((aR 7), .inl (cJ, 270, .inr (.inl R_elements)))] → va_S A s.heap H locs → ∀ (ls : Array Slot), lv_has ls 5 [(0, .ref (aR 0))] → W p l e rm_X4_settle s m args below meth c H locs 0 0 Q (F0 m 0 ls []) := by
  obtain ⟨⟨hx, hb, hml, hown, hts⟩, hr, hlocks⟩ := id C0
  intro R_firstTakes R_lastTakes hm H locs hP hD hS ls hl
  have hm : (m_X4_settle_2 R_operators R_tighter R_size R_home R_way R_elements FU R_firstTakes R_lastTakes 0) = some res := hm
  refine lv_iconst (v := 0) hx hb dX4_settle_0 (by decide) ?_
  refine lv_istore_n (lv' := [(1, .int 0), (0, .ref (aR 0))]) hx hb dX4_settle_1 rfl hl (by decide) rfl (fun ls hl => ?_)
  exact k_X4_settle_2 C0 hK hN hA aR R_nodes R_arrows R_operators R_tighter R_size R_home R_way R_elements res RET FU R_firstTakes R_lastTakes 0 hm H locs hP hD hS ls (lv_sub hl [1, 0] rfl)
set_option maxHeartbeats 4000000 in
set_option maxRecDepth 100000 in
theorem c_X4_settle (l : Launch) (dC : Nat → ClassId) (dI : Nat → Nat → Nat) (cI cJ cB cZ : ClassId) (aR : Nat → Nat) (sz : Nat) (R_nodes : Int32) (R_arrows : Int32) (R_operators : Int32) (R_tighter : Nat → Int32) (R_size : Nat → Int32) (R_home : Nat → Int32) (R_way : Nat → Int32) (R_firstTakes : Nat → Int32) (R_lastTakes : Nat → Int32) (R_elements : Nat → Int64) (res : (Nat → Int32) × (Nat → Int32)) (hm : m_X4_settle R_tighter R_size R_home R_way R_firstTakes R_lastTakes R_elements R_operators = some res) : Met l yX4_settle wsX4_settle rm_X4_settle (cP (dC, dI) vwCl [(cI, .int), (cJ, .long), (cB, .byte), (cZ, .boolean)] [.ref (aR 0)] [((aR 0), .inr (4, [.ref (aR 1), .ref (aR 2), .ref (aR 3), .ref (aR 4), .ref (aR 5), .ref (aR 6), .ref (aR 7), .int R_nodes, .int R_arrows, .int R_operators])), ((aR 1), .inl (cI, 16, .inl R_tighter)), ((aR 2), .inl (cI, 30, .inl R_size)), ((aR 3), .inl (cI, 30, .inl R_home)), ((aR 4), .inl (cI, 30, .inl R_way)), ((aR 5), .inl (cI, 30, .inl R_firstTakes)), ((aR 6), .inl (cI, 30, .inl R_lastTakes)), ((aR 7), .inl (cJ, 270, .inr (.inl R_elements)))] sz) (cQv (dC, dI) vwCl [((aR 0), .inr (4, [.ref (aR 1), .ref (aR 2), .ref (aR 3), .ref (aR 4), .ref (aR 5), .ref (aR 6), .ref (aR 7), .int R_nodes, .int R_arrows, .int R_operators])), ((aR 1), .inl (cI, 16, .inl R_tighter)), ((aR 2), .inl (cI, 30, .inl R_size)), ((aR 3), .inl (cI, 30, .inl R_home)), ((aR 4), .inl (cI, 30, .inl R_way)), ((aR 5), .inl (cI, 30, .inl res.1)), ((aR 6), .inl (cI, 30, .inl res.2)), ((aR 7), .inl (cJ, 270, .inr (.inl R_elements)))] [((aR 0), .inr (4, [.ref (aR 1), .ref (aR 2), .ref (aR 3), .ref (aR 4), .ref (aR 5), .ref (aR 6), .ref (aR 7), .int R_nodes, .int R_arrows, .int R_operators])), ((aR 1), .inl (cI, 16, .inl R_tighter)), ((aR 2), .inl (cI, 30, .inl R_size)), ((aR 3), .inl (cI, 30, .inl R_home)), ((aR 4), .inl (cI, 30, .inl R_way)), ((aR 5), .inl (cI, 30, .inl R_firstTakes)), ((aR 6), .inl (cI, 30, .inl R_lastTakes)), ((aR 7), .inl (cJ, 270, .inr (.inl R_elements)))] sz) 0 0 (va_A [((aR 0), .inr (4, [.ref (aR 1), .ref (aR 2), .ref (aR 3), .ref (aR 4), .ref (aR 5), .ref (aR 6), .ref (aR 7), .int R_nodes, .int R_arrows, .int R_operators])), ((aR 1), .inl (cI, 16, .inl R_tighter)), ((aR 2), .inl (cI, 30, .inl R_size)), ((aR 3), .inl (cI, 30, .inl R_home)), ((aR 4), .inl (cI, 30, .inl R_way)), ((aR 5), .inl (cI, 30, .inl R_firstTakes)), ((aR 6), .inl (cI, 30, .inl R_lastTakes)), ((aR 7), .inl (cJ, 270, .inr (.inl R_elements)))] sz) := by
  refine cx_of (cc := cX4_settle) (maxL := 5) (ret := none) (own := RX4) (by decide) rfl rfl (Nat.le_of_ble_eq_true rfl) ?_
  intro p e s m below meth c A C0 hinN hK hN hsz hAe hA hP hD hS ls hl
  refine k_X4_settle_E C0 hK hN hA aR R_nodes R_arrows R_operators R_tighter R_size R_home R_way R_elements res ?_ R_firstTakes R_lastTakes hm _ _ hP hD hS ls hl
  intro R_firstTakes R_lastTakes he pc H locs ls hdg hP hD hS
  have he := Option.some.inj he
  subst he
  exact cx_retv C0 hsz hAe hdg hP hD hS

