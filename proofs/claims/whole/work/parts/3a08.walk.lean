theorem dX9_gone_0 : decode cX9_gone 0 = .ok (.aload_n 0, 1) := by decide +kernel
theorem dX9_gone_1 : decode cX9_gone 1 = .ok (.iconst 0, 1) := by decide +kernel
theorem dX9_gone_2 : decode cX9_gone 2 = .ok (.putfield 215, 3) := by decide +kernel
theorem dX9_gone_5 : decode cX9_gone 5 = .ok (.aload_n 0, 1) := by decide +kernel
theorem dX9_gone_6 : decode cX9_gone 6 = .ok (.iconst 0, 1) := by decide +kernel
theorem dX9_gone_7 : decode cX9_gone 7 = .ok (.putfield 219, 3) := by decide +kernel
theorem dX9_gone_10 : decode cX9_gone 10 = .ok (.return_, 1) := by decide +kernel
/-! MixfixDeskModel.gone()V -/
abbrev rm_X9_gone : Room := { frames := 0, cells := 0, slots := 0, locals := 0 }
theorem X9_gone_inX9 : ∀ w ∈ wsX90, w ∈ wsX9_gone := by exact fun w h => List.mem_cons_of_mem _ (List.mem_append_right _ h)
abbrev RT_X9_gone (p : Program) (l : Launch) (e : Env) (s : State) (m : MethodId) (args : Array Value) (below : List Frame) (meth : Method) (c : Code) (Q : State → Prop) (dC : Nat → ClassId) (dI : Nat → Nat → Nat) (cI cJ cB cZ : ClassId) (A : Nat → Prop) (aM : Nat → Nat) (M_nodes : Int32) (M_operators : Int32) (M_textSize : Int32) (M_wordCount : Int32) (M_items : Int32) (M_piled : Int32) (M_outSize : Int32) (M_told : Int32) (M_standing : Int32) (res : Int32 × Int32) : Prop := ∀ (M_isParsed : Int32) (M_isTaken : Int32), some (M_isParsed, M_isTaken) = some res → ∀ (pc : Nat) (H : Heap) (locs : List Loc) (ls : Array Slot), decode cX9_gone pc = .ok (.return_, 1) → va_P (dC, dI) vwCl [((aM 0), .inr (9, oX9 aM M_nodes M_operators M_textSize M_wordCount M_isParsed M_isTaken M_items M_piled M_outSize M_told M_standing))] H → va_D A [((aM 0), .inr (9, oX9 aM M_nodes M_operators M_textSize M_wordCount M_isParsed M_isTaken M_items M_piled M_outSize M_told M_standing))] → va_S A s.heap H locs → W p l e rm_X9_gone s m args below meth c H locs 0 0 Q (F0 m pc ls [])
set_option maxHeartbeats 4000000 in
set_option maxRecDepth 100000 in
theorem k_X9_gone_E {p : Program} {l : Launch} {e : Env} {s : State} {m : MethodId} {args : Array Value} {below : List Frame} {meth : Method} {c : Code} {Q : State → Prop} {dC : Nat → ClassId} {dI : Nat → Nat → Nat} {cI cJ cB cZ : ClassId} {A : Nat → Prop} (C0 : Cx p s m meth c args cX9_gone 1 none wsX9_gone RX9) (hK : va_K (dC, dI) vwCl [(cI, .int), (cJ, .long), (cB, .byte), (cZ, .boolean)] s) (hN : NW s) (hA : ∀ q, s.heap.size ≤ q → A q) (aM : Nat → Nat) (M_nodes : Int32) (M_operators : Int32) (M_textSize : Int32) (M_wordCount : Int32) (M_items : Int32) (M_piled : Int32) (M_outSize : Int32) (M_told : Int32) (M_standing : Int32) (res : Int32 × Int32) (RET : RT_X9_gone p l e s m args below meth c Q dC dI cI cJ cB cZ A aM M_nodes M_operators M_textSize M_wordCount M_items M_piled M_outSize M_told M_standing res) : ∀ (M_isParsed : Int32) (M_isTaken : Int32), m_X9_gone M_isParsed M_isTaken = some res → ∀ (H : Heap) (locs : List Loc), va_P (dC, dI) vwCl [((aM 0), .inr (9, oX9 aM M_nodes M_operators M_textSize M_wordCount M_isParsed M_isTaken M_items M_piled M_outSize M_told M_standing))] H → va_D A [((aM 0), .inr (9, oX9 aM M_nodes M_operators M_textSize M_wordCount M_isParsed M_isTaken M_items M_piled M_outSize M_told M_standing))] → va_S A s.heap H locs → ∀ (ls : Array Slot), lv_has ls 1 [(0, .ref (aM 0))] → W p l e rm_X9_gone s m args below meth c H locs 0 0 Q (F0 m 0 ls []) := by
  obtain ⟨⟨hx, hb, hml, hown, hts⟩, hr, hlocks⟩ := id C0
  intro M_isParsed M_isTaken hm H locs hP hD hS ls hl
  have hm : (some (0, 0)) = some res := hm
  refine lv_aload_n hx hb dX9_gone_0 rfl (lv_at hl 0 rfl) ?_
  refine lv_iconst (v := 0) hx hb dX9_gone_1 (by decide) ?_
  refine va_put (D := (dC, dI)) (ci := 9) (v := .int 0) (ty := .boolean) (C := RX9) (T := TX9) (N := 53) hx hb hts X9_gone_inX9 tyX9 tyX9_ok nmX9 hown hK hP hD hS 0 rfl rfl 16 (by decide) (hts (.fieldLink RX9 215 "MixfixDeskModel" "isParsed" "Z") (List.mem_of_getElem? (i := 1) rfl)) (fun _ h9 => h9) rfl (by decide +kernel) rfl rfl (Nat.le_of_ble_eq_true rfl) dX9_gone_2 (fun H locs hP hD hS => ?_)
  have hP : va_P (dC, dI) vwCl [((aM 0), .inr (9, oX9 aM M_nodes M_operators M_textSize M_wordCount 0 M_isTaken M_items M_piled M_outSize M_told M_standing))] H := hP
  have hD : va_D A [((aM 0), .inr (9, oX9 aM M_nodes M_operators M_textSize M_wordCount 0 M_isTaken M_items M_piled M_outSize M_told M_standing))] := hD
  refine lv_aload_n hx hb dX9_gone_5 rfl (lv_at hl 0 rfl) ?_
  refine lv_iconst (v := 0) hx hb dX9_gone_6 (by decide) ?_
  refine va_put (D := (dC, dI)) (ci := 9) (v := .int 0) (ty := .boolean) (C := RX9) (T := TX9) (N := 53) hx hb hts X9_gone_inX9 tyX9 tyX9_ok nmX9 hown hK hP hD hS 0 rfl rfl 19 (by decide) (hts (.fieldLink RX9 219 "MixfixDeskModel" "isTaken" "Z") (List.mem_of_getElem? (i := 2) rfl)) (fun _ h9 => h9) rfl (by decide +kernel) rfl rfl (Nat.le_of_ble_eq_true rfl) dX9_gone_7 (fun H locs hP hD hS => ?_)
  have hP : va_P (dC, dI) vwCl [((aM 0), .inr (9, oX9 aM M_nodes M_operators M_textSize M_wordCount 0 0 M_items M_piled M_outSize M_told M_standing))] H := hP
  have hD : va_D A [((aM 0), .inr (9, oX9 aM M_nodes M_operators M_textSize M_wordCount 0 0 M_items M_piled M_outSize M_told M_standing))] := hD
  exact RET 0 0 hm _ H locs ls dX9_gone_10 hP hD hS
set_option maxHeartbeats 4000000 in
set_option maxRecDepth 100000 in
theorem c_X9_gone (l : Launch) (dC : Nat → ClassId) (dI : Nat → Nat → Nat) (cI cJ cB cZ : ClassId) (aM : Nat → Nat) (sz : Nat) (M_nodes : Int32) (M_operators : Int32) (M_textSize : Int32) (M_wordCount : Int32) (M_isParsed : Int32) (M_isTaken : Int32) (M_items : Int32) (M_piled : Int32) (M_outSize : Int32) (M_told : Int32) (M_standing : Int32) (res : Int32 × Int32) (hm : m_X9_gone M_isParsed M_isTaken = some res) : Met l yX9_gone wsX9_gone rm_X9_gone (cP (dC, dI) vwCl [(cI, .int), (cJ, .long), (cB, .byte), (cZ, .boolean)] [.ref (aM 0)] [((aM 0), .inr (9, oX9 aM M_nodes M_operators M_textSize M_wordCount M_isParsed M_isTaken M_items M_piled M_outSize M_told M_standing))] sz) (cQv (dC, dI) vwCl [((aM 0), .inr (9, oX9 aM M_nodes M_operators M_textSize M_wordCount res.1 res.2 M_items M_piled M_outSize M_told M_standing))] [((aM 0), .inr (9, oX9 aM M_nodes M_operators M_textSize M_wordCount M_isParsed M_isTaken M_items M_piled M_outSize M_told M_standing))] sz) 0 0 (va_A [((aM 0), .inr (9, oX9 aM M_nodes M_operators M_textSize M_wordCount M_isParsed M_isTaken M_items M_piled M_outSize M_told M_standing))] sz) := by
  refine cx_of (cc := cX9_gone) (maxL := 1) (ret := none) (own := RX9) (by decide) rfl rfl (Nat.le_of_ble_eq_true rfl) ?_
  intro p e s m below meth c A C0 hinN hK hN hsz hAe hA hP hD hS ls hl
  refine k_X9_gone_E C0 hK hN hA aM M_nodes M_operators M_textSize M_wordCount M_items M_piled M_outSize M_told M_standing res ?_ M_isParsed M_isTaken hm _ _ hP hD hS ls hl
  intro M_isParsed M_isTaken he pc H locs ls hdg hP hD hS
  have he := Option.some.inj he
  subst he
  exact cx_retv C0 hsz hAe hdg hP hD hS

theorem dX9_isNode_0 : decode cX9_isNode 0 = .ok (.iload_n 1, 1) := by decide +kernel
theorem dX9_isNode_1 : decode cX9_isNode 1 = .ok (.ifCond .lt 15, 3) := by decide +kernel
theorem dX9_isNode_4 : decode cX9_isNode 4 = .ok (.iload_n 1, 1) := by decide +kernel
theorem dX9_isNode_5 : decode cX9_isNode 5 = .ok (.aload_n 0, 1) := by decide +kernel
theorem dX9_isNode_6 : decode cX9_isNode 6 = .ok (.getfield 141, 3) := by decide +kernel
theorem dX9_isNode_9 : decode cX9_isNode 9 = .ok (.if_icmp .ge 7, 3) := by decide +kernel
theorem dX9_isNode_12 : decode cX9_isNode 12 = .ok (.iconst 1, 1) := by decide +kernel
theorem dX9_isNode_13 : decode cX9_isNode 13 = .ok (.goto 4, 3) := by decide +kernel
theorem dX9_isNode_16 : decode cX9_isNode 16 = .ok (.iconst 0, 1) := by decide +kernel
theorem dX9_isNode_17 : decode cX9_isNode 17 = .ok (.ireturn, 1) := by decide +kernel
/-! MixfixDeskModel.isNode(I)Z -/
abbrev rm_X9_isNode : Room := { frames := 0, cells := 0, slots := 0, locals := 0 }
theorem X9_isNode_inX9 : ∀ w ∈ wsX90, w ∈ wsX9_isNode := by exact fun w h => List.mem_cons_of_mem _ (List.mem_append_right _ h)
abbrev RT_X9_isNode (p : Program) (l : Launch) (e : Env) (s : State) (m : MethodId) (args : Array Value) (below : List Frame) (meth : Method) (c : Code) (Q : State → Prop) (dC : Nat → ClassId) (dI : Nat → Nat → Nat) (cI cJ cB cZ : ClassId) (A : Nat → Prop) (aM : Nat → Nat) (M_nodes : Int32) (M_operators : Int32) (M_textSize : Int32) (M_wordCount : Int32) (M_isParsed : Int32) (M_isTaken : Int32) (M_items : Int32) (M_piled : Int32) (M_outSize : Int32) (M_told : Int32) (M_standing : Int32) (res : Int32) : Prop := ∀ (v : Int32) , some v = some res → narrow .boolean (.int v) = .int v → ∀ (pc : Nat) (H : Heap) (locs : List Loc) (ls : Array Slot), decode cX9_isNode pc = .ok (.ireturn, 1) → va_P (dC, dI) vwCl [((aM 0), .inr (9, oX9 aM M_nodes M_operators M_textSize M_wordCount M_isParsed M_isTaken M_items M_piled M_outSize M_told M_standing))] H → va_D A [((aM 0), .inr (9, oX9 aM M_nodes M_operators M_textSize M_wordCount M_isParsed M_isTaken M_items M_piled M_outSize M_told M_standing))] → va_S A s.heap H locs → W p l e rm_X9_isNode s m args below meth c H locs 0 0 Q (F0 m pc ls [.int v])
set_option maxHeartbeats 4000000 in
set_option maxRecDepth 100000 in
theorem k_X9_isNode_E {p : Program} {l : Launch} {e : Env} {s : State} {m : MethodId} {args : Array Value} {below : List Frame} {meth : Method} {c : Code} {Q : State → Prop} {dC : Nat → ClassId} {dI : Nat → Nat → Nat} {cI cJ cB cZ : ClassId} {A : Nat → Prop} (C0 : Cx p s m meth c args cX9_isNode 2 (some .boolean) wsX9_isNode RX9) (hK : va_K (dC, dI) vwCl [(cI, .int), (cJ, .long), (cB, .byte), (cZ, .boolean)] s) (hN : NW s) (hA : ∀ q, s.heap.size ≤ q → A q) (aM : Nat → Nat) (M_nodes : Int32) (M_operators : Int32) (M_textSize : Int32) (M_wordCount : Int32) (M_isParsed : Int32) (M_isTaken : Int32) (M_items : Int32) (M_piled : Int32) (M_outSize : Int32) (M_told : Int32) (M_standing : Int32) (res : Int32) (RET : RT_X9_isNode p l e s m args below meth c Q dC dI cI cJ cB cZ A aM M_nodes M_operators M_textSize M_wordCount M_isParsed M_isTaken M_items M_piled M_outSize M_told M_standing res) : ∀ (p0 : Int32), m_X9_isNode M_nodes p0 = some res → ∀ (H : Heap) (locs : List Loc), va_P (dC, dI) vwCl [((aM 0), .inr (9, oX9 aM M_nodes M_operators M_textSize M_wordCount M_isParsed M_isTaken M_items M_piled M_outSize M_told M_standing))] H → va_D A [((aM 0), .inr (9, oX9 aM M_nodes M_operators M_textSize M_wordCount M_isParsed M_isTaken M_items M_piled M_outSize M_told M_standing))] → va_S A s.heap H locs → ∀ (ls : Array Slot), lv_has ls 2 [(0, .ref (aM 0)), (1, .int p0)] → W p l e rm_X9_isNode s m args below meth c H locs 0 0 Q (F0 m 0 ls []) := by
  obtain ⟨⟨hx, hb, hml, hown, hts⟩, hr, hlocks⟩ := id C0
  intro p0 hm H locs hP hD hS ls hl
  have hm : (if p0 < 0 then (some 0) else (if M_nodes ≤ p0 then (some 0) else (some 1))) = some res := hm
  refine lv_iload_n hx hb dX9_isNode_0 rfl (lv_at hl 1 rfl) ?_
  refine lv_if_lt (tgt := 16) hx hb dX9_isNode_1 (by decide) (fun c_1 => ?_) (fun c_1 => ?_)
  · have hm := it_some c_1 hm
    refine lv_iconst (v := 0) hx hb dX9_isNode_16 (by decide) ?_
    exact RET 0 hm rfl _ H locs ls dX9_isNode_17 hP hD hS
  · have hm := if_some' c_1 hm
    refine lv_iload_n hx hb dX9_isNode_4 rfl (lv_at hl 1 rfl) ?_
    refine lv_aload_n hx hb dX9_isNode_5 rfl (lv_at hl 0 rfl) ?_
    refine va_get (D := (dC, dI)) (ci := 9) (v := .int M_nodes) (C := RX9) (T := TX9) (N := 53) hx hb hts X9_isNode_inX9 hown hK hP 0 rfl rfl 0 (by decide) (hts (.fieldLink RX9 141 "MixfixDeskModel" "nodes" "I") (List.mem_of_getElem? (i := 1) rfl)) (fun _ h9 => h9) rfl dX9_isNode_6 ?_
    refine lv_icmp_ge (tgt := 16) hx hb dX9_isNode_9 (by decide) (fun c_2 => ?_) (fun c_2 => ?_)
    · have hm := it_some c_2 hm
      refine lv_iconst (v := 0) hx hb dX9_isNode_16 (by decide) ?_
      exact RET 0 hm rfl _ H locs ls dX9_isNode_17 hP hD hS
    · have hm := if_some' c_2 hm
      refine lv_iconst (v := 1) hx hb dX9_isNode_12 (by decide) ?_
      refine lv_goto (tgt := 17) hx hb dX9_isNode_13 (by decide) ?_
      exact RET 1 hm rfl _ H locs ls dX9_isNode_17 hP hD hS
set_option maxHeartbeats 4000000 in
set_option maxRecDepth 100000 in
theorem c_X9_isNode (l : Launch) (dC : Nat → ClassId) (dI : Nat → Nat → Nat) (cI cJ cB cZ : ClassId) (aM : Nat → Nat) (sz : Nat) (M_nodes : Int32) (M_operators : Int32) (M_textSize : Int32) (M_wordCount : Int32) (M_isParsed : Int32) (M_isTaken : Int32) (M_items : Int32) (M_piled : Int32) (M_outSize : Int32) (M_told : Int32) (M_standing : Int32) (p0 : Int32) (res : Int32) (hm : m_X9_isNode M_nodes p0 = some res) : Met l yX9_isNode wsX9_isNode rm_X9_isNode (cP (dC, dI) vwCl [(cI, .int), (cJ, .long), (cB, .byte), (cZ, .boolean)] [.ref (aM 0), .int p0] [((aM 0), .inr (9, oX9 aM M_nodes M_operators M_textSize M_wordCount M_isParsed M_isTaken M_items M_piled M_outSize M_told M_standing))] sz) (cQi res (dC, dI) vwCl [((aM 0), .inr (9, oX9 aM M_nodes M_operators M_textSize M_wordCount M_isParsed M_isTaken M_items M_piled M_outSize M_told M_standing))] [((aM 0), .inr (9, oX9 aM M_nodes M_operators M_textSize M_wordCount M_isParsed M_isTaken M_items M_piled M_outSize M_told M_standing))] sz) 0 0 (va_A [((aM 0), .inr (9, oX9 aM M_nodes M_operators M_textSize M_wordCount M_isParsed M_isTaken M_items M_piled M_outSize M_told M_standing))] sz) := by
  refine cx_of (cc := cX9_isNode) (maxL := 2) (ret := (some .boolean)) (own := RX9) (by decide) rfl rfl (Nat.le_of_ble_eq_true rfl) ?_
  intro p e s m below meth c A C0 hinN hK hN hsz hAe hA hP hD hS ls hl
  refine k_X9_isNode_E C0 hK hN hA aM M_nodes M_operators M_textSize M_wordCount M_isParsed M_isTaken M_items M_piled M_outSize M_told M_standing res ?_ p0 hm _ _ hP hD hS ls hl
  intro v he hn pc H locs ls hdg hP hD hS
  have he := Option.some.inj he
  subst he
  exact cx_retz C0 hn hsz hAe hdg hP hD hS

theorem dX9_feed_0 : decode cX9_feed 0 = .ok (.iload_n 3, 1) := by decide +kernel
theorem dX9_feed_1 : decode cX9_feed 1 = .ok (.ifCond .lt 9, 3) := by decide +kernel
theorem dX9_feed_4 : decode cX9_feed 4 = .ok (.iload_n 3, 1) := by decide +kernel
theorem dX9_feed_5 : decode cX9_feed 5 = .ok (.bipush 8, 2) := by decide +kernel
theorem dX9_feed_7 : decode cX9_feed 7 = .ok (.if_icmp .le 6, 3) := by decide +kernel
theorem dX9_feed_10 : decode cX9_feed 10 = .ok (.bipush (-2), 2) := by decide +kernel
theorem dX9_feed_12 : decode cX9_feed 12 = .ok (.ireturn, 1) := by decide +kernel
theorem dX9_feed_13 : decode cX9_feed 13 = .ok (.iload_n 3, 1) := by decide +kernel
theorem dX9_feed_14 : decode cX9_feed 14 = .ok (.ifCond .ne 8, 3) := by decide +kernel
theorem dX9_feed_17 : decode cX9_feed 17 = .ok (.aload_n 0, 1) := by decide +kernel
theorem dX9_feed_18 : decode cX9_feed 18 = .ok (.iconst 0, 1) := by decide +kernel
theorem dX9_feed_19 : decode cX9_feed 19 = .ok (.putfield 148, 3) := by decide +kernel
theorem dX9_feed_22 : decode cX9_feed 22 = .ok (.aload_n 0, 1) := by decide +kernel
theorem dX9_feed_23 : decode cX9_feed 23 = .ok (.getfield 148, 3) := by decide +kernel
theorem dX9_feed_26 : decode cX9_feed 26 = .ok (.iload_n 3, 1) := by decide +kernel
theorem dX9_feed_27 : decode cX9_feed 27 = .ok (.iadd, 1) := by decide +kernel
theorem dX9_feed_28 : decode cX9_feed 28 = .ok (.sipush 1500, 3) := by decide +kernel
theorem dX9_feed_31 : decode cX9_feed 31 = .ok (.if_icmp .le 6, 3) := by decide +kernel
theorem dX9_feed_34 : decode cX9_feed 34 = .ok (.bipush (-4), 2) := by decide +kernel
theorem dX9_feed_36 : decode cX9_feed 36 = .ok (.ireturn, 1) := by decide +kernel
theorem dX9_feed_37 : decode cX9_feed 37 = .ok (.iload_n 3, 1) := by decide +kernel
theorem dX9_feed_38 : decode cX9_feed 38 = .ok (.iconst 1, 1) := by decide +kernel
theorem dX9_feed_39 : decode cX9_feed 39 = .ok (.isub, 1) := by decide +kernel
theorem dX9_feed_40 : decode cX9_feed 40 = .ok (.istore 4, 2) := by decide +kernel
theorem dX9_feed_42 : decode cX9_feed 42 = .ok (.iload 4, 2) := by decide +kernel
theorem dX9_feed_44 : decode cX9_feed 44 = .ok (.ifCond .lt 40, 3) := by decide +kernel
theorem dX9_feed_47 : decode cX9_feed 47 = .ok (.aload_n 0, 1) := by decide +kernel
theorem dX9_feed_48 : decode cX9_feed 48 = .ok (.getfield 30, 3) := by decide +kernel
theorem dX9_feed_51 : decode cX9_feed 51 = .ok (.aload_n 0, 1) := by decide +kernel
theorem dX9_feed_52 : decode cX9_feed 52 = .ok (.getfield 148, 3) := by decide +kernel
theorem dX9_feed_55 : decode cX9_feed 55 = .ok (.lload_n 1, 1) := by decide +kernel
theorem dX9_feed_56 : decode cX9_feed 56 = .ok (.bipush 8, 2) := by decide +kernel
theorem dX9_feed_58 : decode cX9_feed 58 = .ok (.iload 4, 2) := by decide +kernel
theorem dX9_feed_60 : decode cX9_feed 60 = .ok (.imul, 1) := by decide +kernel
theorem dX9_feed_61 : decode cX9_feed 61 = .ok (.lshr, 1) := by decide +kernel
theorem dX9_feed_62 : decode cX9_feed 62 = .ok (.l2i, 1) := by decide +kernel
theorem dX9_feed_63 : decode cX9_feed 63 = .ok (.sipush 255, 3) := by decide +kernel
theorem dX9_feed_66 : decode cX9_feed 66 = .ok (.iand, 1) := by decide +kernel
theorem dX9_feed_67 : decode cX9_feed 67 = .ok (.iastore, 1) := by decide +kernel
theorem dX9_feed_68 : decode cX9_feed 68 = .ok (.aload_n 0, 1) := by decide +kernel
theorem dX9_feed_69 : decode cX9_feed 69 = .ok (.dup, 1) := by decide +kernel
theorem dX9_feed_70 : decode cX9_feed 70 = .ok (.getfield 148, 3) := by decide +kernel
theorem dX9_feed_73 : decode cX9_feed 73 = .ok (.iconst 1, 1) := by decide +kernel
theorem dX9_feed_74 : decode cX9_feed 74 = .ok (.iadd, 1) := by decide +kernel
theorem dX9_feed_75 : decode cX9_feed 75 = .ok (.putfield 148, 3) := by decide +kernel
theorem dX9_feed_78 : decode cX9_feed 78 = .ok (.iinc 4 (-1), 3) := by decide +kernel
theorem dX9_feed_81 : decode cX9_feed 81 = .ok (.goto (-39), 3) := by decide +kernel
theorem dX9_feed_84 : decode cX9_feed 84 = .ok (.aload_n 0, 1) := by decide +kernel
theorem dX9_feed_85 : decode cX9_feed 85 = .ok (.getfield 148, 3) := by decide +kernel
theorem dX9_feed_88 : decode cX9_feed 88 = .ok (.ireturn, 1) := by decide +kernel
/-! MixfixDeskModel.feed(JI)I -/
abbrev rm_X9_feed : Room := { frames := 0, cells := 0, slots := 0, locals := 0 }
theorem X9_feed_inX9 : ∀ w ∈ wsX90, w ∈ wsX9_feed := by exact fun w h => List.mem_cons_of_mem _ (List.mem_append_right _ h)
abbrev RT_X9_feed (p : Program) (l : Launch) (e : Env) (s : State) (m : MethodId) (args : Array Value) (below : List Frame) (meth : Method) (c : Code) (Q : State → Prop) (dC : Nat → ClassId) (dI : Nat → Nat → Nat) (cI cJ cB cZ : ClassId) (A : Nat → Prop) (aM : Nat → Nat) (M_nodes : Int32) (M_operators : Int32) (M_wordCount : Int32) (M_isParsed : Int32) (M_isTaken : Int32) (M_items : Int32) (M_piled : Int32) (M_outSize : Int32) (M_told : Int32) (M_standing : Int32) (res : Int32 × (Nat → Int32) × Int32) : Prop := ∀ (v : Int32) (M_text : Nat → Int32) (M_textSize : Int32), some (v, M_text, M_textSize) = some res → ∀ (pc : Nat) (H : Heap) (locs : List Loc) (ls : Array Slot), decode cX9_feed pc = .ok (.ireturn, 1) → va_P (dC, dI) vwCl [((aM 0), .inr (9, oX9 aM M_nodes M_operators M_textSize M_wordCount M_isParsed M_isTaken M_items M_piled M_outSize M_told M_standing)), ((aM 9), .inl (cI, 1500, .inl M_text))] H → va_D A [((aM 0), .inr (9, oX9 aM M_nodes M_operators M_textSize M_wordCount M_isParsed M_isTaken M_items M_piled M_outSize M_told M_standing)), ((aM 9), .inl (cI, 1500, .inl M_text))] → va_S A s.heap H locs → W p l e rm_X9_feed s m args below meth c H locs 0 0 Q (F0 m pc ls [.int v])
set_option maxHeartbeats 4000000 in
set_option maxRecDepth 100000 in
theorem k_X9_feed_42 {p : Program} {l : Launch} {e : Env} {s : State} {m : MethodId} {args : Array Value} {below : List Frame} {meth : Method} {c : Code} {Q : State → Prop} {dC : Nat → ClassId} {dI : Nat → Nat → Nat} {cI cJ cB cZ : ClassId} {A : Nat → Prop} (C0 : Cx p s m meth c args cX9_feed 5 (some .int) wsX9_feed RX9) (hK : va_K (dC, dI) vwCl [(cI, .int), (cJ, .long), (cB, .byte), (cZ, .boolean)] s) (hN : NW s) (hA : ∀ q, s.heap.size ≤ q → A q) (aM : Nat → Nat) (M_nodes : Int32) (M_operators : Int32) (M_wordCount : Int32) (M_isParsed : Int32) (M_isTaken : Int32) (M_items : Int32) (M_piled : Int32) (M_outSize : Int32) (M_told : Int32) (M_standing : Int32) (res : Int32 × (Nat → Int32) × Int32) (RET : RT_X9_feed p l e s m args below meth c Q dC dI cI cJ cB cZ A aM M_nodes M_operators M_wordCount M_isParsed M_isTaken M_items M_piled M_outSize M_told M_standing res)   : ∀ (n : Nat) (M_text : Nat → Int32) (M_textSize : Int32) (x1 : Int64) (x4 : Int32), m_X9_feed_42 n M_text M_textSize x1 x4 = some res → ∀ (H : Heap) (locs : List Loc), va_P (dC, dI) vwCl [((aM 0), .inr (9, oX9 aM M_nodes M_operators M_textSize M_wordCount M_isParsed M_isTaken M_items M_piled M_outSize M_told M_standing)), ((aM 9), .inl (cI, 1500, .inl M_text))] H → va_D A [((aM 0), .inr (9, oX9 aM M_nodes M_operators M_textSize M_wordCount M_isParsed M_isTaken M_items M_piled M_outSize M_told M_standing)), ((aM 9), .inl (cI, 1500, .inl M_text))] → va_S A s.heap H locs → ∀ (ls : Array Slot), lv_has ls 5 [(0, .ref (aM 0)), (1, .long x1), (4, .int x4)] → W p l e rm_X9_feed s m args below meth c H locs 0 0 Q (F0 m 42 ls []) := by
  obtain ⟨⟨hx, hb, hml, hown, hts⟩, hr, hlocks⟩ := id C0
  intro n
  induction n with
  | zero =>
    intro M_text M_textSize x1 x4 hm
    exact absurd hm (by intro h; cases h)
  | succ n ih =>
    intro M_text M_textSize x1 x4 hm H locs hP hD hS ls hl
    have hm : (if x4 < 0 then (some (M_textSize, M_text, M_textSize)) else (gd M_textSize 1500 (m_X9_feed_42 n (upd M_text M_textSize.toNatClampNeg (((x1 >>> ((8 * x4).toInt64 &&& 63)).toInt32) &&& 255)) (M_textSize + 1) x1 (x4 + (-1))))) = some res := hm
    refine lv_iload hx hb dX9_feed_42 (lv_at hl 2 rfl) ?_
    refine lv_if_lt (tgt := 84) hx hb dX9_feed_44 (by decide) (fun c_1 => ?_) (fun c_1 => ?_)
    · have hm := it_some c_1 hm
      refine lv_aload_n hx hb dX9_feed_84 rfl (lv_at hl 0 rfl) ?_
      refine va_get (D := (dC, dI)) (ci := 9) (v := .int M_textSize) (C := RX9) (T := TX9) (N := 53) hx hb hts X9_feed_inX9 hown hK hP 0 rfl rfl 9 (by decide) (hts (.fieldLink RX9 148 "MixfixDeskModel" "textSize" "I") (List.mem_of_getElem? (i := 1) rfl)) (fun _ h9 => h9) rfl dX9_feed_85 ?_
      exact RET M_textSize M_text M_textSize hm _ H locs ls dX9_feed_88 hP hD hS
    · have hm := if_some' c_1 hm
      refine lv_aload_n hx hb dX9_feed_47 rfl (lv_at hl 0 rfl) ?_
      refine va_get (D := (dC, dI)) (ci := 9) (v := .ref (aM 9)) (C := RX9) (T := TX9) (N := 53) hx hb hts X9_feed_inX9 hown hK hP 0 rfl rfl 8 (by decide) (hts (.fieldLink RX9 30 "MixfixDeskModel" "text" "[I") (List.mem_of_getElem? (i := 2) rfl)) (fun _ h9 => h9) rfl dX9_feed_48 ?_
      refine lv_aload_n hx hb dX9_feed_51 rfl (lv_at hl 0 rfl) ?_
      refine va_get (D := (dC, dI)) (ci := 9) (v := .int M_textSize) (C := RX9) (T := TX9) (N := 53) hx hb hts X9_feed_inX9 hown hK hP 0 rfl rfl 9 (by decide) (hts (.fieldLink RX9 148 "MixfixDeskModel" "textSize" "I") (List.mem_of_getElem? (i := 1) rfl)) (fun _ h9 => h9) rfl dX9_feed_52 ?_
      refine lv_lload_n hx hb dX9_feed_55 rfl (lv_at hl 1 rfl) ?_
      refine lv_bipush (v := 8) hx hb dX9_feed_56 (by decide) ?_
      refine lv_iload hx hb dX9_feed_58 (lv_at hl 2 rfl) ?_
      refine lv_imul hx hb dX9_feed_60 ?_
      refine lv_lshr (v := x1 >>> ((8 * x4).toInt64 &&& 63)) hx hb dX9_feed_61 rfl ?_
      refine lv_l2i (v := (x1 >>> ((8 * x4).toInt64 &&& 63)).toInt32) hx hb dX9_feed_62 rfl ?_
      refine lv_sipush (v := 255) hx hb dX9_feed_63 (by decide) ?_
      refine lv_iand hx hb dX9_feed_66 ?_
      obtain ⟨hi_2, hm⟩ := gd_some hm
      refine va_iast (D := (dC, dI)) hx hb hK hP hD hS 1 0 rfl rfl hi_2 dX9_feed_67 (fun H locs hP hD hS => ?_)
      have hP : va_P (dC, dI) vwCl [((aM 0), .inr (9, oX9 aM M_nodes M_operators M_textSize M_wordCount M_isParsed M_isTaken M_items M_piled M_outSize M_told M_standing)), ((aM 9), .inl (cI, 1500, .inl (upd M_text M_textSize.toNatClampNeg (((x1 >>> ((8 * x4).toInt64 &&& 63)).toInt32) &&& 255))))] H := hP
      have hD : va_D A [((aM 0), .inr (9, oX9 aM M_nodes M_operators M_textSize M_wordCount M_isParsed M_isTaken M_items M_piled M_outSize M_told M_standing)), ((aM 9), .inl (cI, 1500, .inl (upd M_text M_textSize.toNatClampNeg (((x1 >>> ((8 * x4).toInt64 &&& 63)).toInt32) &&& 255))))] := hD
      refine lv_aload_n hx hb dX9_feed_68 rfl (lv_at hl 0 rfl) ?_
      refine lv_dup hx hb dX9_feed_69 rfl ?_
      refine va_get (D := (dC, dI)) (ci := 9) (v := .int M_textSize) (C := RX9) (T := TX9) (N := 53) hx hb hts X9_feed_inX9 hown hK hP 0 rfl rfl 9 (by decide) (hts (.fieldLink RX9 148 "MixfixDeskModel" "textSize" "I") (List.mem_of_getElem? (i := 1) rfl)) (fun _ h9 => h9) rfl dX9_feed_70 ?_
      refine lv_iconst (v := 1) hx hb dX9_feed_73 (by decide) ?_
      refine lv_iadd hx hb dX9_feed_74 ?_
      refine va_put (D := (dC, dI)) (ci := 9) (v := .int (M_textSize + 1)) (ty := .int) (C := RX9) (T := TX9) (N := 53) hx hb hts X9_feed_inX9 tyX9 tyX9_ok nmX9 hown hK hP hD hS 0 rfl rfl 9 (by decide) (hts (.fieldLink RX9 148 "MixfixDeskModel" "textSize" "I") (List.mem_of_getElem? (i := 1) rfl)) (fun _ h9 => h9) rfl (by decide +kernel) rfl rfl (Nat.le_of_ble_eq_true rfl) dX9_feed_75 (fun H locs hP hD hS => ?_)
      have hP : va_P (dC, dI) vwCl [((aM 0), .inr (9, oX9 aM M_nodes M_operators (M_textSize + 1) M_wordCount M_isParsed M_isTaken M_items M_piled M_outSize M_told M_standing)), ((aM 9), .inl (cI, 1500, .inl (upd M_text M_textSize.toNatClampNeg (((x1 >>> ((8 * x4).toInt64 &&& 63)).toInt32) &&& 255))))] H := hP
      have hD : va_D A [((aM 0), .inr (9, oX9 aM M_nodes M_operators (M_textSize + 1) M_wordCount M_isParsed M_isTaken M_items M_piled M_outSize M_told M_standing)), ((aM 9), .inl (cI, 1500, .inl (upd M_text M_textSize.toNatClampNeg (((x1 >>> ((8 * x4).toInt64 &&& 63)).toInt32) &&& 255))))] := hD
      refine lv_iinc (v := x4 + (-1)) (lv' := [(4, .int (x4 + (-1))), (0, .ref (aM 0)), (1, .long x1)]) hx hb dX9_feed_78 hl (k := 2) rfl rfl (by decide) rfl (fun ls hl => ?_)
      refine lv_goto (tgt := 42) hx hb dX9_feed_81 (by decide) ?_
      exact ih (upd M_text M_textSize.toNatClampNeg (((x1 >>> ((8 * x4).toInt64 &&& 63)).toInt32) &&& 255)) (M_textSize + 1) x1 (x4 + (-1)) hm H locs hP hD hS ls (lv_sub hl [1, 2, 0] rfl)
set_option maxHeartbeats 4000000 in
set_option maxRecDepth 100000 in
theorem k_X9_feed_22 {p : Program} {l : Launch} {e : Env} {s : State} {m : MethodId} {args : Array Value} {below : List Frame} {meth : Method} {c : Code} {Q : State → Prop} {dC : Nat → ClassId} {dI : Nat → Nat → Nat} {cI cJ cB cZ : ClassId} {A : Nat → Prop} (C0 : Cx p s m meth c args cX9_feed 5 (some .int) wsX9_feed RX9) (hK : va_K (dC, dI) vwCl [(cI, .int), (cJ, .long), (cB, .byte), (cZ, .boolean)] s) (hN : NW s) (hA : ∀ q, s.heap.size ≤ q → A q) (aM : Nat → Nat) (M_nodes : Int32) (M_operators : Int32) (M_wordCount : Int32) (M_isParsed : Int32) (M_isTaken : Int32) (M_items : Int32) (M_piled : Int32) (M_outSize : Int32) (M_told : Int32) (M_standing : Int32) (res : Int32 × (Nat → Int32) × Int32) (RET : RT_X9_feed p l e s m args below meth c Q dC dI cI cJ cB cZ A aM M_nodes M_operators M_wordCount M_isParsed M_isTaken M_items M_piled M_outSize M_told M_standing res)   : ∀ (M_text : Nat → Int32) (M_textSize : Int32) (x1 : Int64) (x3 : Int32), m_X9_feed_22 M_text M_textSize x1 x3 = some res → ∀ (H : Heap) (locs : List Loc), va_P (dC, dI) vwCl [((aM 0), .inr (9, oX9 aM M_nodes M_operators M_textSize M_wordCount M_isParsed M_isTaken M_items M_piled M_outSize M_told M_standing)), ((aM 9), .inl (cI, 1500, .inl M_text))] H → va_D A [((aM 0), .inr (9, oX9 aM M_nodes M_operators M_textSize M_wordCount M_isParsed M_isTaken M_items M_piled M_outSize M_told M_standing)), ((aM 9), .inl (cI, 1500, .inl M_text))] → va_S A s.heap H locs → ∀ (ls : Array Slot), lv_has ls 5 [(0, .ref (aM 0)), (1, .long x1), (3, .int x3)] → W p l e rm_X9_feed s m args below meth c H locs 0 0 Q (F0 m 22 ls []) := by
  obtain ⟨⟨hx, hb, hml, hown, hts⟩, hr, hlocks⟩ := id C0
  intro M_text M_textSize x1 x3 hm H locs hP hD hS ls hl
  have hm : (if (M_textSize + x3) ≤ 1500 then (m_X9_feed_42 FU M_text M_textSize x1 (x3 - 1)) else (some ((-4), M_text, M_textSize))) = some res := hm
  refine lv_aload_n hx hb dX9_feed_22 rfl (lv_at hl 0 rfl) ?_
  refine va_get (D := (dC, dI)) (ci := 9) (v := .int M_textSize) (C := RX9) (T := TX9) (N := 53) hx hb hts X9_feed_inX9 hown hK hP 0 rfl rfl 9 (by decide) (hts (.fieldLink RX9 148 "MixfixDeskModel" "textSize" "I") (List.mem_of_getElem? (i := 1) rfl)) (fun _ h9 => h9) rfl dX9_feed_23 ?_
  refine lv_iload_n hx hb dX9_feed_26 rfl (lv_at hl 2 rfl) ?_
  refine lv_iadd hx hb dX9_feed_27 ?_
  refine lv_sipush (v := 1500) hx hb dX9_feed_28 (by decide) ?_
  refine lv_icmp_le (tgt := 37) hx hb dX9_feed_31 (by decide) (fun c_3 => ?_) (fun c_3 => ?_)
  · have hm := it_some c_3 hm
    refine lv_iload_n hx hb dX9_feed_37 rfl (lv_at hl 2 rfl) ?_
    refine lv_iconst (v := 1) hx hb dX9_feed_38 (by decide) ?_
    refine lv_isub hx hb dX9_feed_39 ?_
    refine lv_istore (lv' := [(4, .int (x3 - 1)), (0, .ref (aM 0)), (1, .long x1), (3, .int x3)]) hx hb dX9_feed_40 hl (by decide) rfl (fun ls hl => ?_)
    exact k_X9_feed_42 C0 hK hN hA aM M_nodes M_operators M_wordCount M_isParsed M_isTaken M_items M_piled M_outSize M_told M_standing res RET FU M_text M_textSize x1 (x3 - 1) hm H locs hP hD hS ls (lv_sub hl [1, 2, 0] rfl)
  · have hm := if_some' c_3 hm
    refine lv_bipush (v := (-4)) hx hb dX9_feed_34 (by decide) ?_
    exact RET (-4) M_text M_textSize hm _ H locs ls dX9_feed_36 hP hD hS
set_option maxHeartbeats 4000000 in
set_option maxRecDepth 100000 in
theorem k_X9_feed_E {p : Program} {l : Launch} {e : Env} {s : State} {m : MethodId} {args : Array Value} {below : List Frame} {meth : Method} {c : Code} {Q : State → Prop} {dC : Nat → ClassId} {dI : Nat → Nat → Nat} {cI cJ cB cZ : ClassId} {A : Nat → Prop} (C0 : Cx p s m meth c args cX9_feed 5 (some .int) wsX9_feed RX9) (hK : va_K (dC, dI) vwCl [(cI, .int), (cJ, .long), (cB, .byte), (cZ, .boolean)] s) (hN : NW s) (hA : ∀ q, s.heap.size ≤ q → A q) (aM : Nat → Nat) (M_nodes : Int32) (M_operators : Int32) (M_wordCount : Int32) (M_isParsed : Int32) (M_isTaken : Int32) (M_items : Int32) (M_piled : Int32) (M_outSize : Int32) (M_told : Int32) (M_standing : Int32) (res : Int32 × (Nat → Int32) × Int32) (RET : RT_X9_feed p l e s m args below meth c Q dC dI cI cJ cB cZ A aM M_nodes M_operators M_wordCount M_isParsed M_isTaken M_items M_piled M_outSize M_told M_standing res) : ∀ (M_text : Nat → Int32) (M_textSize : Int32) (p0 : Int64) (p1 : Int32), m_X9_feed M_text M_textSize p0 p1 = some res → ∀ (H : Heap) (locs : List Loc), va_P (dC, dI) vwCl [((aM 0), .inr (9, oX9 aM M_nodes M_operators M_textSize M_wordCount M_isParsed M_isTaken M_items M_piled M_outSize M_told M_standing)), ((aM 9), .inl (cI, 1500, .inl M_text))] H → va_D A [((aM 0), .inr (9, oX9 aM M_nodes M_operators M_textSize M_wordCount M_isParsed M_isTaken M_items M_piled M_outSize M_told M_standing)), ((aM 9), .inl (cI, 1500, .inl M_text))] → va_S A s.heap H locs → ∀ (ls : Array Slot), lv_has ls 5 [(0, .ref (aM 0)), (1, .long p0), (3, .int p1)] → W p l e rm_X9_feed s m args below meth c H locs 0 0 Q (F0 m 0 ls []) := by
  obtain ⟨⟨hx, hb, hml, hown, hts⟩, hr, hlocks⟩ := id C0
  intro M_text M_textSize p0 p1 hm H locs hP hD hS ls hl
  have hm : (if p1 < 0 then (some ((-2), M_text, M_textSize)) else (if p1 ≤ 8 then (if p1 = 0 then (m_X9_feed_22 M_text 0 p0 p1) else (m_X9_feed_22 M_text M_textSize p0 p1)) else (some ((-2), M_text, M_textSize)))) = some res := hm
  refine lv_iload_n hx hb dX9_feed_0 rfl (lv_at hl 2 rfl) ?_
  refine lv_if_lt (tgt := 10) hx hb dX9_feed_1 (by decide) (fun c_4 => ?_) (fun c_4 => ?_)
  · have hm := it_some c_4 hm
    refine lv_bipush (v := (-2)) hx hb dX9_feed_10 (by decide) ?_
    exact RET (-2) M_text M_textSize hm _ H locs ls dX9_feed_12 hP hD hS
  · have hm := if_some' c_4 hm
    refine lv_iload_n hx hb dX9_feed_4 rfl (lv_at hl 2 rfl) ?_
    refine lv_bipush (v := 8) hx hb dX9_feed_5 (by decide) ?_
    refine lv_icmp_le (tgt := 13) hx hb dX9_feed_7 (by decide) (fun c_5 => ?_) (fun c_5 => ?_)
    · have hm := it_some c_5 hm
      refine lv_iload_n hx hb dX9_feed_13 rfl (lv_at hl 2 rfl) ?_
      refine lv_if_ne (tgt := 22) hx hb dX9_feed_14 (by decide) (fun c_6 => ?_) (fun c_6 => ?_)
      · have hm := if_some' c_6 hm
        exact k_X9_feed_22 C0 hK hN hA aM M_nodes M_operators M_wordCount M_isParsed M_isTaken M_items M_piled M_outSize M_told M_standing res RET M_text M_textSize p0 p1 hm H locs hP hD hS ls hl
      · have hm := it_some c_6 hm
        refine lv_aload_n hx hb dX9_feed_17 rfl (lv_at hl 0 rfl) ?_
        refine lv_iconst (v := 0) hx hb dX9_feed_18 (by decide) ?_
        refine va_put (D := (dC, dI)) (ci := 9) (v := .int 0) (ty := .int) (C := RX9) (T := TX9) (N := 53) hx hb hts X9_feed_inX9 tyX9 tyX9_ok nmX9 hown hK hP hD hS 0 rfl rfl 9 (by decide) (hts (.fieldLink RX9 148 "MixfixDeskModel" "textSize" "I") (List.mem_of_getElem? (i := 1) rfl)) (fun _ h9 => h9) rfl (by decide +kernel) rfl rfl (Nat.le_of_ble_eq_true rfl) dX9_feed_19 (fun H locs hP hD hS => ?_)
        have hP : va_P (dC, dI) vwCl [((aM 0), .inr (9, oX9 aM M_nodes M_operators 0 M_wordCount M_isParsed M_isTaken M_items M_piled M_outSize M_told M_standing)), ((aM 9), .inl (cI, 1500, .inl M_text))] H := hP
        have hD : va_D A [((aM 0), .inr (9, oX9 aM M_nodes M_operators 0 M_wordCount M_isParsed M_isTaken M_items M_piled M_outSize M_told M_standing)), ((aM 9), .inl (cI, 1500, .inl M_text))] := hD
        exact k_X9_feed_22 C0 hK hN hA aM M_nodes M_operators M_wordCount M_isParsed M_isTaken M_items M_piled M_outSize M_told M_standing res RET M_text 0 p0 p1 hm H locs hP hD hS ls hl
    · have hm := if_some' c_5 hm
      refine lv_bipush (v := (-2)) hx hb dX9_feed_10 (by decide) ?_
      exact RET (-2) M_text M_textSize hm _ H locs ls dX9_feed_12 hP hD hS
set_option maxHeartbeats 4000000 in
set_option maxRecDepth 100000 in
theorem c_X9_feed (l : Launch) (dC : Nat → ClassId) (dI : Nat → Nat → Nat) (cI cJ cB cZ : ClassId) (aM : Nat → Nat) (sz : Nat) (M_nodes : Int32) (M_operators : Int32) (M_textSize : Int32) (M_wordCount : Int32) (M_isParsed : Int32) (M_isTaken : Int32) (M_items : Int32) (M_piled : Int32) (M_outSize : Int32) (M_told : Int32) (M_standing : Int32) (M_text : Nat → Int32) (p0 : Int64) (p1 : Int32) (res : Int32 × (Nat → Int32) × Int32) (hm : m_X9_feed M_text M_textSize p0 p1 = some res) : Met l yX9_feed wsX9_feed rm_X9_feed (cP (dC, dI) vwCl [(cI, .int), (cJ, .long), (cB, .byte), (cZ, .boolean)] [.ref (aM 0), .long p0, .int p1] [((aM 0), .inr (9, oX9 aM M_nodes M_operators M_textSize M_wordCount M_isParsed M_isTaken M_items M_piled M_outSize M_told M_standing)), ((aM 9), .inl (cI, 1500, .inl M_text))] sz) (cQi res.1 (dC, dI) vwCl [((aM 0), .inr (9, oX9 aM M_nodes M_operators res.2.2 M_wordCount M_isParsed M_isTaken M_items M_piled M_outSize M_told M_standing)), ((aM 9), .inl (cI, 1500, .inl res.2.1))] [((aM 0), .inr (9, oX9 aM M_nodes M_operators M_textSize M_wordCount M_isParsed M_isTaken M_items M_piled M_outSize M_told M_standing)), ((aM 9), .inl (cI, 1500, .inl M_text))] sz) 0 0 (va_A [((aM 0), .inr (9, oX9 aM M_nodes M_operators M_textSize M_wordCount M_isParsed M_isTaken M_items M_piled M_outSize M_told M_standing)), ((aM 9), .inl (cI, 1500, .inl M_text))] sz) := by
  refine cx_of (cc := cX9_feed) (maxL := 5) (ret := (some .int)) (own := RX9) (by decide) rfl rfl (Nat.le_of_ble_eq_true rfl) ?_
  intro p e s m below meth c A C0 hinN hK hN hsz hAe hA hP hD hS ls hl
  refine k_X9_feed_E C0 hK hN hA aM M_nodes M_operators M_wordCount M_isParsed M_isTaken M_items M_piled M_outSize M_told M_standing res ?_ M_text M_textSize p0 p1 hm _ _ hP hD hS ls hl
  intro v M_text M_textSize he pc H locs ls hdg hP hD hS
  have he := Option.some.inj he
  subst he
  exact cx_reti C0 hsz hAe hdg hP hD hS

theorem dX9_node_0 : decode cX9_node 0 = .ok (.aload_n 0, 1) := by decide +kernel
theorem dX9_node_1 : decode cX9_node 1 = .ok (.getfield 141, 3) := by decide +kernel
theorem dX9_node_4 : decode cX9_node 4 = .ok (.bipush 16, 2) := by decide +kernel
theorem dX9_node_6 : decode cX9_node 6 = .ok (.if_icmp .ne 6, 3) := by decide +kernel
theorem dX9_node_9 : decode cX9_node 9 = .ok (.bipush (-4), 2) := by decide +kernel
theorem dX9_node_11 : decode cX9_node 11 = .ok (.ireturn, 1) := by decide +kernel
theorem dX9_node_12 : decode cX9_node 12 = .ok (.aload_n 0, 1) := by decide +kernel
theorem dX9_node_13 : decode cX9_node 13 = .ok (.dup, 1) := by decide +kernel
theorem dX9_node_14 : decode cX9_node 14 = .ok (.getfield 141, 3) := by decide +kernel
theorem dX9_node_17 : decode cX9_node 17 = .ok (.iconst 1, 1) := by decide +kernel
theorem dX9_node_18 : decode cX9_node 18 = .ok (.iadd, 1) := by decide +kernel
theorem dX9_node_19 : decode cX9_node 19 = .ok (.putfield 141, 3) := by decide +kernel
theorem dX9_node_22 : decode cX9_node 22 = .ok (.aload_n 0, 1) := by decide +kernel
theorem dX9_node_23 : decode cX9_node 23 = .ok (.getfield 141, 3) := by decide +kernel
theorem dX9_node_26 : decode cX9_node 26 = .ok (.iconst 1, 1) := by decide +kernel
theorem dX9_node_27 : decode cX9_node 27 = .ok (.isub, 1) := by decide +kernel
theorem dX9_node_28 : decode cX9_node 28 = .ok (.ireturn, 1) := by decide +kernel
/-! MixfixDeskModel.node()I -/
abbrev rm_X9_node : Room := { frames := 0, cells := 0, slots := 0, locals := 0 }
theorem X9_node_inX9 : ∀ w ∈ wsX90, w ∈ wsX9_node := by exact fun w h => List.mem_cons_of_mem _ (List.mem_append_right _ h)
abbrev RT_X9_node (p : Program) (l : Launch) (e : Env) (s : State) (m : MethodId) (args : Array Value) (below : List Frame) (meth : Method) (c : Code) (Q : State → Prop) (dC : Nat → ClassId) (dI : Nat → Nat → Nat) (cI cJ cB cZ : ClassId) (A : Nat → Prop) (aM : Nat → Nat) (M_operators : Int32) (M_textSize : Int32) (M_wordCount : Int32) (M_isParsed : Int32) (M_isTaken : Int32) (M_items : Int32) (M_piled : Int32) (M_outSize : Int32) (M_told : Int32) (M_standing : Int32) (res : Int32 × Int32) : Prop := ∀ (v : Int32) (M_nodes : Int32), some (v, M_nodes) = some res → ∀ (pc : Nat) (H : Heap) (locs : List Loc) (ls : Array Slot), decode cX9_node pc = .ok (.ireturn, 1) → va_P (dC, dI) vwCl [((aM 0), .inr (9, oX9 aM M_nodes M_operators M_textSize M_wordCount M_isParsed M_isTaken M_items M_piled M_outSize M_told M_standing))] H → va_D A [((aM 0), .inr (9, oX9 aM M_nodes M_operators M_textSize M_wordCount M_isParsed M_isTaken M_items M_piled M_outSize M_told M_standing))] → va_S A s.heap H locs → W p l e rm_X9_node s m args below meth c H locs 0 0 Q (F0 m pc ls [.int v])
set_option maxHeartbeats 4000000 in
set_option maxRecDepth 100000 in
theorem k_X9_node_E {p : Program} {l : Launch} {e : Env} {s : State} {m : MethodId} {args : Array Value} {below : List Frame} {meth : Method} {c : Code} {Q : State → Prop} {dC : Nat → ClassId} {dI : Nat → Nat → Nat} {cI cJ cB cZ : ClassId} {A : Nat → Prop} (C0 : Cx p s m meth c args cX9_node 1 (some .int) wsX9_node RX9) (hK : va_K (dC, dI) vwCl [(cI, .int), (cJ, .long), (cB, .byte), (cZ, .boolean)] s) (hN : NW s) (hA : ∀ q, s.heap.size ≤ q → A q) (aM : Nat → Nat) (M_operators : Int32) (M_textSize : Int32) (M_wordCount : Int32) (M_isParsed : Int32) (M_isTaken : Int32) (M_items : Int32) (M_piled : Int32) (M_outSize : Int32) (M_told : Int32) (M_standing : Int32) (res : Int32 × Int32) (RET : RT_X9_node p l e s m args below meth c Q dC dI cI cJ cB cZ A aM M_operators M_textSize M_wordCount M_isParsed M_isTaken M_items M_piled M_outSize M_told M_standing res) : ∀ (M_nodes : Int32), m_X9_node M_nodes = some res → ∀ (H : Heap) (locs : List Loc), va_P (dC, dI) vwCl [((aM 0), .inr (9, oX9 aM M_nodes M_operators M_textSize M_wordCount M_isParsed M_isTaken M_items M_piled M_outSize M_told M_standing))] H → va_D A [((aM 0), .inr (9, oX9 aM M_nodes M_operators M_textSize M_wordCount M_isParsed M_isTaken M_items M_piled M_outSize M_told M_standing))] → va_S A s.heap H locs → ∀ (ls : Array Slot), lv_has ls 1 [(0, .ref (aM 0))] → W p l e rm_X9_node s m args below meth c H locs 0 0 Q (F0 m 0 ls []) := by
  obtain ⟨⟨hx, hb, hml, hown, hts⟩, hr, hlocks⟩ := id C0
  intro M_nodes hm H locs hP hD hS ls hl
  have hm : (if M_nodes = 16 then (some ((-4), M_nodes)) else (some ((M_nodes + 1) - 1, M_nodes + 1))) = some res := hm
  refine lv_aload_n hx hb dX9_node_0 rfl (lv_at hl 0 rfl) ?_
  refine va_get (D := (dC, dI)) (ci := 9) (v := .int M_nodes) (C := RX9) (T := TX9) (N := 53) hx hb hts X9_node_inX9 hown hK hP 0 rfl rfl 0 (by decide) (hts (.fieldLink RX9 141 "MixfixDeskModel" "nodes" "I") (List.mem_of_getElem? (i := 1) rfl)) (fun _ h9 => h9) rfl dX9_node_1 ?_
  refine lv_bipush (v := 16) hx hb dX9_node_4 (by decide) ?_
  refine lv_icmp_ne (tgt := 12) hx hb dX9_node_6 (by decide) (fun c_1 => ?_) (fun c_1 => ?_)
  · have hm := if_some' c_1 hm
    refine lv_aload_n hx hb dX9_node_12 rfl (lv_at hl 0 rfl) ?_
    refine lv_dup hx hb dX9_node_13 rfl ?_
    refine va_get (D := (dC, dI)) (ci := 9) (v := .int M_nodes) (C := RX9) (T := TX9) (N := 53) hx hb hts X9_node_inX9 hown hK hP 0 rfl rfl 0 (by decide) (hts (.fieldLink RX9 141 "MixfixDeskModel" "nodes" "I") (List.mem_of_getElem? (i := 1) rfl)) (fun _ h9 => h9) rfl dX9_node_14 ?_
    refine lv_iconst (v := 1) hx hb dX9_node_17 (by decide) ?_
    refine lv_iadd hx hb dX9_node_18 ?_
    refine va_put (D := (dC, dI)) (ci := 9) (v := .int (M_nodes + 1)) (ty := .int) (C := RX9) (T := TX9) (N := 53) hx hb hts X9_node_inX9 tyX9 tyX9_ok nmX9 hown hK hP hD hS 0 rfl rfl 0 (by decide) (hts (.fieldLink RX9 141 "MixfixDeskModel" "nodes" "I") (List.mem_of_getElem? (i := 1) rfl)) (fun _ h9 => h9) rfl (by decide +kernel) rfl rfl (Nat.le_of_ble_eq_true rfl) dX9_node_19 (fun H locs hP hD hS => ?_)
    have hP : va_P (dC, dI) vwCl [((aM 0), .inr (9, oX9 aM (M_nodes + 1) M_operators M_textSize M_wordCount M_isParsed M_isTaken M_items M_piled M_outSize M_told M_standing))] H := hP
    have hD : va_D A [((aM 0), .inr (9, oX9 aM (M_nodes + 1) M_operators M_textSize M_wordCount M_isParsed M_isTaken M_items M_piled M_outSize M_told M_standing))] := hD
    refine lv_aload_n hx hb dX9_node_22 rfl (lv_at hl 0 rfl) ?_
    refine va_get (D := (dC, dI)) (ci := 9) (v := .int (M_nodes + 1)) (C := RX9) (T := TX9) (N := 53) hx hb hts X9_node_inX9 hown hK hP 0 rfl rfl 0 (by decide) (hts (.fieldLink RX9 141 "MixfixDeskModel" "nodes" "I") (List.mem_of_getElem? (i := 1) rfl)) (fun _ h9 => h9) rfl dX9_node_23 ?_
    refine lv_iconst (v := 1) hx hb dX9_node_26 (by decide) ?_
    refine lv_isub hx hb dX9_node_27 ?_
    exact RET ((M_nodes + 1) - 1) (M_nodes + 1) hm _ H locs ls dX9_node_28 hP hD hS
  · have hm := it_some c_1 hm
    refine lv_bipush (v := (-4)) hx hb dX9_node_9 (by decide) ?_
    exact RET (-4) M_nodes hm _ H locs ls dX9_node_11 hP hD hS
set_option maxHeartbeats 4000000 in
set_option maxRecDepth 100000 in
theorem c_X9_node (l : Launch) (dC : Nat → ClassId) (dI : Nat → Nat → Nat) (cI cJ cB cZ : ClassId) (aM : Nat → Nat) (sz : Nat) (M_nodes : Int32) (M_operators : Int32) (M_textSize : Int32) (M_wordCount : Int32) (M_isParsed : Int32) (M_isTaken : Int32) (M_items : Int32) (M_piled : Int32) (M_outSize : Int32) (M_told : Int32) (M_standing : Int32) (res : Int32 × Int32) (hm : m_X9_node M_nodes = some res) : Met l yX9_node wsX9_node rm_X9_node (cP (dC, dI) vwCl [(cI, .int), (cJ, .long), (cB, .byte), (cZ, .boolean)] [.ref (aM 0)] [((aM 0), .inr (9, oX9 aM M_nodes M_operators M_textSize M_wordCount M_isParsed M_isTaken M_items M_piled M_outSize M_told M_standing))] sz) (cQi res.1 (dC, dI) vwCl [((aM 0), .inr (9, oX9 aM res.2 M_operators M_textSize M_wordCount M_isParsed M_isTaken M_items M_piled M_outSize M_told M_standing))] [((aM 0), .inr (9, oX9 aM M_nodes M_operators M_textSize M_wordCount M_isParsed M_isTaken M_items M_piled M_outSize M_told M_standing))] sz) 0 0 (va_A [((aM 0), .inr (9, oX9 aM M_nodes M_operators M_textSize M_wordCount M_isParsed M_isTaken M_items M_piled M_outSize M_told M_standing))] sz) := by
  refine cx_of (cc := cX9_node) (maxL := 1) (ret := (some .int)) (own := RX9) (by decide) rfl rfl (Nat.le_of_ble_eq_true rfl) ?_
  intro p e s m below meth c A C0 hinN hK hN hsz hAe hA hP hD hS ls hl
  refine k_X9_node_E C0 hK hN hA aM M_operators M_textSize M_wordCount M_isParsed M_isTaken M_items M_piled M_outSize M_told M_standing res ?_ M_nodes hm _ _ hP hD hS ls hl
  intro v M_nodes he pc H locs ls hdg hP hD hS
  have he := Option.some.inj he
  subst he
  exact cx_reti C0 hsz hAe hdg hP hD hS

