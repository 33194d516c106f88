theorem dX9_withAt_0 : decode cX9_withAt 0 = .ok (.aload_n 0, 1) := by decide +kernel
theorem dX9_withAt_1 : decode cX9_withAt 1 = .ok (.getfield 43, 3) := by decide +kernel
theorem dX9_withAt_4 : decode cX9_withAt 4 = .ok (.ldc 183, 2) := by decide +kernel
theorem dX9_withAt_6 : decode cX9_withAt 6 = .ok (.iload_n 1, 1) := by decide +kernel
theorem dX9_withAt_7 : decode cX9_withAt 7 = .ok (.imul, 1) := by decide +kernel
theorem dX9_withAt_8 : decode cX9_withAt 8 = .ok (.sipush 1681, 3) := by decide +kernel
theorem dX9_withAt_11 : decode cX9_withAt 11 = .ok (.iload_n 2, 1) := by decide +kernel
theorem dX9_withAt_12 : decode cX9_withAt 12 = .ok (.imul, 1) := by decide +kernel
theorem dX9_withAt_13 : decode cX9_withAt 13 = .ok (.iadd, 1) := by decide +kernel
theorem dX9_withAt_14 : decode cX9_withAt 14 = .ok (.bipush 41, 2) := by decide +kernel
theorem dX9_withAt_16 : decode cX9_withAt 16 = .ok (.iload_n 3, 1) := by decide +kernel
theorem dX9_withAt_17 : decode cX9_withAt 17 = .ok (.imul, 1) := by decide +kernel
theorem dX9_withAt_18 : decode cX9_withAt 18 = .ok (.iadd, 1) := by decide +kernel
theorem dX9_withAt_19 : decode cX9_withAt 19 = .ok (.iload 4, 2) := by decide +kernel
theorem dX9_withAt_21 : decode cX9_withAt 21 = .ok (.iadd, 1) := by decide +kernel
theorem dX9_withAt_22 : decode cX9_withAt 22 = .ok (.iaload, 1) := by decide +kernel
theorem dX9_withAt_23 : decode cX9_withAt 23 = .ok (.ireturn, 1) := by decide +kernel
/-! MixfixDeskModel.withAt(IIII)I -/
abbrev rm_X9_withAt : Room := { frames := 0, cells := 0, slots := 0, locals := 0 }
theorem X9_withAt_inX9 : ∀ w ∈ wsX90, w ∈ wsX9_withAt := by exact fun w h => List.mem_cons_of_mem _ (List.mem_append_right _ h)
abbrev RT_X9_withAt (p : Program) (l : Launch) (e : Env) (s : State) (m : MethodId) (args : Array Value) (below : List Frame) (meth : Method) (c : Code) (Q : State → Prop) (dC : Nat → ClassId) (dI : Nat → Nat → Nat) (cI cJ cB cZ : ClassId) (A : Nat → Prop) (aM : Nat → Nat) (M_nodes : Int32) (M_operators : Int32) (M_textSize : Int32) (M_wordCount : Int32) (M_isParsed : Int32) (M_isTaken : Int32) (M_items : Int32) (M_piled : Int32) (M_outSize : Int32) (M_told : Int32) (M_standing : Int32) (M_withOperator : Nat → Int32) (res : Int32) : Prop := ∀ (v : Int32) , some v = some res → ∀ (pc : Nat) (H : Heap) (locs : List Loc) (ls : Array Slot), decode cX9_withAt pc = .ok (.ireturn, 1) → va_P (dC, dI) vwCl [((aM 0), .inr (9, oX9 aM M_nodes M_operators M_textSize M_wordCount M_isParsed M_isTaken M_items M_piled M_outSize M_told M_standing)), ((aM 15), .inl (cI, 100860, .inl M_withOperator))] H → va_D A [((aM 0), .inr (9, oX9 aM M_nodes M_operators M_textSize M_wordCount M_isParsed M_isTaken M_items M_piled M_outSize M_told M_standing)), ((aM 15), .inl (cI, 100860, .inl M_withOperator))] → va_S A s.heap H locs → W p l e rm_X9_withAt s m args below meth c H locs 0 0 Q (F0 m pc ls [.int v])
set_option maxHeartbeats 4000000 in
set_option maxRecDepth 100000 in
theorem k_X9_withAt_E {p : Program} {l : Launch} {e : Env} {s : State} {m : MethodId} {args : Array Value} {below : List Frame} {meth : Method} {c : Code} {Q : State → Prop} {dC : Nat → ClassId} {dI : Nat → Nat → Nat} {cI cJ cB cZ : ClassId} {A : Nat → Prop} (C0 : Cx p s m meth c args cX9_withAt 5 (some .int) wsX9_withAt RX9) (hK : va_K (dC, dI) vwCl [(cI, .int), (cJ, .long), (cB, .byte), (cZ, .boolean)] s) (hN : NW s) (hA : ∀ q, s.heap.size ≤ q → A q) (aM : Nat → Nat) (M_nodes : Int32) (M_operators : Int32) (M_textSize : Int32) (M_wordCount : Int32) (M_isParsed : Int32) (M_isTaken : Int32) (M_items : Int32) (M_piled : Int32) (M_outSize : Int32) (M_told : Int32) (M_standing : Int32) (M_withOperator : Nat → Int32) (res : Int32) (RET : RT_X9_withAt p l e s m args below meth c Q dC dI cI cJ cB cZ A aM M_nodes M_operators M_textSize M_wordCount M_isParsed M_isTaken M_items M_piled M_outSize M_told M_standing M_withOperator res) : ∀ (p0 : Int32) (p1 : Int32) (p2 : Int32) (p3 : Int32), m_X9_withAt M_withOperator p0 p1 p2 p3 = some res → ∀ (H : Heap) (locs : List Loc), va_P (dC, dI) vwCl [((aM 0), .inr (9, oX9 aM M_nodes M_operators M_textSize M_wordCount M_isParsed M_isTaken M_items M_piled M_outSize M_told M_standing)), ((aM 15), .inl (cI, 100860, .inl M_withOperator))] H → va_D A [((aM 0), .inr (9, oX9 aM M_nodes M_operators M_textSize M_wordCount M_isParsed M_isTaken M_items M_piled M_outSize M_told M_standing)), ((aM 15), .inl (cI, 100860, .inl M_withOperator))] → va_S A s.heap H locs → ∀ (ls : Array Slot), lv_has ls 5 [(0, .ref (aM 0)), (1, .int p0), (2, .int p1), (3, .int p2), (4, .int p3)] → W p l e rm_X9_withAt s m args below meth c H locs 0 0 Q (F0 m 0 ls []) := by
  obtain ⟨⟨hx, hb, hml, hown, hts⟩, hr, hlocks⟩ := id C0
  intro p0 p1 p2 p3 hm H locs hP hD hS ls hl
  have hm : (gd ((((50430 * p0) + (1681 * p1)) + (41 * p2)) + p3) 100860 (some (M_withOperator ((((50430 * p0) + (1681 * p1)) + (41 * p2)) + p3).toNatClampNeg))) = some res := hm
  refine lv_aload_n hx hb dX9_withAt_0 rfl (lv_at hl 0 rfl) ?_
  refine va_get (D := (dC, dI)) (ci := 9) (v := .ref (aM 15)) (C := RX9) (T := TX9) (N := 53) hx hb hts X9_withAt_inX9 hown hK hP 0 rfl rfl 14 (by decide) (hts (.fieldLink RX9 43 "MixfixDeskModel" "withOperator" "[I") (List.mem_of_getElem? (i := 1) rfl)) (fun _ h9 => h9) rfl dX9_withAt_1 ?_
  refine lv_ldc (v := 50430) hx hb hown (hts (.constant RX9 183 (50430)) (List.mem_of_getElem? (i := 2) rfl)) dX9_withAt_4 ?_
  refine lv_iload_n hx hb dX9_withAt_6 rfl (lv_at hl 1 rfl) ?_
  refine lv_imul hx hb dX9_withAt_7 ?_
  refine lv_sipush (v := 1681) hx hb dX9_withAt_8 (by decide) ?_
  refine lv_iload_n hx hb dX9_withAt_11 rfl (lv_at hl 2 rfl) ?_
  refine lv_imul hx hb dX9_withAt_12 ?_
  refine lv_iadd hx hb dX9_withAt_13 ?_
  refine lv_bipush (v := 41) hx hb dX9_withAt_14 (by decide) ?_
  refine lv_iload_n hx hb dX9_withAt_16 rfl (lv_at hl 3 rfl) ?_
  refine lv_imul hx hb dX9_withAt_17 ?_
  refine lv_iadd hx hb dX9_withAt_18 ?_
  refine lv_iload hx hb dX9_withAt_19 (lv_at hl 4 rfl) ?_
  refine lv_iadd hx hb dX9_withAt_21 ?_
  obtain ⟨hi_1, hm⟩ := gd_some hm
  refine va_iald (D := (dC, dI)) hx hb hK hP 1 0 rfl rfl hi_1 dX9_withAt_22 ?_
  exact RET (M_withOperator ((((50430 * p0) + (1681 * p1)) + (41 * p2)) + p3).toNatClampNeg) hm _ H locs ls dX9_withAt_23 hP hD hS
set_option maxHeartbeats 4000000 in
set_option maxRecDepth 100000 in
theorem c_X9_withAt (l : Launch) (dC : Nat → ClassId) (dI : Nat → Nat → Nat) (cI cJ cB cZ : ClassId) (aM : Nat → Nat) (sz : Nat) (M_nodes : Int32) (M_operators : Int32) (M_textSize : Int32) (M_wordCount : Int32) (M_isParsed : Int32) (M_isTaken : Int32) (M_items : Int32) (M_piled : Int32) (M_outSize : Int32) (M_told : Int32) (M_standing : Int32) (M_withOperator : Nat → Int32) (p0 : Int32) (p1 : Int32) (p2 : Int32) (p3 : Int32) (res : Int32) (hm : m_X9_withAt M_withOperator p0 p1 p2 p3 = some res) : Met l yX9_withAt wsX9_withAt rm_X9_withAt (cP (dC, dI) vwCl [(cI, .int), (cJ, .long), (cB, .byte), (cZ, .boolean)] [.ref (aM 0), .int p0, .int p1, .int p2, .int p3] [((aM 0), .inr (9, oX9 aM M_nodes M_operators M_textSize M_wordCount M_isParsed M_isTaken M_items M_piled M_outSize M_told M_standing)), ((aM 15), .inl (cI, 100860, .inl M_withOperator))] sz) (cQi res (dC, dI) vwCl [((aM 0), .inr (9, oX9 aM M_nodes M_operators M_textSize M_wordCount M_isParsed M_isTaken M_items M_piled M_outSize M_told M_standing)), ((aM 15), .inl (cI, 100860, .inl M_withOperator))] [((aM 0), .inr (9, oX9 aM M_nodes M_operators M_textSize M_wordCount M_isParsed M_isTaken M_items M_piled M_outSize M_told M_standing)), ((aM 15), .inl (cI, 100860, .inl M_withOperator))] sz) 0 0 (va_A [((aM 0), .inr (9, oX9 aM M_nodes M_operators M_textSize M_wordCount M_isParsed M_isTaken M_items M_piled M_outSize M_told M_standing)), ((aM 15), .inl (cI, 100860, .inl M_withOperator))] sz) := by
  refine cx_of (cc := cX9_withAt) (maxL := 5) (ret := (some .int)) (own := RX9) (by decide) rfl rfl (Nat.le_of_ble_eq_true rfl) ?_
  intro p e s m below meth c A C0 hinN hK hN hsz hAe hA hP hD hS ls hl
  refine k_X9_withAt_E C0 hK hN hA aM M_nodes M_operators M_textSize M_wordCount M_isParsed M_isTaken M_items M_piled M_outSize M_told M_standing M_withOperator res ?_ p0 p1 p2 p3 hm _ _ hP hD hS ls hl
  intro v he pc H locs ls hdg hP hD hS
  have he := Option.some.inj he
  subst he
  exact cx_reti C0 hsz hAe hdg hP hD hS

theorem dX9_holeAt_0 : decode cX9_holeAt 0 = .ok (.aload_n 0, 1) := by decide +kernel
theorem dX9_holeAt_1 : decode cX9_holeAt 1 = .ok (.getfield 47, 3) := by decide +kernel
theorem dX9_holeAt_4 : decode cX9_holeAt 4 = .ok (.ldc 184, 2) := by decide +kernel
theorem dX9_holeAt_6 : decode cX9_holeAt 6 = .ok (.iload_n 1, 1) := by decide +kernel
theorem dX9_holeAt_7 : decode cX9_holeAt 7 = .ok (.imul, 1) := by decide +kernel
theorem dX9_holeAt_8 : decode cX9_holeAt 8 = .ok (.sipush 1681, 3) := by decide +kernel
theorem dX9_holeAt_11 : decode cX9_holeAt 11 = .ok (.iload_n 2, 1) := by decide +kernel
theorem dX9_holeAt_12 : decode cX9_holeAt 12 = .ok (.imul, 1) := by decide +kernel
theorem dX9_holeAt_13 : decode cX9_holeAt 13 = .ok (.iadd, 1) := by decide +kernel
theorem dX9_holeAt_14 : decode cX9_holeAt 14 = .ok (.bipush 41, 2) := by decide +kernel
theorem dX9_holeAt_16 : decode cX9_holeAt 16 = .ok (.iload_n 3, 1) := by decide +kernel
theorem dX9_holeAt_17 : decode cX9_holeAt 17 = .ok (.imul, 1) := by decide +kernel
theorem dX9_holeAt_18 : decode cX9_holeAt 18 = .ok (.iadd, 1) := by decide +kernel
theorem dX9_holeAt_19 : decode cX9_holeAt 19 = .ok (.iload 4, 2) := by decide +kernel
theorem dX9_holeAt_21 : decode cX9_holeAt 21 = .ok (.iadd, 1) := by decide +kernel
theorem dX9_holeAt_22 : decode cX9_holeAt 22 = .ok (.iaload, 1) := by decide +kernel
theorem dX9_holeAt_23 : decode cX9_holeAt 23 = .ok (.ireturn, 1) := by decide +kernel
/-! MixfixDeskModel.holeAt(IIII)I -/
abbrev rm_X9_holeAt : Room := { frames := 0, cells := 0, slots := 0, locals := 0 }
theorem X9_holeAt_inX9 : ∀ w ∈ wsX90, w ∈ wsX9_holeAt := by exact fun w h => List.mem_cons_of_mem _ (List.mem_append_right _ h)
abbrev RT_X9_holeAt (p : Program) (l : Launch) (e : Env) (s : State) (m : MethodId) (args : Array Value) (below : List Frame) (meth : Method) (c : Code) (Q : State → Prop) (dC : Nat → ClassId) (dI : Nat → Nat → Nat) (cI cJ cB cZ : ClassId) (A : Nat → Prop) (aM : Nat → Nat) (M_nodes : Int32) (M_operators : Int32) (M_textSize : Int32) (M_wordCount : Int32) (M_isParsed : Int32) (M_isTaken : Int32) (M_items : Int32) (M_piled : Int32) (M_outSize : Int32) (M_told : Int32) (M_standing : Int32) (M_inHole : Nat → Int32) (res : Int32) : Prop := ∀ (v : Int32) , some v = some res → ∀ (pc : Nat) (H : Heap) (locs : List Loc) (ls : Array Slot), decode cX9_holeAt pc = .ok (.ireturn, 1) → va_P (dC, dI) vwCl [((aM 0), .inr (9, oX9 aM M_nodes M_operators M_textSize M_wordCount M_isParsed M_isTaken M_items M_piled M_outSize M_told M_standing)), ((aM 16), .inl (cI, 205082, .inl M_inHole))] H → va_D A [((aM 0), .inr (9, oX9 aM M_nodes M_operators M_textSize M_wordCount M_isParsed M_isTaken M_items M_piled M_outSize M_told M_standing)), ((aM 16), .inl (cI, 205082, .inl M_inHole))] → va_S A s.heap H locs → W p l e rm_X9_holeAt s m args below meth c H locs 0 0 Q (F0 m pc ls [.int v])
set_option maxHeartbeats 4000000 in
set_option maxRecDepth 100000 in
theorem k_X9_holeAt_E {p : Program} {l : Launch} {e : Env} {s : State} {m : MethodId} {args : Array Value} {below : List Frame} {meth : Method} {c : Code} {Q : State → Prop} {dC : Nat → ClassId} {dI : Nat → Nat → Nat} {cI cJ cB cZ : ClassId} {A : Nat → Prop} (C0 : Cx p s m meth c args cX9_holeAt 5 (some .int) wsX9_holeAt RX9) (hK : va_K (dC, dI) vwCl [(cI, .int), (cJ, .long), (cB, .byte), (cZ, .boolean)] s) (hN : NW s) (hA : ∀ q, s.heap.size ≤ q → A q) (aM : Nat → Nat) (M_nodes : Int32) (M_operators : Int32) (M_textSize : Int32) (M_wordCount : Int32) (M_isParsed : Int32) (M_isTaken : Int32) (M_items : Int32) (M_piled : Int32) (M_outSize : Int32) (M_told : Int32) (M_standing : Int32) (M_inHole : Nat → Int32) (res : Int32) (RET : RT_X9_holeAt p l e s m args below meth c Q dC dI cI cJ cB cZ A aM M_nodes M_operators M_textSize M_wordCount M_isParsed M_isTaken M_items M_piled M_outSize M_told M_standing M_inHole res) : ∀ (p0 : Int32) (p1 : Int32) (p2 : Int32) (p3 : Int32), m_X9_holeAt M_inHole p0 p1 p2 p3 = some res → ∀ (H : Heap) (locs : List Loc), va_P (dC, dI) vwCl [((aM 0), .inr (9, oX9 aM M_nodes M_operators M_textSize M_wordCount M_isParsed M_isTaken M_items M_piled M_outSize M_told M_standing)), ((aM 16), .inl (cI, 205082, .inl M_inHole))] H → va_D A [((aM 0), .inr (9, oX9 aM M_nodes M_operators M_textSize M_wordCount M_isParsed M_isTaken M_items M_piled M_outSize M_told M_standing)), ((aM 16), .inl (cI, 205082, .inl M_inHole))] → va_S A s.heap H locs → ∀ (ls : Array Slot), lv_has ls 5 [(0, .ref (aM 0)), (1, .int p0), (2, .int p1), (3, .int p2), (4, .int p3)] → W p l e rm_X9_holeAt s m args below meth c H locs 0 0 Q (F0 m 0 ls []) := by
  obtain ⟨⟨hx, hb, hml, hown, hts⟩, hr, hlocks⟩ := id C0
  intro p0 p1 p2 p3 hm H locs hP hD hS ls hl
  have hm : (gd ((((102541 * p0) + (1681 * p1)) + (41 * p2)) + p3) 205082 (some (M_inHole ((((102541 * p0) + (1681 * p1)) + (41 * p2)) + p3).toNatClampNeg))) = some res := hm
  refine lv_aload_n hx hb dX9_holeAt_0 rfl (lv_at hl 0 rfl) ?_
  refine va_get (D := (dC, dI)) (ci := 9) (v := .ref (aM 16)) (C := RX9) (T := TX9) (N := 53) hx hb hts X9_holeAt_inX9 hown hK hP 0 rfl rfl 15 (by decide) (hts (.fieldLink RX9 47 "MixfixDeskModel" "inHole" "[I") (List.mem_of_getElem? (i := 1) rfl)) (fun _ h9 => h9) rfl dX9_holeAt_1 ?_
  refine lv_ldc (v := 102541) hx hb hown (hts (.constant RX9 184 (102541)) (List.mem_of_getElem? (i := 2) rfl)) dX9_holeAt_4 ?_
  refine lv_iload_n hx hb dX9_holeAt_6 rfl (lv_at hl 1 rfl) ?_
  refine lv_imul hx hb dX9_holeAt_7 ?_
  refine lv_sipush (v := 1681) hx hb dX9_holeAt_8 (by decide) ?_
  refine lv_iload_n hx hb dX9_holeAt_11 rfl (lv_at hl 2 rfl) ?_
  refine lv_imul hx hb dX9_holeAt_12 ?_
  refine lv_iadd hx hb dX9_holeAt_13 ?_
  refine lv_bipush (v := 41) hx hb dX9_holeAt_14 (by decide) ?_
  refine lv_iload_n hx hb dX9_holeAt_16 rfl (lv_at hl 3 rfl) ?_
  refine lv_imul hx hb dX9_holeAt_17 ?_
  refine lv_iadd hx hb dX9_holeAt_18 ?_
  refine lv_iload hx hb dX9_holeAt_19 (lv_at hl 4 rfl) ?_
  refine lv_iadd hx hb dX9_holeAt_21 ?_
  obtain ⟨hi_1, hm⟩ := gd_some hm
  refine va_iald (D := (dC, dI)) hx hb hK hP 1 0 rfl rfl hi_1 dX9_holeAt_22 ?_
  exact RET (M_inHole ((((102541 * p0) + (1681 * p1)) + (41 * p2)) + p3).toNatClampNeg) hm _ H locs ls dX9_holeAt_23 hP hD hS
set_option maxHeartbeats 4000000 in
set_option maxRecDepth 100000 in
theorem c_X9_holeAt (l : Launch) (dC : Nat → ClassId) (dI : Nat → Nat → Nat) (cI cJ cB cZ : ClassId) (aM : Nat → Nat) (sz : Nat) (M_nodes : Int32) (M_operators : Int32) (M_textSize : Int32) (M_wordCount : Int32) (M_isParsed : Int32) (M_isTaken : Int32) (M_items : Int32) (M_piled : Int32) (M_outSize : Int32) (M_told : Int32) (M_standing : Int32) (M_inHole : Nat → Int32) (p0 : Int32) (p1 : Int32) (p2 : Int32) (p3 : Int32) (res : Int32) (hm : m_X9_holeAt M_inHole p0 p1 p2 p3 = some res) : Met l yX9_holeAt wsX9_holeAt rm_X9_holeAt (cP (dC, dI) vwCl [(cI, .int), (cJ, .long), (cB, .byte), (cZ, .boolean)] [.ref (aM 0), .int p0, .int p1, .int p2, .int p3] [((aM 0), .inr (9, oX9 aM M_nodes M_operators M_textSize M_wordCount M_isParsed M_isTaken M_items M_piled M_outSize M_told M_standing)), ((aM 16), .inl (cI, 205082, .inl M_inHole))] sz) (cQi res (dC, dI) vwCl [((aM 0), .inr (9, oX9 aM M_nodes M_operators M_textSize M_wordCount M_isParsed M_isTaken M_items M_piled M_outSize M_told M_standing)), ((aM 16), .inl (cI, 205082, .inl M_inHole))] [((aM 0), .inr (9, oX9 aM M_nodes M_operators M_textSize M_wordCount M_isParsed M_isTaken M_items M_piled M_outSize M_told M_standing)), ((aM 16), .inl (cI, 205082, .inl M_inHole))] sz) 0 0 (va_A [((aM 0), .inr (9, oX9 aM M_nodes M_operators M_textSize M_wordCount M_isParsed M_isTaken M_items M_piled M_outSize M_told M_standing)), ((aM 16), .inl (cI, 205082, .inl M_inHole))] sz) := by
  refine cx_of (cc := cX9_holeAt) (maxL := 5) (ret := (some .int)) (own := RX9) (by decide) rfl rfl (Nat.le_of_ble_eq_true rfl) ?_
  intro p e s m below meth c A C0 hinN hK hN hsz hAe hA hP hD hS ls hl
  refine k_X9_holeAt_E C0 hK hN hA aM M_nodes M_operators M_textSize M_wordCount M_isParsed M_isTaken M_items M_piled M_outSize M_told M_standing M_inHole res ?_ p0 p1 p2 p3 hm _ _ hP hD hS ls hl
  intro v he pc H locs ls hdg hP hD hS
  have he := Option.some.inj he
  subst he
  exact cx_reti C0 hsz hAe hdg hP hD hS

set_option maxRecDepth 20000 in
theorem ggX9_through_X9_isHole : GoodIn wsX9_through wsX9_isHole := goodIn_r _ [8, 2, 9, 25, 26, 27, 28, 29, 30, 31, 32, 33, 34, 35, 36, 37, 38, 39, 40, 41, 42, 43, 44, 45, 46, 47, 48, 49, 50, 51, 52, 53, 54, 55, 56, 57, 58, 59, 60, 61, 62, 63, 64, 65, 66, 67, 68, 69, 70, 71, 72, 73, 74, 75, 76, 77] (by decide +kernel) (by decide +kernel)
set_option maxRecDepth 20000 in
theorem gX9_through_X9_isHole : GoodIn wsX9_through (wsV RX9 160 RX9 yX9_isHole wsX9_isHole) := goodIn_app (goodIn_of _ (by decide +kernel)) ggX9_through_X9_isHole
set_option maxRecDepth 20000 in
theorem ggX9_through_X9_typeOf : GoodIn wsX9_through wsX9_typeOf := goodIn_r _ [13, 14, 25, 26, 27, 28, 29, 30, 31, 32, 33, 34, 35, 36, 37, 38, 39, 40, 41, 42, 43, 44, 45, 46, 47, 48, 49, 50, 51, 52, 53, 54, 55, 56, 57, 58, 59, 60, 61, 62, 63, 64, 65, 66, 67, 68, 69, 70, 71, 72, 73, 74, 75, 76, 77] (by decide +kernel) (by decide +kernel)
set_option maxRecDepth 20000 in
theorem gX9_through_X9_typeOf : GoodIn wsX9_through (wsV RX9 197 RX9 yX9_typeOf wsX9_typeOf) := goodIn_app (goodIn_of _ (by decide +kernel)) ggX9_through_X9_typeOf
set_option maxRecDepth 20000 in
theorem ggX9_through_X9_holeAt : GoodIn wsX9_through wsX9_holeAt := goodIn_r _ [18, 19, 20, 25, 26, 27, 28, 29, 30, 31, 32, 33, 34, 35, 36, 37, 38, 39, 40, 41, 42, 43, 44, 45, 46, 47, 48, 49, 50, 51, 52, 53, 54, 55, 56, 57, 58, 59, 60, 61, 62, 63, 64, 65, 66, 67, 68, 69, 70, 71, 72, 73, 74, 75, 76, 77] (by decide +kernel) (by decide +kernel)
set_option maxRecDepth 20000 in
theorem gX9_through_X9_holeAt : GoodIn wsX9_through (wsV RX9 193 RX9 yX9_holeAt wsX9_holeAt) := goodIn_app (goodIn_of _ (by decide +kernel)) ggX9_through_X9_holeAt
set_option maxRecDepth 20000 in
theorem ggX9_through_X9_capped : GoodIn wsX9_through wsX9_capped := goodIn_r _ [23, 24] (by decide +kernel) (by decide +kernel)
set_option maxRecDepth 20000 in
theorem gX9_through_X9_capped : GoodIn wsX9_through (va_wsS RX9 201 yX9_capped wsX9_capped) := goodIn_app (goodIn_of _ (by decide +kernel)) ggX9_through_X9_capped
theorem dX9_through_0 : decode cX9_through 0 = .ok (.sipush 420, 3) := by decide +kernel
theorem dX9_through_3 : decode cX9_through 3 = .ok (.iload_n 2, 1) := by decide +kernel
theorem dX9_through_4 : decode cX9_through 4 = .ok (.imul, 1) := by decide +kernel
theorem dX9_through_5 : decode cX9_through 5 = .ok (.bipush 42, 2) := by decide +kernel
theorem dX9_through_7 : decode cX9_through 7 = .ok (.iload_n 3, 1) := by decide +kernel
theorem dX9_through_8 : decode cX9_through 8 = .ok (.imul, 1) := by decide +kernel
theorem dX9_through_9 : decode cX9_through 9 = .ok (.iadd, 1) := by decide +kernel
theorem dX9_through_10 : decode cX9_through 10 = .ok (.istore 6, 2) := by decide +kernel
theorem dX9_through_12 : decode cX9_through 12 = .ok (.aload_n 0, 1) := by decide +kernel
theorem dX9_through_13 : decode cX9_through 13 = .ok (.iload_n 2, 1) := by decide +kernel
theorem dX9_through_14 : decode cX9_through 14 = .ok (.iload_n 3, 1) := by decide +kernel
theorem dX9_through_15 : decode cX9_through 15 = .ok (.invokevirtual 160, 3) := by decide +kernel
theorem dX9_through_18 : decode cX9_through 18 = .ok (.ifCond .ne 49, 3) := by decide +kernel
theorem dX9_through_21 : decode cX9_through 21 = .ok (.aload_n 0, 1) := by decide +kernel
theorem dX9_through_22 : decode cX9_through 22 = .ok (.getfield 36, 3) := by decide +kernel
theorem dX9_through_25 : decode cX9_through 25 = .ok (.bipush 40, 2) := by decide +kernel
theorem dX9_through_27 : decode cX9_through 27 = .ok (.iload_n 1, 1) := by decide +kernel
theorem dX9_through_28 : decode cX9_through 28 = .ok (.imul, 1) := by decide +kernel
theorem dX9_through_29 : decode cX9_through 29 = .ok (.iload 5, 2) := by decide +kernel
theorem dX9_through_31 : decode cX9_through 31 = .ok (.iadd, 1) := by decide +kernel
theorem dX9_through_32 : decode cX9_through 32 = .ok (.iconst 1, 1) := by decide +kernel
theorem dX9_through_33 : decode cX9_through 33 = .ok (.isub, 1) := by decide +kernel
theorem dX9_through_34 : decode cX9_through 34 = .ok (.laload, 1) := by decide +kernel
theorem dX9_through_35 : decode cX9_through 35 = .ok (.aload_n 0, 1) := by decide +kernel
theorem dX9_through_36 : decode cX9_through 36 = .ok (.getfield 13, 3) := by decide +kernel
theorem dX9_through_39 : decode cX9_through 39 = .ok (.bipush 9, 2) := by decide +kernel
theorem dX9_through_41 : decode cX9_through 41 = .ok (.iload_n 2, 1) := by decide +kernel
theorem dX9_through_42 : decode cX9_through 42 = .ok (.imul, 1) := by decide +kernel
theorem dX9_through_43 : decode cX9_through 43 = .ok (.iload_n 3, 1) := by decide +kernel
theorem dX9_through_44 : decode cX9_through 44 = .ok (.iadd, 1) := by decide +kernel
theorem dX9_through_45 : decode cX9_through 45 = .ok (.laload, 1) := by decide +kernel
theorem dX9_through_46 : decode cX9_through 46 = .ok (.lcmp, 1) := by decide +kernel
theorem dX9_through_47 : decode cX9_through 47 = .ok (.ifCond .ne 18, 3) := by decide +kernel
theorem dX9_through_50 : decode cX9_through 50 = .ok (.aload_n 0, 1) := by decide +kernel
theorem dX9_through_51 : decode cX9_through 51 = .ok (.getfield 50, 3) := by decide +kernel
theorem dX9_through_54 : decode cX9_through 54 = .ok (.iload 6, 2) := by decide +kernel
theorem dX9_through_56 : decode cX9_through 56 = .ok (.iload 5, 2) := by decide +kernel
theorem dX9_through_58 : decode cX9_through 58 = .ok (.iadd, 1) := by decide +kernel
theorem dX9_through_59 : decode cX9_through 59 = .ok (.iconst 1, 1) := by decide +kernel
theorem dX9_through_60 : decode cX9_through 60 = .ok (.isub, 1) := by decide +kernel
theorem dX9_through_61 : decode cX9_through 61 = .ok (.laload, 1) := by decide +kernel
theorem dX9_through_62 : decode cX9_through 62 = .ok (.goto 4, 3) := by decide +kernel
theorem dX9_through_65 : decode cX9_through 65 = .ok (.lconst 0, 1) := by decide +kernel
theorem dX9_through_66 : decode cX9_through 66 = .ok (.lreturn, 1) := by decide +kernel
theorem dX9_through_67 : decode cX9_through 67 = .ok (.lconst 0, 1) := by decide +kernel
theorem dX9_through_68 : decode cX9_through 68 = .ok (.lstore 7, 2) := by decide +kernel
theorem dX9_through_70 : decode cX9_through 70 = .ok (.iload 4, 2) := by decide +kernel
theorem dX9_through_72 : decode cX9_through 72 = .ok (.iconst 1, 1) := by decide +kernel
theorem dX9_through_73 : decode cX9_through 73 = .ok (.iadd, 1) := by decide +kernel
theorem dX9_through_74 : decode cX9_through 74 = .ok (.istore 9, 2) := by decide +kernel
theorem dX9_through_76 : decode cX9_through 76 = .ok (.iload 9, 2) := by decide +kernel
theorem dX9_through_78 : decode cX9_through 78 = .ok (.iload 5, 2) := by decide +kernel
theorem dX9_through_80 : decode cX9_through 80 = .ok (.if_icmp .ge 61, 3) := by decide +kernel
theorem dX9_through_83 : decode cX9_through 83 = .ok (.aload_n 0, 1) := by decide +kernel
theorem dX9_through_84 : decode cX9_through 84 = .ok (.getfield 50, 3) := by decide +kernel
theorem dX9_through_87 : decode cX9_through 87 = .ok (.iload 6, 2) := by decide +kernel
theorem dX9_through_89 : decode cX9_through 89 = .ok (.iload 9, 2) := by decide +kernel
theorem dX9_through_91 : decode cX9_through 91 = .ok (.iadd, 1) := by decide +kernel
theorem dX9_through_92 : decode cX9_through 92 = .ok (.laload, 1) := by decide +kernel
theorem dX9_through_93 : decode cX9_through 93 = .ok (.lstore 10, 2) := by decide +kernel
theorem dX9_through_95 : decode cX9_through 95 = .ok (.lload 10, 2) := by decide +kernel
theorem dX9_through_97 : decode cX9_through 97 = .ok (.lconst 0, 1) := by decide +kernel
theorem dX9_through_98 : decode cX9_through 98 = .ok (.lcmp, 1) := by decide +kernel
theorem dX9_through_99 : decode cX9_through 99 = .ok (.ifCond .le 36, 3) := by decide +kernel
theorem dX9_through_102 : decode cX9_through 102 = .ok (.lload 7, 2) := by decide +kernel
theorem dX9_through_104 : decode cX9_through 104 = .ok (.lload 10, 2) := by decide +kernel
theorem dX9_through_106 : decode cX9_through 106 = .ok (.aload_n 0, 1) := by decide +kernel
theorem dX9_through_107 : decode cX9_through 107 = .ok (.iload_n 1, 1) := by decide +kernel
theorem dX9_through_108 : decode cX9_through 108 = .ok (.aload_n 0, 1) := by decide +kernel
theorem dX9_through_109 : decode cX9_through 109 = .ok (.iload_n 2, 1) := by decide +kernel
theorem dX9_through_110 : decode cX9_through 110 = .ok (.iload_n 3, 1) := by decide +kernel
theorem dX9_through_111 : decode cX9_through 111 = .ok (.invokevirtual 197, 3) := by decide +kernel
theorem dX9_through_114 : decode cX9_through 114 = .ok (.iload 9, 2) := by decide +kernel
theorem dX9_through_116 : decode cX9_through 116 = .ok (.iload 5, 2) := by decide +kernel
theorem dX9_through_118 : decode cX9_through 118 = .ok (.iload 9, 2) := by decide +kernel
theorem dX9_through_120 : decode cX9_through 120 = .ok (.isub, 1) := by decide +kernel
theorem dX9_through_121 : decode cX9_through 121 = .ok (.invokevirtual 193, 3) := by decide +kernel
theorem dX9_through_124 : decode cX9_through 124 = .ok (.i2l, 1) := by decide +kernel
theorem dX9_through_125 : decode cX9_through 125 = .ok (.lmul, 1) := by decide +kernel
theorem dX9_through_126 : decode cX9_through 126 = .ok (.invokestatic 201, 3) := by decide +kernel
theorem dX9_through_129 : decode cX9_through 129 = .ok (.ladd, 1) := by decide +kernel
theorem dX9_through_130 : decode cX9_through 130 = .ok (.invokestatic 201, 3) := by decide +kernel
theorem dX9_through_133 : decode cX9_through 133 = .ok (.lstore 7, 2) := by decide +kernel
theorem dX9_through_135 : decode cX9_through 135 = .ok (.iinc 9 1, 3) := by decide +kernel
theorem dX9_through_138 : decode cX9_through 138 = .ok (.goto (-62), 3) := by decide +kernel
theorem dX9_through_141 : decode cX9_through 141 = .ok (.lload 7, 2) := by decide +kernel
theorem dX9_through_143 : decode cX9_through 143 = .ok (.lreturn, 1) := by decide +kernel
/-! MixfixDeskModel.through(IIIII)J -/
abbrev rm_X9_through : Room := { frames := 1, cells := 0, slots := 0, locals := 24 }
theorem X9_through_inX9 : ∀ w ∈ wsX90, w ∈ wsX9_through := by exact fun w h => List.mem_cons_of_mem _ (List.mem_append_right _ h)
abbrev RT_X9_through (p : Program) (l : Launch) (e : Env) (s : State) (m : MethodId) (args : Array Value) (below : List Frame) (meth : Method) (c : Code) (Q : State → Prop) (dC : Nat → ClassId) (dI : Nat → Nat → Nat) (cI cJ cB cZ : ClassId) (A : Nat → Prop) (aM : Nat → Nat) (M_nodes : Int32) (M_operators : Int32) (M_textSize : Int32) (M_wordCount : Int32) (M_isParsed : Int32) (M_isTaken : Int32) (M_items : Int32) (M_piled : Int32) (M_outSize : Int32) (M_told : Int32) (M_standing : Int32) (M_elements : Nat → Int64) (M_elementCount : Nat → Int32) (M_chartWord : Nat → Int64) (M_inHole : Nat → Int32) (M_ways : Nat → Int64) (res : Int64) : Prop := ∀ (v : Int64) , some v = some res → ∀ (pc : Nat) (H : Heap) (locs : List Loc) (ls : Array Slot), decode cX9_through pc = .ok (.lreturn, 1) → va_P (dC, dI) vwCl [((aM 0), .inr (9, oX9 aM M_nodes M_operators M_textSize M_wordCount M_isParsed M_isTaken M_items M_piled M_outSize M_told M_standing)), ((aM 4), .inl (cJ, 270, .inr (.inl M_elements))), ((aM 5), .inl (cI, 30, .inl M_elementCount)), ((aM 13), .inl (cJ, 80, .inr (.inl M_chartWord))), ((aM 16), .inl (cI, 205082, .inl M_inHole)), ((aM 18), .inl (cJ, 12600, .inr (.inl M_ways)))] H → va_D A [((aM 0), .inr (9, oX9 aM M_nodes M_operators M_textSize M_wordCount M_isParsed M_isTaken M_items M_piled M_outSize M_told M_standing)), ((aM 4), .inl (cJ, 270, .inr (.inl M_elements))), ((aM 5), .inl (cI, 30, .inl M_elementCount)), ((aM 13), .inl (cJ, 80, .inr (.inl M_chartWord))), ((aM 16), .inl (cI, 205082, .inl M_inHole)), ((aM 18), .inl (cJ, 12600, .inr (.inl M_ways)))] → va_S A s.heap H locs → W p l e rm_X9_through s m args below meth c H locs 0 0 Q (F0 m pc ls [.long v])
set_option maxHeartbeats 4000000 in
set_option maxRecDepth 100000 in
theorem k_X9_through_135 {p : Program} {l : Launch} {e : Env} {s : State} {m : MethodId} {args : Array Value} {below : List Frame} {meth : Method} {c : Code} {Q : State → Prop} {dC : Nat → ClassId} {dI : Nat → Nat → Nat} {cI cJ cB cZ : ClassId} {A : Nat → Prop} (C0 : Cx p s m meth c args cX9_through 12 (some .long) wsX9_through RX9) (hK : va_K (dC, dI) vwCl [(cI, .int), (cJ, .long), (cB, .byte), (cZ, .boolean)] s) (hN : NW s) (hA : ∀ q, s.heap.size ≤ q → A q) (aM : Nat → Nat) (M_nodes : Int32) (M_operators : Int32) (M_textSize : Int32) (M_wordCount : Int32) (M_isParsed : Int32) (M_isTaken : Int32) (M_items : Int32) (M_piled : Int32) (M_outSize : Int32) (M_told : Int32) (M_standing : Int32) (M_elements : Nat → Int64) (M_elementCount : Nat → Int32) (M_chartWord : Nat → Int64) (M_inHole : Nat → Int32) (M_ways : Nat → Int64) (res : Int64) (RET : RT_X9_through p l e s m args below meth c Q dC dI cI cJ cB cZ A aM M_nodes M_operators M_textSize M_wordCount M_isParsed M_isTaken M_items M_piled M_outSize M_told M_standing M_elements M_elementCount M_chartWord M_inHole M_ways res) (k76 : Int32 → Int32 → Int32 → Int32 → Int32 → Int64 → Int32 → Option (Int64)) (hk76 : ∀ (x1 : Int32) (x2 : Int32) (x3 : Int32) (x5 : Int32) (x6 : Int32) (x7 : Int64) (x9 : Int32), k76 x1 x2 x3 x5 x6 x7 x9 = some res → ∀ (H : Heap) (locs : List Loc), va_P (dC, dI) vwCl [((aM 0), .inr (9, oX9 aM M_nodes M_operators M_textSize M_wordCount M_isParsed M_isTaken M_items M_piled M_outSize M_told M_standing)), ((aM 4), .inl (cJ, 270, .inr (.inl M_elements))), ((aM 5), .inl (cI, 30, .inl M_elementCount)), ((aM 13), .inl (cJ, 80, .inr (.inl M_chartWord))), ((aM 16), .inl (cI, 205082, .inl M_inHole)), ((aM 18), .inl (cJ, 12600, .inr (.inl M_ways)))] H → va_D A [((aM 0), .inr (9, oX9 aM M_nodes M_operators M_textSize M_wordCount M_isParsed M_isTaken M_items M_piled M_outSize M_told M_standing)), ((aM 4), .inl (cJ, 270, .inr (.inl M_elements))), ((aM 5), .inl (cI, 30, .inl M_elementCount)), ((aM 13), .inl (cJ, 80, .inr (.inl M_chartWord))), ((aM 16), .inl (cI, 205082, .inl M_inHole)), ((aM 18), .inl (cJ, 12600, .inr (.inl M_ways)))] → va_S A s.heap H locs → ∀ (ls : Array Slot), lv_has ls 12 [(0, .ref (aM 0)), (1, .int x1), (2, .int x2), (3, .int x3), (5, .int x5), (6, .int x6), (7, .long x7), (9, .int x9)] → W p l e rm_X9_through s m args below meth c H locs 0 0 Q (F0 m 76 ls [])) : ∀ (x1 : Int32) (x2 : Int32) (x3 : Int32) (x5 : Int32) (x6 : Int32) (x7 : Int64) (x9 : Int32), m_X9_through_135 M_elements M_elementCount M_chartWord M_inHole M_ways k76 x1 x2 x3 x5 x6 x7 x9 = some res → ∀ (H : Heap) (locs : List Loc), va_P (dC, dI) vwCl [((aM 0), .inr (9, oX9 aM M_nodes M_operators M_textSize M_wordCount M_isParsed M_isTaken M_items M_piled M_outSize M_told M_standing)), ((aM 4), .inl (cJ, 270, .inr (.inl M_elements))), ((aM 5), .inl (cI, 30, .inl M_elementCount)), ((aM 13), .inl (cJ, 80, .inr (.inl M_chartWord))), ((aM 16), .inl (cI, 205082, .inl M_inHole)), ((aM 18), .inl (cJ, 12600, .inr (.inl M_ways)))] H → va_D A [((aM 0), .inr (9, oX9 aM M_nodes M_operators M_textSize M_wordCount M_isParsed M_isTaken M_items M_piled M_outSize M_told M_standing)), ((aM 4), .inl (cJ, 270, .inr (.inl M_elements))), ((aM 5), .inl (cI, 30, .inl M_elementCount)), ((aM 13), .inl (cJ, 80, .inr (.inl M_chartWord))), ((aM 16), .inl (cI, 205082, .inl M_inHole)), ((aM 18), .inl (cJ, 12600, .inr (.inl M_ways)))] → va_S A s.heap H locs → ∀ (ls : Array Slot), lv_has ls 12 [(0, .ref (aM 0)), (1, .int x1), (2, .int x2), (3, .int x3), (5, .int x5), (6, .int x6), (7, .long x7), (9, .int x9)] → W p l e rm_X9_through s m args below meth c H locs 0 0 Q (F0 m 135 ls []) := by
  obtain ⟨⟨hx, hb, hml, hown, hts⟩, hr, hlocks⟩ := id C0
  intro x1 x2 x3 x5 x6 x7 x9 hm H locs hP hD hS ls hl
  have hm : (k76 x1 x2 x3 x5 x6 x7 (x9 + 1)) = some res := hm
  refine lv_iinc (v := x9 + 1) (lv' := [(9, .int (x9 + 1)), (0, .ref (aM 0)), (1, .int x1), (2, .int x2), (3, .int x3), (5, .int x5), (6, .int x6), (7, .long x7)]) hx hb dX9_through_135 hl (k := 7) rfl rfl (by decide) rfl (fun ls hl => ?_)
  refine lv_goto (tgt := 76) hx hb dX9_through_138 (by decide) ?_
  exact hk76 x1 x2 x3 x5 x6 x7 (x9 + 1) hm H locs hP hD hS ls (lv_sub hl [1, 2, 3, 4, 5, 6, 7, 0] rfl)
set_option maxHeartbeats 4000000 in
set_option maxRecDepth 100000 in
theorem k_X9_through_76 {p : Program} {l : Launch} {e : Env} {s : State} {m : MethodId} {args : Array Value} {below : List Frame} {meth : Method} {c : Code} {Q : State → Prop} {dC : Nat → ClassId} {dI : Nat → Nat → Nat} {cI cJ cB cZ : ClassId} {A : Nat → Prop} (C0 : Cx p s m meth c args cX9_through 12 (some .long) wsX9_through RX9) (hK : va_K (dC, dI) vwCl [(cI, .int), (cJ, .long), (cB, .byte), (cZ, .boolean)] s) (hN : NW s) (hA : ∀ q, s.heap.size ≤ q → A q) (aM : Nat → Nat) (M_nodes : Int32) (M_operators : Int32) (M_textSize : Int32) (M_wordCount : Int32) (M_isParsed : Int32) (M_isTaken : Int32) (M_items : Int32) (M_piled : Int32) (M_outSize : Int32) (M_told : Int32) (M_standing : Int32) (M_elements : Nat → Int64) (M_elementCount : Nat → Int32) (M_chartWord : Nat → Int64) (M_inHole : Nat → Int32) (M_ways : Nat → Int64) (res : Int64) (RET : RT_X9_through p l e s m args below meth c Q dC dI cI cJ cB cZ A aM M_nodes M_operators M_textSize M_wordCount M_isParsed M_isTaken M_items M_piled M_outSize M_told M_standing M_elements M_elementCount M_chartWord M_inHole M_ways res)   : ∀ (n : Nat) (x1 : Int32) (x2 : Int32) (x3 : Int32) (x5 : Int32) (x6 : Int32) (x7 : Int64) (x9 : Int32), m_X9_through_76 M_elements M_elementCount M_chartWord M_inHole M_ways n x1 x2 x3 x5 x6 x7 x9 = some res → ∀ (H : Heap) (locs : List Loc), va_P (dC, dI) vwCl [((aM 0), .inr (9, oX9 aM M_nodes M_operators M_textSize M_wordCount M_isParsed M_isTaken M_items M_piled M_outSize M_told M_standing)), ((aM 4), .inl (cJ, 270, .inr (.inl M_elements))), ((aM 5), .inl (cI, 30, .inl M_elementCount)), ((aM 13), .inl (cJ, 80, .inr (.inl M_chartWord))), ((aM 16), .inl (cI, 205082, .inl M_inHole)), ((aM 18), .inl (cJ, 12600, .inr (.inl M_ways)))] H → va_D A [((aM 0), .inr (9, oX9 aM M_nodes M_operators M_textSize M_wordCount M_isParsed M_isTaken M_items M_piled M_outSize M_told M_standing)), ((aM 4), .inl (cJ, 270, .inr (.inl M_elements))), ((aM 5), .inl (cI, 30, .inl M_elementCount)), ((aM 13), .inl (cJ, 80, .inr (.inl M_chartWord))), ((aM 16), .inl (cI, 205082, .inl M_inHole)), ((aM 18), .inl (cJ, 12600, .inr (.inl M_ways)))] → va_S A s.heap H locs → ∀ (ls : Array Slot), lv_has ls 12 [(0, .ref (aM 0)), (1, .int x1), (2, .int x2), (3, .int x3), (5, .int x5), (6, .int x6), (7, .long x7), (9, .int x9)] → W p l e rm_X9_through s m args below meth c H locs 0 0 Q (F0 m 76 ls []) := by
  obtain ⟨⟨hx, hb, hml, hown, hts⟩, hr, hlocks⟩ := id C0
  intro n
  induction n with
  | zero =>
    intro x1 x2 x3 x5 x6 x7 x9 hm
    exact absurd hm (by intro h; cases h)
  | succ n ih =>
    intro x1 x2 x3 x5 x6 x7 x9 hm H locs hP hD hS ls hl
    have hm : (if x5 ≤ x9 then (some x7) else (gd (x6 + x9) 12600 (if (lg_cmp (M_ways (x6 + x9).toNatClampNeg) 0) ≤ 0 then (m_X9_through_135 M_elements M_elementCount M_chartWord M_inHole M_ways (m_X9_through_76 M_elements M_elementCount M_chartWord M_inHole M_ways n) x1 x2 x3 x5 x6 x7 x9) else (Option.bind (m_X9_typeOf M_elementCount x2 x3) (fun r_4 => Option.bind (m_X9_holeAt M_inHole x1 r_4 x9 (x5 - x9)) (fun r_6 => Option.bind (m_X9_capped ((M_ways (x6 + x9).toNatClampNeg) * r_6.toInt64)) (fun r_8 => Option.bind (m_X9_capped (x7 + r_8)) (fun r_10 => m_X9_through_135 M_elements M_elementCount M_chartWord M_inHole M_ways (m_X9_through_76 M_elements M_elementCount M_chartWord M_inHole M_ways n) x1 x2 x3 x5 x6 r_10 x9)))))))) = some res := hm
    refine lv_iload hx hb dX9_through_76 (lv_at hl 7 rfl) ?_
    refine lv_iload hx hb dX9_through_78 (lv_at hl 4 rfl) ?_
    refine lv_icmp_ge (tgt := 141) hx hb dX9_through_80 (by decide) (fun c_1 => ?_) (fun c_1 => ?_)
    · have hm := it_some c_1 hm
      refine lv_lload hx hb dX9_through_141 (lv_at hl 6 rfl) ?_
      exact RET x7 hm _ H locs ls dX9_through_143 hP hD hS
    · have hm := if_some' c_1 hm
      refine lv_aload_n hx hb dX9_through_83 rfl (lv_at hl 0 rfl) ?_
      refine va_get (D := (dC, dI)) (ci := 9) (v := .ref (aM 18)) (C := RX9) (T := TX9) (N := 53) hx hb hts X9_through_inX9 hown hK hP 0 rfl rfl 17 (by decide) (hts (.fieldLink RX9 50 "MixfixDeskModel" "ways" "[J") (List.mem_of_getElem? (i := 3) rfl)) (fun _ h9 => h9) rfl dX9_through_84 ?_
      refine lv_iload hx hb dX9_through_87 (lv_at hl 5 rfl) ?_
      refine lv_iload hx hb dX9_through_89 (lv_at hl 7 rfl) ?_
      refine lv_iadd hx hb dX9_through_91 ?_
      obtain ⟨hi_2, hm⟩ := gd_some hm
      refine va_lald (D := (dC, dI)) hx hb hK hP 5 1 rfl rfl hi_2 dX9_through_92 ?_
      refine lv_lstore (lv' := [(10, .long (M_ways (x6 + x9).toNatClampNeg)), (0, .ref (aM 0)), (1, .int x1), (2, .int x2), (3, .int x3), (5, .int x5), (6, .int x6), (7, .long x7), (9, .int x9)]) hx hb dX9_through_93 hl (by decide) rfl (fun ls hl => ?_)
      refine lv_lload hx hb dX9_through_95 (lv_at hl 0 rfl) ?_
      refine lv_lconst (v := 0) hx hb dX9_through_97 rfl ?_
      refine W.lcmp hx hb dX9_through_98 ?_
      refine lv_if_le (tgt := 135) hx hb dX9_through_99 (by decide) (fun c_3 => ?_) (fun c_3 => ?_)
      · have hm := it_some c_3 hm
        exact k_X9_through_135 C0 hK hN hA aM M_nodes M_operators M_textSize M_wordCount M_isParsed M_isTaken M_items M_piled M_outSize M_told M_standing M_elements M_elementCount M_chartWord M_inHole M_ways res RET (m_X9_through_76 M_elements M_elementCount M_chartWord M_inHole M_ways n) ih x1 x2 x3 x5 x6 x7 x9 hm H locs hP hD hS ls (lv_sub hl [1, 2, 3, 4, 5, 6, 7, 8] rfl)
      · have hm := if_some' c_3 hm
        refine lv_lload hx hb dX9_through_102 (lv_at hl 7 rfl) ?_
        refine lv_lload hx hb dX9_through_104 (lv_at hl 0 rfl) ?_
        refine lv_aload_n hx hb dX9_through_106 rfl (lv_at hl 1 rfl) ?_
        refine lv_iload_n hx hb dX9_through_107 rfl (lv_at hl 2 rfl) ?_
        refine lv_aload_n hx hb dX9_through_108 rfl (lv_at hl 1 rfl) ?_
        refine lv_iload_n hx hb dX9_through_109 rfl (lv_at hl 3 rfl) ?_
        refine lv_iload_n hx hb dX9_through_110 rfl (lv_at hl 4 rfl) ?_
        obtain ⟨r_4, hc_5, hm⟩ := ob_some hm
        refine cx_i (wr := [((aM 4), .inl (cJ, 270, .inr (.inl M_elements))), ((aM 13), .inl (cJ, 80, .inr (.inl M_chartWord))), ((aM 16), .inl (cI, 205082, .inl M_inHole)), ((aM 18), .inl (cJ, 12600, .inr (.inl M_ways)))]) (va_runV (As := [.int x2, .int x3]) (rest := [.int x1, .ref (aM 0), .long (M_ways (x6 + x9).toNatClampNeg), .long x7]) C0.1 (c_X9_typeOf l dC dI cI cJ cB cZ aM H.size M_nodes M_operators M_textSize M_wordCount M_isParsed M_isTaken M_items M_piled M_outSize M_told M_standing M_elementCount x2 x3 r_4 hc_5) (cwV 2 hts gX9_through_X9_typeOf rfl rfl rfl (by decide +kernel) ⟨Nat.le_of_ble_eq_true rfl, Nat.le_of_ble_eq_true rfl⟩) (cP_V (ci := 9) (q0 := 0) hK hN hP hD rfl rfl [0, 2] (by decide) rfl) rfl rfl hl.1 rfl (lv_room (Nat.le_of_ble_eq_true rfl)) dX9_through_111 ⟨Nat.le_of_ble_eq_true rfl, Nat.le_of_ble_eq_true rfl⟩) hP hD hS hA [0, 2] [1, 3, 4, 5] rfl rfl (by decide) (by decide) (fun H locs hP hD hS => ?_)
        have hP : va_P (dC, dI) vwCl [((aM 4), .inl (cJ, 270, .inr (.inl M_elements))), ((aM 13), .inl (cJ, 80, .inr (.inl M_chartWord))), ((aM 16), .inl (cI, 205082, .inl M_inHole)), ((aM 18), .inl (cJ, 12600, .inr (.inl M_ways))), ((aM 0), .inr (9, oX9 aM M_nodes M_operators M_textSize M_wordCount M_isParsed M_isTaken M_items M_piled M_outSize M_told M_standing)), ((aM 5), .inl (cI, 30, .inl M_elementCount))] H := hP
        have hD : va_D A [((aM 4), .inl (cJ, 270, .inr (.inl M_elements))), ((aM 13), .inl (cJ, 80, .inr (.inl M_chartWord))), ((aM 16), .inl (cI, 205082, .inl M_inHole)), ((aM 18), .inl (cJ, 12600, .inr (.inl M_ways))), ((aM 0), .inr (9, oX9 aM M_nodes M_operators M_textSize M_wordCount M_isParsed M_isTaken M_items M_piled M_outSize M_told M_standing)), ((aM 5), .inl (cI, 30, .inl M_elementCount))] := hD
        refine lv_iload hx hb dX9_through_114 (lv_at hl 8 rfl) ?_
        refine lv_iload hx hb dX9_through_116 (lv_at hl 5 rfl) ?_
        refine lv_iload hx hb dX9_through_118 (lv_at hl 8 rfl) ?_
        refine lv_isub hx hb dX9_through_120 ?_
        obtain ⟨r_6, hc_7, hm⟩ := ob_some hm
        refine cx_i (wr := [((aM 4), .inl (cJ, 270, .inr (.inl M_elements))), ((aM 13), .inl (cJ, 80, .inr (.inl M_chartWord))), ((aM 18), .inl (cJ, 12600, .inr (.inl M_ways))), ((aM 5), .inl (cI, 30, .inl M_elementCount))]) (va_runV (As := [.int x1, .int r_4, .int x9, .int (x5 - x9)]) (rest := [.long (M_ways (x6 + x9).toNatClampNeg), .long x7]) C0.1 (c_X9_holeAt l dC dI cI cJ cB cZ aM H.size M_nodes M_operators M_textSize M_wordCount M_isParsed M_isTaken M_items M_piled M_outSize M_told M_standing M_inHole x1 r_4 x9 (x5 - x9) r_6 hc_7) (cwV 4 hts gX9_through_X9_holeAt rfl rfl rfl (by decide +kernel) ⟨Nat.le_of_ble_eq_true rfl, Nat.le_of_ble_eq_true rfl⟩) (cP_V (ci := 9) (q0 := 4) hK hN hP hD rfl rfl [4, 2] (by decide) rfl) rfl rfl hl.1 rfl (lv_room (Nat.le_of_ble_eq_true rfl)) dX9_through_121 ⟨Nat.le_of_ble_eq_true rfl, Nat.le_of_ble_eq_true rfl⟩) hP hD hS hA [4, 2] [0, 1, 3, 5] rfl rfl (by decide) (by decide) (fun H locs hP hD hS => ?_)
        have hP : va_P (dC, dI) vwCl [((aM 4), .inl (cJ, 270, .inr (.inl M_elements))), ((aM 13), .inl (cJ, 80, .inr (.inl M_chartWord))), ((aM 18), .inl (cJ, 12600, .inr (.inl M_ways))), ((aM 5), .inl (cI, 30, .inl M_elementCount)), ((aM 0), .inr (9, oX9 aM M_nodes M_operators M_textSize M_wordCount M_isParsed M_isTaken M_items M_piled M_outSize M_told M_standing)), ((aM 16), .inl (cI, 205082, .inl M_inHole))] H := hP
        have hD : va_D A [((aM 4), .inl (cJ, 270, .inr (.inl M_elements))), ((aM 13), .inl (cJ, 80, .inr (.inl M_chartWord))), ((aM 18), .inl (cJ, 12600, .inr (.inl M_ways))), ((aM 5), .inl (cI, 30, .inl M_elementCount)), ((aM 0), .inr (9, oX9 aM M_nodes M_operators M_textSize M_wordCount M_isParsed M_isTaken M_items M_piled M_outSize M_told M_standing)), ((aM 16), .inl (cI, 205082, .inl M_inHole))] := hD
        refine lv_i2l (v := r_6.toInt64) hx hb dX9_through_124 rfl ?_
        refine lv_lmul hx hb dX9_through_125 ?_
        obtain ⟨r_8, hc_9, hm⟩ := ob_some hm
        refine cx_l (wr := [((aM 4), .inl (cJ, 270, .inr (.inl M_elements))), ((aM 13), .inl (cJ, 80, .inr (.inl M_chartWord))), ((aM 18), .inl (cJ, 12600, .inr (.inl M_ways))), ((aM 5), .inl (cI, 30, .inl M_elementCount)), ((aM 0), .inr (9, oX9 aM M_nodes M_operators M_textSize M_wordCount M_isParsed M_isTaken M_items M_piled M_outSize M_told M_standing)), ((aM 16), .inl (cI, 205082, .inl M_inHole))]) (va_runS (As := [.long ((M_ways (x6 + x9).toNatClampNeg) * r_6.toInt64)]) (rest := [.long x7]) C0.1 (c_X9_capped l dC dI cI cJ cB cZ H.size ((M_ways (x6 + x9).toNatClampNeg) * r_6.toInt64) r_8 hc_9) (va_cwS 1 hts gX9_through_X9_capped rfl rfl rfl (by decide +kernel) ⟨Nat.le_of_ble_eq_true rfl, Nat.le_of_ble_eq_true rfl⟩) (cP_S hK hN hP hD [] (by decide) rfl) rfl rfl hl.1 rfl (lv_room (Nat.le_of_ble_eq_true rfl)) dX9_through_126 ⟨Nat.le_of_ble_eq_true rfl, Nat.le_of_ble_eq_true rfl⟩) hP hD hS hA [] [0, 1, 2, 3, 4, 5] rfl rfl (by decide) (by decide) (fun H locs hP hD hS => ?_)
        have hP : va_P (dC, dI) vwCl [((aM 4), .inl (cJ, 270, .inr (.inl M_elements))), ((aM 13), .inl (cJ, 80, .inr (.inl M_chartWord))), ((aM 18), .inl (cJ, 12600, .inr (.inl M_ways))), ((aM 5), .inl (cI, 30, .inl M_elementCount)), ((aM 0), .inr (9, oX9 aM M_nodes M_operators M_textSize M_wordCount M_isParsed M_isTaken M_items M_piled M_outSize M_told M_standing)), ((aM 16), .inl (cI, 205082, .inl M_inHole))] H := hP
        have hD : va_D A [((aM 4), .inl (cJ, 270, .inr (.inl M_elements))), ((aM 13), .inl (cJ, 80, .inr (.inl M_chartWord))), ((aM 18), .inl (cJ, 12600, .inr (.inl M_ways))), ((aM 5), .inl (cI, 30, .inl M_elementCount)), ((aM 0), .inr (9, oX9 aM M_nodes M_operators M_textSize M_wordCount M_isParsed M_isTaken M_items M_piled M_outSize M_told M_standing)), ((aM 16), .inl (cI, 205082, .inl M_inHole))] := hD
        refine lv_ladd hx hb dX9_through_129 ?_
        obtain ⟨r_10, hc_11, hm⟩ := ob_some hm
        refine cx_l (wr := [((aM 4), .inl (cJ, 270, .inr (.inl M_elements))), ((aM 13), .inl (cJ, 80, .inr (.inl M_chartWord))), ((aM 18), .inl (cJ, 12600, .inr (.inl M_ways))), ((aM 5), .inl (cI, 30, .inl M_elementCount)), ((aM 0), .inr (9, oX9 aM M_nodes M_operators M_textSize M_wordCount M_isParsed M_isTaken M_items M_piled M_outSize M_told M_standing)), ((aM 16), .inl (cI, 205082, .inl M_inHole))]) (va_runS (As := [.long (x7 + r_8)]) (rest := []) C0.1 (c_X9_capped l dC dI cI cJ cB cZ H.size (x7 + r_8) r_10 hc_11) (va_cwS 1 hts gX9_through_X9_capped rfl rfl rfl (by decide +kernel) ⟨Nat.le_of_ble_eq_true rfl, Nat.le_of_ble_eq_true rfl⟩) (cP_S hK hN hP hD [] (by decide) rfl) rfl rfl hl.1 rfl (lv_room (Nat.le_of_ble_eq_true rfl)) dX9_through_130 ⟨Nat.le_of_ble_eq_true rfl, Nat.le_of_ble_eq_true rfl⟩) hP hD hS hA [] [0, 1, 2, 3, 4, 5] rfl rfl (by decide) (by decide) (fun H locs hP hD hS => ?_)
        have hP : va_P (dC, dI) vwCl [((aM 4), .inl (cJ, 270, .inr (.inl M_elements))), ((aM 13), .inl (cJ, 80, .inr (.inl M_chartWord))), ((aM 18), .inl (cJ, 12600, .inr (.inl M_ways))), ((aM 5), .inl (cI, 30, .inl M_elementCount)), ((aM 0), .inr (9, oX9 aM M_nodes M_operators M_textSize M_wordCount M_isParsed M_isTaken M_items M_piled M_outSize M_told M_standing)), ((aM 16), .inl (cI, 205082, .inl M_inHole))] H := hP
        have hD : va_D A [((aM 4), .inl (cJ, 270, .inr (.inl M_elements))), ((aM 13), .inl (cJ, 80, .inr (.inl M_chartWord))), ((aM 18), .inl (cJ, 12600, .inr (.inl M_ways))), ((aM 5), .inl (cI, 30, .inl M_elementCount)), ((aM 0), .inr (9, oX9 aM M_nodes M_operators M_textSize M_wordCount M_isParsed M_isTaken M_items M_piled M_outSize M_told M_standing)), ((aM 16), .inl (cI, 205082, .inl M_inHole))] := hD
        refine lv_lstore (lv' := [(7, .long r_10), (10, .long (M_ways (x6 + x9).toNatClampNeg)), (0, .ref (aM 0)), (1, .int x1), (2, .int x2), (3, .int x3), (5, .int x5), (6, .int x6), (9, .int x9)]) hx hb dX9_through_133 hl (by decide) rfl (fun ls hl => ?_)
        exact k_X9_through_135 C0 hK hN hA aM M_nodes M_operators M_textSize M_wordCount M_isParsed M_isTaken M_items M_piled M_outSize M_told M_standing M_elements M_elementCount M_chartWord M_inHole M_ways res RET (m_X9_through_76 M_elements M_elementCount M_chartWord M_inHole M_ways n) ih x1 x2 x3 x5 x6 r_10 x9 hm H locs (P_sub' hP [4, 0, 3, 1, 5, 2] rfl) (hD.sub [4, 0, 3, 1, 5, 2] (by decide) rfl) hS ls (lv_sub hl [2, 3, 4, 5, 6, 7, 0, 8] rfl)
set_option maxHeartbeats 4000000 in
set_option maxRecDepth 100000 in
theorem k_X9_through_E {p : Program} {l : Launch} {e : Env} {s : State} {m : MethodId} {args : Array Value} {below : List Frame} {meth : Method} {c : Code} {Q : State → Prop} {dC : Nat → ClassId} {dI : Nat → Nat → Nat} {cI cJ cB cZ : ClassId} {A : Nat → Prop} (C0 : Cx p s m meth c args cX9_through 12 (some .long) wsX9_through RX9) (hK : va_K (dC, dI) vwCl [(cI, .int), (cJ, .long), (cB, .byte), (cZ, .boolean)] s) (hN : NW s) (hA : ∀ q, s.heap.size ≤ q → A q) (aM : Nat → Nat) (M_nodes : Int32) (M_operators : Int32) (M_textSize : Int32) (M_wordCount : Int32) (M_isParsed : Int32) (M_isTaken : Int32) (M_items : Int32) (M_piled : Int32) (M_outSize : Int32) (M_told : Int32) (M_standing : Int32) (M_elements : Nat → Int64) (M_elementCount : Nat → Int32) (M_chartWord : Nat → Int64) (M_inHole : Nat → Int32) (M_ways : Nat → Int64) (res : Int64) (RET : RT_X9_through p l e s m args below meth c Q dC dI cI cJ cB cZ A aM M_nodes M_operators M_textSize M_wordCount M_isParsed M_isTaken M_items M_piled M_outSize M_told M_standing M_elements M_elementCount M_chartWord M_inHole M_ways res) : ∀ (p0 : Int32) (p1 : Int32) (p2 : Int32) (p3 : Int32) (p4 : Int32), m_X9_through M_elements M_elementCount M_chartWord M_inHole M_ways p0 p1 p2 p3 p4 = some res → ∀ (H : Heap) (locs : List Loc), va_P (dC, dI) vwCl [((aM 0), .inr (9, oX9 aM M_nodes M_operators M_textSize M_wordCount M_isParsed M_isTaken M_items M_piled M_outSize M_told M_standing)), ((aM 4), .inl (cJ, 270, .inr (.inl M_elements))), ((aM 5), .inl (cI, 30, .inl M_elementCount)), ((aM 13), .inl (cJ, 80, .inr (.inl M_chartWord))), ((aM 16), .inl (cI, 205082, .inl M_inHole)), ((aM 18), .inl (cJ, 12600, .inr (.inl M_ways)))] H → va_D A [((aM 0), .inr (9, oX9 aM M_nodes M_operators M_textSize M_wordCount M_isParsed M_isTaken M_items M_piled M_outSize M_told M_standing)), ((aM 4), .inl (cJ, 270, .inr (.inl M_elements))), ((aM 5), .inl (cI, 30, .inl M_elementCount)), ((aM 13), .inl (cJ, 80, .inr (.inl M_chartWord))), ((aM 16), .inl (cI, 205082, .inl M_inHole)), ((aM 18), .inl (cJ, 12600, .inr (.inl M_ways)))] → va_S A s.heap H locs → ∀ (ls : Array Slot), lv_has ls 12 [(0, .ref (aM 0)), (1, .int p0), (2, .int p1), (3, .int p2), (4, .int p3), (5, .int p4)] → W p l e rm_X9_through s m args below meth c H locs 0 0 Q (F0 m 0 ls []) := by
  obtain ⟨⟨hx, hb, hml, hown, hts⟩, hr, hlocks⟩ := id C0
  intro p0 p1 p2 p3 p4 hm H locs hP hD hS ls hl
  have hm : (Option.bind (m_X9_isHole M_elements p1 p2) (fun r_12 => if r_12 = 0 then (gd (((40 * p0) + p4) - 1) 80 (gd ((9 * p1) + p2) 270 (if (lg_cmp (M_chartWord (((40 * p0) + p4) - 1).toNatClampNeg) (M_elements ((9 * p1) + p2).toNatClampNeg)) = 0 then (gd ((((420 * p1) + (42 * p2)) + p4) - 1) 12600 (some (M_ways ((((420 * p1) + (42 * p2)) + p4) - 1).toNatClampNeg))) else (some 0)))) else (m_X9_through_76 M_elements M_elementCount M_chartWord M_inHole M_ways FU p0 p1 p2 p4 ((420 * p1) + (42 * p2)) 0 (p3 + 1)))) = some res := hm
  refine lv_sipush (v := 420) hx hb dX9_through_0 (by decide) ?_
  refine lv_iload_n hx hb dX9_through_3 rfl (lv_at hl 2 rfl) ?_
  refine lv_imul hx hb dX9_through_4 ?_
  refine lv_bipush (v := 42) hx hb dX9_through_5 (by decide) ?_
  refine lv_iload_n hx hb dX9_through_7 rfl (lv_at hl 3 rfl) ?_
  refine lv_imul hx hb dX9_through_8 ?_
  refine lv_iadd hx hb dX9_through_9 ?_
  refine lv_istore (lv' := [(6, .int ((420 * p1) + (42 * p2))), (0, .ref (aM 0)), (1, .int p0), (2, .int p1), (3, .int p2), (4, .int p3), (5, .int p4)]) hx hb dX9_through_10 hl (by decide) rfl (fun ls hl => ?_)
  refine lv_aload_n hx hb dX9_through_12 rfl (lv_at hl 1 rfl) ?_
  refine lv_iload_n hx hb dX9_through_13 rfl (lv_at hl 3 rfl) ?_
  refine lv_iload_n hx hb dX9_through_14 rfl (lv_at hl 4 rfl) ?_
  obtain ⟨r_12, hc_13, hm⟩ := ob_some hm
  refine cx_i (wr := [((aM 5), .inl (cI, 30, .inl M_elementCount)), ((aM 13), .inl (cJ, 80, .inr (.inl M_chartWord))), ((aM 16), .inl (cI, 205082, .inl M_inHole)), ((aM 18), .inl (cJ, 12600, .inr (.inl M_ways)))]) (va_runV (As := [.int p1, .int p2]) (rest := []) C0.1 (c_X9_isHole l dC dI cI cJ cB cZ aM H.size M_nodes M_operators M_textSize M_wordCount M_isParsed M_isTaken M_items M_piled M_outSize M_told M_standing M_elements p1 p2 r_12 hc_13) (cwV 2 hts gX9_through_X9_isHole rfl rfl rfl (by decide +kernel) ⟨Nat.le_of_ble_eq_true rfl, Nat.le_of_ble_eq_true rfl⟩) (cP_V (ci := 9) (q0 := 0) hK hN hP hD rfl rfl [0, 1] (by decide) rfl) rfl rfl hl.1 rfl (lv_room (Nat.le_of_ble_eq_true rfl)) dX9_through_15 ⟨Nat.le_of_ble_eq_true rfl, Nat.le_of_ble_eq_true rfl⟩) hP hD hS hA [0, 1] [2, 3, 4, 5] rfl rfl (by decide) (by decide) (fun H locs hP hD hS => ?_)
  have hP : va_P (dC, dI) vwCl [((aM 5), .inl (cI, 30, .inl M_elementCount)), ((aM 13), .inl (cJ, 80, .inr (.inl M_chartWord))), ((aM 16), .inl (cI, 205082, .inl M_inHole)), ((aM 18), .inl (cJ, 12600, .inr (.inl M_ways))), ((aM 0), .inr (9, oX9 aM M_nodes M_operators M_textSize M_wordCount M_isParsed M_isTaken M_items M_piled M_outSize M_told M_standing)), ((aM 4), .inl (cJ, 270, .inr (.inl M_elements)))] H := hP
  have hD : va_D A [((aM 5), .inl (cI, 30, .inl M_elementCount)), ((aM 13), .inl (cJ, 80, .inr (.inl M_chartWord))), ((aM 16), .inl (cI, 205082, .inl M_inHole)), ((aM 18), .inl (cJ, 12600, .inr (.inl M_ways))), ((aM 0), .inr (9, oX9 aM M_nodes M_operators M_textSize M_wordCount M_isParsed M_isTaken M_items M_piled M_outSize M_told M_standing)), ((aM 4), .inl (cJ, 270, .inr (.inl M_elements)))] := hD
  refine lv_if_ne (tgt := 67) hx hb dX9_through_18 (by decide) (fun c_14 => ?_) (fun c_14 => ?_)
  · have hm := if_some' c_14 hm
    refine lv_lconst (v := 0) hx hb dX9_through_67 rfl ?_
    refine lv_lstore (lv' := [(7, .long 0), (6, .int ((420 * p1) + (42 * p2))), (0, .ref (aM 0)), (1, .int p0), (2, .int p1), (3, .int p2), (4, .int p3), (5, .int p4)]) hx hb dX9_through_68 hl (by decide) rfl (fun ls hl => ?_)
    refine lv_iload hx hb dX9_through_70 (lv_at hl 6 rfl) ?_
    refine lv_iconst (v := 1) hx hb dX9_through_72 (by decide) ?_
    refine lv_iadd hx hb dX9_through_73 ?_
    refine lv_istore (lv' := [(9, .int (p3 + 1)), (7, .long 0), (6, .int ((420 * p1) + (42 * p2))), (0, .ref (aM 0)), (1, .int p0), (2, .int p1), (3, .int p2), (4, .int p3), (5, .int p4)]) hx hb dX9_through_74 hl (by decide) rfl (fun ls hl => ?_)
    exact k_X9_through_76 C0 hK hN hA aM M_nodes M_operators M_textSize M_wordCount M_isParsed M_isTaken M_items M_piled M_outSize M_told M_standing M_elements M_elementCount M_chartWord M_inHole M_ways res RET FU p0 p1 p2 p4 ((420 * p1) + (42 * p2)) 0 (p3 + 1) hm H locs (P_sub' hP [4, 5, 0, 1, 2, 3] rfl) (hD.sub [4, 5, 0, 1, 2, 3] (by decide) rfl) hS ls (lv_sub hl [3, 4, 5, 6, 8, 2, 1, 0] rfl)
  · have hm := it_some c_14 hm
    refine lv_aload_n hx hb dX9_through_21 rfl (lv_at hl 1 rfl) ?_
    refine va_get (D := (dC, dI)) (ci := 9) (v := .ref (aM 13)) (C := RX9) (T := TX9) (N := 53) hx hb hts X9_through_inX9 hown hK hP 4 rfl rfl 12 (by decide) (hts (.fieldLink RX9 36 "MixfixDeskModel" "chartWord" "[J") (List.mem_of_getElem? (i := 1) rfl)) (fun _ h9 => h9) rfl dX9_through_22 ?_
    refine lv_bipush (v := 40) hx hb dX9_through_25 (by decide) ?_
    refine lv_iload_n hx hb dX9_through_27 rfl (lv_at hl 2 rfl) ?_
    refine lv_imul hx hb dX9_through_28 ?_
    refine lv_iload hx hb dX9_through_29 (lv_at hl 6 rfl) ?_
    refine lv_iadd hx hb dX9_through_31 ?_
    refine lv_iconst (v := 1) hx hb dX9_through_32 (by decide) ?_
    refine lv_isub hx hb dX9_through_33 ?_
    obtain ⟨hi_15, hm⟩ := gd_some hm
    refine va_lald (D := (dC, dI)) hx hb hK hP 1 1 rfl rfl hi_15 dX9_through_34 ?_
    refine lv_aload_n hx hb dX9_through_35 rfl (lv_at hl 1 rfl) ?_
    refine va_get (D := (dC, dI)) (ci := 9) (v := .ref (aM 4)) (C := RX9) (T := TX9) (N := 53) hx hb hts X9_through_inX9 hown hK hP 4 rfl rfl 3 (by decide) (hts (.fieldLink RX9 13 "MixfixDeskModel" "elements" "[J") (List.mem_of_getElem? (i := 2) rfl)) (fun _ h9 => h9) rfl dX9_through_36 ?_
    refine lv_bipush (v := 9) hx hb dX9_through_39 (by decide) ?_
    refine lv_iload_n hx hb dX9_through_41 rfl (lv_at hl 3 rfl) ?_
    refine lv_imul hx hb dX9_through_42 ?_
    refine lv_iload_n hx hb dX9_through_43 rfl (lv_at hl 4 rfl) ?_
    refine lv_iadd hx hb dX9_through_44 ?_
    obtain ⟨hi_16, hm⟩ := gd_some hm
    refine va_lald (D := (dC, dI)) hx hb hK hP 5 1 rfl rfl hi_16 dX9_through_45 ?_
    refine W.lcmp hx hb dX9_through_46 ?_
    refine lv_if_ne (tgt := 65) hx hb dX9_through_47 (by decide) (fun c_17 => ?_) (fun c_17 => ?_)
    · have hm := if_some' c_17 hm
      refine lv_lconst (v := 0) hx hb dX9_through_65 rfl ?_
      exact RET 0 hm _ H locs ls dX9_through_66 (P_sub' hP [4, 5, 0, 1, 2, 3] rfl) (hD.sub [4, 5, 0, 1, 2, 3] (by decide) rfl) hS
    · have hm := it_some c_17 hm
      refine lv_aload_n hx hb dX9_through_50 rfl (lv_at hl 1 rfl) ?_
      refine va_get (D := (dC, dI)) (ci := 9) (v := .ref (aM 18)) (C := RX9) (T := TX9) (N := 53) hx hb hts X9_through_inX9 hown hK hP 4 rfl rfl 17 (by decide) (hts (.fieldLink RX9 50 "MixfixDeskModel" "ways" "[J") (List.mem_of_getElem? (i := 3) rfl)) (fun _ h9 => h9) rfl dX9_through_51 ?_
      refine lv_iload hx hb dX9_through_54 (lv_at hl 0 rfl) ?_
      refine lv_iload hx hb dX9_through_56 (lv_at hl 6 rfl) ?_
      refine lv_iadd hx hb dX9_through_58 ?_
      refine lv_iconst (v := 1) hx hb dX9_through_59 (by decide) ?_
      refine lv_isub hx hb dX9_through_60 ?_
      obtain ⟨hi_18, hm⟩ := gd_some hm
      refine va_lald (D := (dC, dI)) hx hb hK hP 3 1 rfl rfl hi_18 dX9_through_61 ?_
      refine lv_goto (tgt := 66) hx hb dX9_through_62 (by decide) ?_
      exact RET (M_ways ((((420 * p1) + (42 * p2)) + p4) - 1).toNatClampNeg) hm _ H locs ls dX9_through_66 (P_sub' hP [4, 5, 0, 1, 2, 3] rfl) (hD.sub [4, 5, 0, 1, 2, 3] (by decide) rfl) hS
set_option maxHeartbeats 4000000 in
set_option maxRecDepth 100000 in
theorem c_X9_through (l : Launch) (dC : Nat → ClassId) (dI : Nat → Nat → Nat) (cI cJ cB cZ : ClassId) (aM : Nat → Nat) (sz : Nat) (M_nodes : Int32) (M_operators : Int32) (M_textSize : Int32) (M_wordCount : Int32) (M_isParsed : Int32) (M_isTaken : Int32) (M_items : Int32) (M_piled : Int32) (M_outSize : Int32) (M_told : Int32) (M_standing : Int32) (M_elements : Nat → Int64) (M_elementCount : Nat → Int32) (M_chartWord : Nat → Int64) (M_inHole : Nat → Int32) (M_ways : Nat → Int64) (p0 : Int32) (p1 : Int32) (p2 : Int32) (p3 : Int32) (p4 : Int32) (res : Int64) (hm : m_X9_through M_elements M_elementCount M_chartWord M_inHole M_ways p0 p1 p2 p3 p4 = some res) : Met l yX9_through wsX9_through rm_X9_through (cP (dC, dI) vwCl [(cI, .int), (cJ, .long), (cB, .byte), (cZ, .boolean)] [.ref (aM 0), .int p0, .int p1, .int p2, .int p3, .int p4] [((aM 0), .inr (9, oX9 aM M_nodes M_operators M_textSize M_wordCount M_isParsed M_isTaken M_items M_piled M_outSize M_told M_standing)), ((aM 4), .inl (cJ, 270, .inr (.inl M_elements))), ((aM 5), .inl (cI, 30, .inl M_elementCount)), ((aM 13), .inl (cJ, 80, .inr (.inl M_chartWord))), ((aM 16), .inl (cI, 205082, .inl M_inHole)), ((aM 18), .inl (cJ, 12600, .inr (.inl M_ways)))] sz) (cQl res (dC, dI) vwCl [((aM 0), .inr (9, oX9 aM M_nodes M_operators M_textSize M_wordCount M_isParsed M_isTaken M_items M_piled M_outSize M_told M_standing)), ((aM 4), .inl (cJ, 270, .inr (.inl M_elements))), ((aM 5), .inl (cI, 30, .inl M_elementCount)), ((aM 13), .inl (cJ, 80, .inr (.inl M_chartWord))), ((aM 16), .inl (cI, 205082, .inl M_inHole)), ((aM 18), .inl (cJ, 12600, .inr (.inl M_ways)))] [((aM 0), .inr (9, oX9 aM M_nodes M_operators M_textSize M_wordCount M_isParsed M_isTaken M_items M_piled M_outSize M_told M_standing)), ((aM 4), .inl (cJ, 270, .inr (.inl M_elements))), ((aM 5), .inl (cI, 30, .inl M_elementCount)), ((aM 13), .inl (cJ, 80, .inr (.inl M_chartWord))), ((aM 16), .inl (cI, 205082, .inl M_inHole)), ((aM 18), .inl (cJ, 12600, .inr (.inl M_ways)))] sz) 0 0 (va_A [((aM 0), .inr (9, oX9 aM M_nodes M_operators M_textSize M_wordCount M_isParsed M_isTaken M_items M_piled M_outSize M_told M_standing)), ((aM 4), .inl (cJ, 270, .inr (.inl M_elements))), ((aM 5), .inl (cI, 30, .inl M_elementCount)), ((aM 13), .inl (cJ, 80, .inr (.inl M_chartWord))), ((aM 16), .inl (cI, 205082, .inl M_inHole)), ((aM 18), .inl (cJ, 12600, .inr (.inl M_ways)))] sz) := by
  refine cx_of (cc := cX9_through) (maxL := 12) (ret := (some .long)) (own := RX9) (by decide) rfl rfl (Nat.le_of_ble_eq_true rfl) ?_
  intro p e s m below meth c A C0 hinN hK hN hsz hAe hA hP hD hS ls hl
  refine k_X9_through_E C0 hK hN hA aM M_nodes M_operators M_textSize M_wordCount M_isParsed M_isTaken M_items M_piled M_outSize M_told M_standing M_elements M_elementCount M_chartWord M_inHole M_ways res ?_ p0 p1 p2 p3 p4 hm _ _ hP hD hS ls hl
  intro v he pc H locs ls hdg hP hD hS
  have he := Option.some.inj he
  subst he
  exact cx_retl C0 hsz hAe hdg hP hD hS

