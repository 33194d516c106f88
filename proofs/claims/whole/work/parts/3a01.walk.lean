set_option maxRecDepth 20000 in
theorem ggX9_isAtom_X9_isPart : GoodIn wsX9_isAtom wsX9_isPart := goodIn_r _ [6, 7, 8, 1, 9, 10, 11, 12, 13, 14, 15, 16, 17, 18, 19, 20, 21, 22, 23, 24, 25, 26, 27, 28, 29, 30, 31, 32, 33, 34, 35, 36, 37, 38, 39, 40, 41, 42, 43, 44, 45, 46, 47, 48, 49, 50, 51, 52, 53, 54, 55, 56, 57, 58, 59, 60, 61, 62] (by decide +kernel) (by decide +kernel)
set_option maxRecDepth 20000 in
theorem gX9_isAtom_X9_isPart : GoodIn wsX9_isAtom (wsV RX9 156 RX9 yX9_isPart wsX9_isPart) := goodIn_app (goodIn_of _ (by decide +kernel)) ggX9_isAtom_X9_isPart
theorem dX9_isAtom_0 : decode cX9_isAtom 0 = .ok (.lload_n 1, 1) := by decide +kernel
theorem dX9_isAtom_1 : decode cX9_isAtom 1 = .ok (.ldc2_w 154, 3) := by decide +kernel
theorem dX9_isAtom_4 : decode cX9_isAtom 4 = .ok (.lcmp, 1) := by decide +kernel
theorem dX9_isAtom_5 : decode cX9_isAtom 5 = .ok (.ifCond .eq 15, 3) := by decide +kernel
theorem dX9_isAtom_8 : decode cX9_isAtom 8 = .ok (.aload_n 0, 1) := by decide +kernel
theorem dX9_isAtom_9 : decode cX9_isAtom 9 = .ok (.lload_n 1, 1) := by decide +kernel
theorem dX9_isAtom_10 : decode cX9_isAtom 10 = .ok (.invokevirtual 156, 3) := by decide +kernel
theorem dX9_isAtom_13 : decode cX9_isAtom 13 = .ok (.ifCond .ne 7, 3) := by decide +kernel
theorem dX9_isAtom_16 : decode cX9_isAtom 16 = .ok (.iconst 1, 1) := by decide +kernel
theorem dX9_isAtom_17 : decode cX9_isAtom 17 = .ok (.goto 4, 3) := by decide +kernel
theorem dX9_isAtom_20 : decode cX9_isAtom 20 = .ok (.iconst 0, 1) := by decide +kernel
theorem dX9_isAtom_21 : decode cX9_isAtom 21 = .ok (.ireturn, 1) := by decide +kernel
/-! MixfixDeskModel.isAtom(J)Z -/
abbrev rm_X9_isAtom : Room := { frames := 1, cells := 0, slots := 0, locals := 25 }
theorem X9_isAtom_inX9 : ∀ w ∈ wsX90, w ∈ wsX9_isAtom := by exact fun w h => List.mem_cons_of_mem _ (List.mem_append_right _ h)
abbrev RT_X9_isAtom (p : Program) (l : Launch) (e : Env) (s : State) (m : MethodId) (args : Array Value) (below : List Frame) (meth : Method) (c : Code) (Q : State → Prop) (dC : Nat → ClassId) (dI : Nat → Nat → Nat) (cI cJ cB cZ : ClassId) (A : Nat → Prop) (aM : Nat → Nat) (M_nodes : Int32) (M_operators : Int32) (M_textSize : Int32) (M_wordCount : Int32) (M_isParsed : Int32) (M_isTaken : Int32) (M_items : Int32) (M_piled : Int32) (M_outSize : Int32) (M_told : Int32) (M_standing : Int32) (M_elements : Nat → Int64) (M_elementCount : Nat → Int32) (res : Int32) : Prop := ∀ (v : Int32) , some v = some res → narrow .boolean (.int v) = .int v → ∀ (pc : Nat) (H : Heap) (locs : List Loc) (ls : Array Slot), decode cX9_isAtom pc = .ok (.ireturn, 1) → va_P (dC, dI) vwCl [((aM 0), .inr (9, oX9 aM M_nodes M_operators M_textSize M_wordCount M_isParsed M_isTaken M_items M_piled M_outSize M_told M_standing)), ((aM 4), .inl (cJ, 270, .inr (.inl M_elements))), ((aM 5), .inl (cI, 30, .inl M_elementCount))] H → va_D A [((aM 0), .inr (9, oX9 aM M_nodes M_operators M_textSize M_wordCount M_isParsed M_isTaken M_items M_piled M_outSize M_told M_standing)), ((aM 4), .inl (cJ, 270, .inr (.inl M_elements))), ((aM 5), .inl (cI, 30, .inl M_elementCount))] → va_S A s.heap H locs → W p l e rm_X9_isAtom s m args below meth c H locs 0 0 Q (F0 m pc ls [.int v])
set_option maxHeartbeats 4000000 in
set_option maxRecDepth 100000 in
theorem k_X9_isAtom_E {p : Program} {l : Launch} {e : Env} {s : State} {m : MethodId} {args : Array Value} {below : List Frame} {meth : Method} {c : Code} {Q : State → Prop} {dC : Nat → ClassId} {dI : Nat → Nat → Nat} {cI cJ cB cZ : ClassId} {A : Nat → Prop} (C0 : Cx p s m meth c args cX9_isAtom 3 (some .boolean) wsX9_isAtom RX9) (hK : va_K (dC, dI) vwCl [(cI, .int), (cJ, .long), (cB, .byte), (cZ, .boolean)] s) (hN : NW s) (hA : ∀ q, s.heap.size ≤ q → A q) (aM : Nat → Nat) (M_nodes : Int32) (M_operators : Int32) (M_textSize : Int32) (M_wordCount : Int32) (M_isParsed : Int32) (M_isTaken : Int32) (M_items : Int32) (M_piled : Int32) (M_outSize : Int32) (M_told : Int32) (M_standing : Int32) (M_elements : Nat → Int64) (M_elementCount : Nat → Int32) (res : Int32) (RET : RT_X9_isAtom p l e s m args below meth c Q dC dI cI cJ cB cZ A aM M_nodes M_operators M_textSize M_wordCount M_isParsed M_isTaken M_items M_piled M_outSize M_told M_standing M_elements M_elementCount res) : ∀ (p0 : Int64), m_X9_isAtom M_operators M_elements M_elementCount p0 = some res → ∀ (H : Heap) (locs : List Loc), va_P (dC, dI) vwCl [((aM 0), .inr (9, oX9 aM M_nodes M_operators M_textSize M_wordCount M_isParsed M_isTaken M_items M_piled M_outSize M_told M_standing)), ((aM 4), .inl (cJ, 270, .inr (.inl M_elements))), ((aM 5), .inl (cI, 30, .inl M_elementCount))] H → va_D A [((aM 0), .inr (9, oX9 aM M_nodes M_operators M_textSize M_wordCount M_isParsed M_isTaken M_items M_piled M_outSize M_told M_standing)), ((aM 4), .inl (cJ, 270, .inr (.inl M_elements))), ((aM 5), .inl (cI, 30, .inl M_elementCount))] → va_S A s.heap H locs → ∀ (ls : Array Slot), lv_has ls 3 [(0, .ref (aM 0)), (1, .long p0)] → W p l e rm_X9_isAtom s m args below meth c H locs 0 0 Q (F0 m 0 ls []) := by
  obtain ⟨⟨hx, hb, hml, hown, hts⟩, hr, hlocks⟩ := id C0
  intro p0 hm H locs hP hD hS ls hl
  have hm : (if (lg_cmp p0 95) = 0 then (some 0) else (Option.bind (m_X9_isPart M_operators M_elements M_elementCount p0) (fun r_2 => if r_2 = 0 then (some 1) else (some 0)))) = some res := hm
  refine lv_lload_n hx hb dX9_isAtom_0 rfl (lv_at hl 1 rfl) ?_
  refine lv_ldc2 (v := 95) hx hb hown (hts (.constantLong RX9 154 (95)) (List.mem_of_getElem? (i := 1) rfl)) dX9_isAtom_1 ?_
  refine W.lcmp hx hb dX9_isAtom_4 ?_
  refine lv_if_eq (tgt := 20) hx hb dX9_isAtom_5 (by decide) (fun c_1 => ?_) (fun c_1 => ?_)
  · have hm := it_some c_1 hm
    refine lv_iconst (v := 0) hx hb dX9_isAtom_20 (by decide) ?_
    exact RET 0 hm rfl _ H locs ls dX9_isAtom_21 hP hD hS
  · have hm := if_some' c_1 hm
    refine lv_aload_n hx hb dX9_isAtom_8 rfl (lv_at hl 0 rfl) ?_
    refine lv_lload_n hx hb dX9_isAtom_9 rfl (lv_at hl 1 rfl) ?_
    obtain ⟨r_2, hc_3, hm⟩ := ob_some hm
    refine cx_i (wr := []) (va_runV (As := [.long p0]) (rest := []) C0.1 (c_X9_isPart l dC dI cI cJ cB cZ aM H.size M_nodes M_operators M_textSize M_wordCount M_isParsed M_isTaken M_items M_piled M_outSize M_told M_standing M_elements M_elementCount p0 r_2 hc_3) (cwV 1 hts gX9_isAtom_X9_isPart rfl rfl rfl (by decide +kernel) ⟨Nat.le_of_ble_eq_true rfl, Nat.le_of_ble_eq_true rfl⟩) (cP_V (ci := 9) (q0 := 0) hK hN hP hD rfl rfl [0, 1, 2] (by decide) rfl) rfl rfl hl.1 rfl (lv_room (Nat.le_of_ble_eq_true rfl)) dX9_isAtom_10 ⟨Nat.le_of_ble_eq_true rfl, Nat.le_of_ble_eq_true rfl⟩) hP hD hS hA [0, 1, 2] [] rfl rfl (by decide) (by decide) (fun H locs hP hD hS => ?_)
    have hP : va_P (dC, dI) vwCl [((aM 0), .inr (9, oX9 aM M_nodes M_operators M_textSize M_wordCount M_isParsed M_isTaken M_items M_piled M_outSize M_told M_standing)), ((aM 4), .inl (cJ, 270, .inr (.inl M_elements))), ((aM 5), .inl (cI, 30, .inl M_elementCount))] H := hP
    have hD : va_D A [((aM 0), .inr (9, oX9 aM M_nodes M_operators M_textSize M_wordCount M_isParsed M_isTaken M_items M_piled M_outSize M_told M_standing)), ((aM 4), .inl (cJ, 270, .inr (.inl M_elements))), ((aM 5), .inl (cI, 30, .inl M_elementCount))] := hD
    refine lv_if_ne (tgt := 20) hx hb dX9_isAtom_13 (by decide) (fun c_4 => ?_) (fun c_4 => ?_)
    · have hm := if_some' c_4 hm
      refine lv_iconst (v := 0) hx hb dX9_isAtom_20 (by decide) ?_
      exact RET 0 hm rfl _ H locs ls dX9_isAtom_21 hP hD hS
    · have hm := it_some c_4 hm
      refine lv_iconst (v := 1) hx hb dX9_isAtom_16 (by decide) ?_
      refine lv_goto (tgt := 21) hx hb dX9_isAtom_17 (by decide) ?_
      exact RET 1 hm rfl _ H locs ls dX9_isAtom_21 hP hD hS
set_option maxHeartbeats 4000000 in
set_option maxRecDepth 100000 in
theorem c_X9_isAtom (l : Launch) (dC : Nat → ClassId) (dI : Nat → Nat → Nat) (cI cJ cB cZ : ClassId) (aM : Nat → Nat) (sz : Nat) (M_nodes : Int32) (M_operators : Int32) (M_textSize : Int32) (M_wordCount : Int32) (M_isParsed : Int32) (M_isTaken : Int32) (M_items : Int32) (M_piled : Int32) (M_outSize : Int32) (M_told : Int32) (M_standing : Int32) (M_elements : Nat → Int64) (M_elementCount : Nat → Int32) (p0 : Int64) (res : Int32) (hm : m_X9_isAtom M_operators M_elements M_elementCount p0 = some res) : Met l yX9_isAtom wsX9_isAtom rm_X9_isAtom (cP (dC, dI) vwCl [(cI, .int), (cJ, .long), (cB, .byte), (cZ, .boolean)] [.ref (aM 0), .long p0] [((aM 0), .inr (9, oX9 aM M_nodes M_operators M_textSize M_wordCount M_isParsed M_isTaken M_items M_piled M_outSize M_told M_standing)), ((aM 4), .inl (cJ, 270, .inr (.inl M_elements))), ((aM 5), .inl (cI, 30, .inl M_elementCount))] sz) (cQi res (dC, dI) vwCl [((aM 0), .inr (9, oX9 aM M_nodes M_operators M_textSize M_wordCount M_isParsed M_isTaken M_items M_piled M_outSize M_told M_standing)), ((aM 4), .inl (cJ, 270, .inr (.inl M_elements))), ((aM 5), .inl (cI, 30, .inl M_elementCount))] [((aM 0), .inr (9, oX9 aM M_nodes M_operators M_textSize M_wordCount M_isParsed M_isTaken M_items M_piled M_outSize M_told M_standing)), ((aM 4), .inl (cJ, 270, .inr (.inl M_elements))), ((aM 5), .inl (cI, 30, .inl M_elementCount))] sz) 0 0 (va_A [((aM 0), .inr (9, oX9 aM M_nodes M_operators M_textSize M_wordCount M_isParsed M_isTaken M_items M_piled M_outSize M_told M_standing)), ((aM 4), .inl (cJ, 270, .inr (.inl M_elements))), ((aM 5), .inl (cI, 30, .inl M_elementCount))] sz) := by
  refine cx_of (cc := cX9_isAtom) (maxL := 3) (ret := (some .boolean)) (own := RX9) (by decide) rfl rfl (Nat.le_of_ble_eq_true rfl) ?_
  intro p e s m below meth c A C0 hinN hK hN hsz hAe hA hP hD hS ls hl
  refine k_X9_isAtom_E C0 hK hN hA aM M_nodes M_operators M_textSize M_wordCount M_isParsed M_isTaken M_items M_piled M_outSize M_told M_standing M_elements M_elementCount res ?_ p0 hm _ _ hP hD hS ls hl
  intro v he hn pc H locs ls hdg hP hD hS
  have he := Option.some.inj he
  subst he
  exact cx_retz C0 hn hsz hAe hdg hP hD hS

theorem dX9_isHole_0 : decode cX9_isHole 0 = .ok (.aload_n 0, 1) := by decide +kernel
theorem dX9_isHole_1 : decode cX9_isHole 1 = .ok (.getfield 13, 3) := by decide +kernel
theorem dX9_isHole_4 : decode cX9_isHole 4 = .ok (.bipush 9, 2) := by decide +kernel
theorem dX9_isHole_6 : decode cX9_isHole 6 = .ok (.iload_n 1, 1) := by decide +kernel
theorem dX9_isHole_7 : decode cX9_isHole 7 = .ok (.imul, 1) := by decide +kernel
theorem dX9_isHole_8 : decode cX9_isHole 8 = .ok (.iload_n 2, 1) := by decide +kernel
theorem dX9_isHole_9 : decode cX9_isHole 9 = .ok (.iadd, 1) := by decide +kernel
theorem dX9_isHole_10 : decode cX9_isHole 10 = .ok (.laload, 1) := by decide +kernel
theorem dX9_isHole_11 : decode cX9_isHole 11 = .ok (.ldc2_w 154, 3) := by decide +kernel
theorem dX9_isHole_14 : decode cX9_isHole 14 = .ok (.lcmp, 1) := by decide +kernel
theorem dX9_isHole_15 : decode cX9_isHole 15 = .ok (.ifCond .ne 7, 3) := by decide +kernel
theorem dX9_isHole_18 : decode cX9_isHole 18 = .ok (.iconst 1, 1) := by decide +kernel
theorem dX9_isHole_19 : decode cX9_isHole 19 = .ok (.goto 4, 3) := by decide +kernel
theorem dX9_isHole_22 : decode cX9_isHole 22 = .ok (.iconst 0, 1) := by decide +kernel
theorem dX9_isHole_23 : decode cX9_isHole 23 = .ok (.ireturn, 1) := by decide +kernel
/-! MixfixDeskModel.isHole(II)Z -/
abbrev rm_X9_isHole : Room := { frames := 0, cells := 0, slots := 0, locals := 0 }
theorem X9_isHole_inX9 : ∀ w ∈ wsX90, w ∈ wsX9_isHole := by exact fun w h => List.mem_cons_of_mem _ (List.mem_append_right _ h)
abbrev RT_X9_isHole (p : Program) (l : Launch) (e : Env) (s : State) (m : MethodId) (args : Array Value) (below : List Frame) (meth : Method) (c : Code) (Q : State → Prop) (dC : Nat → ClassId) (dI : Nat → Nat → Nat) (cI cJ cB cZ : ClassId) (A : Nat → Prop) (aM : Nat → Nat) (M_nodes : Int32) (M_operators : Int32) (M_textSize : Int32) (M_wordCount : Int32) (M_isParsed : Int32) (M_isTaken : Int32) (M_items : Int32) (M_piled : Int32) (M_outSize : Int32) (M_told : Int32) (M_standing : Int32) (M_elements : Nat → Int64) (res : Int32) : Prop := ∀ (v : Int32) , some v = some res → narrow .boolean (.int v) = .int v → ∀ (pc : Nat) (H : Heap) (locs : List Loc) (ls : Array Slot), decode cX9_isHole pc = .ok (.ireturn, 1) → va_P (dC, dI) vwCl [((aM 0), .inr (9, oX9 aM M_nodes M_operators M_textSize M_wordCount M_isParsed M_isTaken M_items M_piled M_outSize M_told M_standing)), ((aM 4), .inl (cJ, 270, .inr (.inl M_elements)))] H → va_D A [((aM 0), .inr (9, oX9 aM M_nodes M_operators M_textSize M_wordCount M_isParsed M_isTaken M_items M_piled M_outSize M_told M_standing)), ((aM 4), .inl (cJ, 270, .inr (.inl M_elements)))] → va_S A s.heap H locs → W p l e rm_X9_isHole s m args below meth c H locs 0 0 Q (F0 m pc ls [.int v])
set_option maxHeartbeats 4000000 in
set_option maxRecDepth 100000 in
theorem k_X9_isHole_E {p : Program} {l : Launch} {e : Env} {s : State} {m : MethodId} {args : Array Value} {below : List Frame} {meth : Method} {c : Code} {Q : State → Prop} {dC : Nat → ClassId} {dI : Nat → Nat → Nat} {cI cJ cB cZ : ClassId} {A : Nat → Prop} (C0 : Cx p s m meth c args cX9_isHole 3 (some .boolean) wsX9_isHole RX9) (hK : va_K (dC, dI) vwCl [(cI, .int), (cJ, .long), (cB, .byte), (cZ, .boolean)] s) (hN : NW s) (hA : ∀ q, s.heap.size ≤ q → A q) (aM : Nat → Nat) (M_nodes : Int32) (M_operators : Int32) (M_textSize : Int32) (M_wordCount : Int32) (M_isParsed : Int32) (M_isTaken : Int32) (M_items : Int32) (M_piled : Int32) (M_outSize : Int32) (M_told : Int32) (M_standing : Int32) (M_elements : Nat → Int64) (res : Int32) (RET : RT_X9_isHole p l e s m args below meth c Q dC dI cI cJ cB cZ A aM M_nodes M_operators M_textSize M_wordCount M_isParsed M_isTaken M_items M_piled M_outSize M_told M_standing M_elements res) : ∀ (p0 : Int32) (p1 : Int32), m_X9_isHole M_elements p0 p1 = some res → ∀ (H : Heap) (locs : List Loc), va_P (dC, dI) vwCl [((aM 0), .inr (9, oX9 aM M_nodes M_operators M_textSize M_wordCount M_isParsed M_isTaken M_items M_piled M_outSize M_told M_standing)), ((aM 4), .inl (cJ, 270, .inr (.inl M_elements)))] H → va_D A [((aM 0), .inr (9, oX9 aM M_nodes M_operators M_textSize M_wordCount M_isParsed M_isTaken M_items M_piled M_outSize M_told M_standing)), ((aM 4), .inl (cJ, 270, .inr (.inl M_elements)))] → va_S A s.heap H locs → ∀ (ls : Array Slot), lv_has ls 3 [(0, .ref (aM 0)), (1, .int p0), (2, .int p1)] → W p l e rm_X9_isHole s m args below meth c H locs 0 0 Q (F0 m 0 ls []) := by
  obtain ⟨⟨hx, hb, hml, hown, hts⟩, hr, hlocks⟩ := id C0
  intro p0 p1 hm H locs hP hD hS ls hl
  have hm : (gd ((9 * p0) + p1) 270 (if (lg_cmp (M_elements ((9 * p0) + p1).toNatClampNeg) 95) = 0 then (some 1) else (some 0))) = some res := hm
  refine lv_aload_n hx hb dX9_isHole_0 rfl (lv_at hl 0 rfl) ?_
  refine va_get (D := (dC, dI)) (ci := 9) (v := .ref (aM 4)) (C := RX9) (T := TX9) (N := 53) hx hb hts X9_isHole_inX9 hown hK hP 0 rfl rfl 3 (by decide) (hts (.fieldLink RX9 13 "MixfixDeskModel" "elements" "[J") (List.mem_of_getElem? (i := 1) rfl)) (fun _ h9 => h9) rfl dX9_isHole_1 ?_
  refine lv_bipush (v := 9) hx hb dX9_isHole_4 (by decide) ?_
  refine lv_iload_n hx hb dX9_isHole_6 rfl (lv_at hl 1 rfl) ?_
  refine lv_imul hx hb dX9_isHole_7 ?_
  refine lv_iload_n hx hb dX9_isHole_8 rfl (lv_at hl 2 rfl) ?_
  refine lv_iadd hx hb dX9_isHole_9 ?_
  obtain ⟨hi_1, hm⟩ := gd_some hm
  refine va_lald (D := (dC, dI)) hx hb hK hP 1 1 rfl rfl hi_1 dX9_isHole_10 ?_
  refine lv_ldc2 (v := 95) hx hb hown (hts (.constantLong RX9 154 (95)) (List.mem_of_getElem? (i := 2) rfl)) dX9_isHole_11 ?_
  refine W.lcmp hx hb dX9_isHole_14 ?_
  refine lv_if_ne (tgt := 22) hx hb dX9_isHole_15 (by decide) (fun c_2 => ?_) (fun c_2 => ?_)
  · have hm := if_some' c_2 hm
    refine lv_iconst (v := 0) hx hb dX9_isHole_22 (by decide) ?_
    exact RET 0 hm rfl _ H locs ls dX9_isHole_23 hP hD hS
  · have hm := it_some c_2 hm
    refine lv_iconst (v := 1) hx hb dX9_isHole_18 (by decide) ?_
    refine lv_goto (tgt := 23) hx hb dX9_isHole_19 (by decide) ?_
    exact RET 1 hm rfl _ H locs ls dX9_isHole_23 hP hD hS
set_option maxHeartbeats 4000000 in
set_option maxRecDepth 100000 in
theorem c_X9_isHole (l : Launch) (dC : Nat → ClassId) (dI : Nat → Nat → Nat) (cI cJ cB cZ : ClassId) (aM : Nat → Nat) (sz : Nat) (M_nodes : Int32) (M_operators : Int32) (M_textSize : Int32) (M_wordCount : Int32) (M_isParsed : Int32) (M_isTaken : Int32) (M_items : Int32) (M_piled : Int32) (M_outSize : Int32) (M_told : Int32) (M_standing : Int32) (M_elements : Nat → Int64) (p0 : Int32) (p1 : Int32) (res : Int32) (hm : m_X9_isHole M_elements p0 p1 = some res) : Met l yX9_isHole wsX9_isHole rm_X9_isHole (cP (dC, dI) vwCl [(cI, .int), (cJ, .long), (cB, .byte), (cZ, .boolean)] [.ref (aM 0), .int p0, .int p1] [((aM 0), .inr (9, oX9 aM M_nodes M_operators M_textSize M_wordCount M_isParsed M_isTaken M_items M_piled M_outSize M_told M_standing)), ((aM 4), .inl (cJ, 270, .inr (.inl M_elements)))] sz) (cQi res (dC, dI) vwCl [((aM 0), .inr (9, oX9 aM M_nodes M_operators M_textSize M_wordCount M_isParsed M_isTaken M_items M_piled M_outSize M_told M_standing)), ((aM 4), .inl (cJ, 270, .inr (.inl M_elements)))] [((aM 0), .inr (9, oX9 aM M_nodes M_operators M_textSize M_wordCount M_isParsed M_isTaken M_items M_piled M_outSize M_told M_standing)), ((aM 4), .inl (cJ, 270, .inr (.inl M_elements)))] sz) 0 0 (va_A [((aM 0), .inr (9, oX9 aM M_nodes M_operators M_textSize M_wordCount M_isParsed M_isTaken M_items M_piled M_outSize M_told M_standing)), ((aM 4), .inl (cJ, 270, .inr (.inl M_elements)))] sz) := by
  refine cx_of (cc := cX9_isHole) (maxL := 3) (ret := (some .boolean)) (own := RX9) (by decide) rfl rfl (Nat.le_of_ble_eq_true rfl) ?_
  intro p e s m below meth c A C0 hinN hK hN hsz hAe hA hP hD hS ls hl
  refine k_X9_isHole_E C0 hK hN hA aM M_nodes M_operators M_textSize M_wordCount M_isParsed M_isTaken M_items M_piled M_outSize M_told M_standing M_elements res ?_ p0 p1 hm _ _ hP hD hS ls hl
  intro v he hn pc H locs ls hdg hP hD hS
  have he := Option.some.inj he
  subst he
  exact cx_retz C0 hn hsz hAe hdg hP hD hS

set_option maxRecDepth 20000 in
theorem ggX9_hasFirst_X9_isHole : GoodIn wsX9_hasFirst wsX9_isHole := goodIn_r _ [5, 6, 7, 8, 9, 10, 11, 12, 13, 14, 15, 16, 17, 18, 19, 20, 21, 22, 23, 24, 25, 26, 27, 28, 29, 30, 31, 32, 33, 34, 35, 36, 37, 38, 39, 40, 41, 42, 43, 44, 45, 46, 47, 48, 49, 50, 51, 52, 53, 54, 55, 56, 57, 58, 59, 60] (by decide +kernel) (by decide +kernel)
set_option maxRecDepth 20000 in
theorem gX9_hasFirst_X9_isHole : GoodIn wsX9_hasFirst (wsV RX9 160 RX9 yX9_isHole wsX9_isHole) := goodIn_app (goodIn_of _ (by decide +kernel)) ggX9_hasFirst_X9_isHole
theorem dX9_hasFirst_0 : decode cX9_hasFirst 0 = .ok (.aload_n 0, 1) := by decide +kernel
theorem dX9_hasFirst_1 : decode cX9_hasFirst 1 = .ok (.iload_n 1, 1) := by decide +kernel
theorem dX9_hasFirst_2 : decode cX9_hasFirst 2 = .ok (.iconst 0, 1) := by decide +kernel
theorem dX9_hasFirst_3 : decode cX9_hasFirst 3 = .ok (.invokevirtual 160, 3) := by decide +kernel
theorem dX9_hasFirst_6 : decode cX9_hasFirst 6 = .ok (.ireturn, 1) := by decide +kernel
/-! MixfixDeskModel.hasFirst(I)Z -/
abbrev rm_X9_hasFirst : Room := { frames := 1, cells := 0, slots := 0, locals := 22 }
theorem X9_hasFirst_inX9 : ∀ w ∈ wsX90, w ∈ wsX9_hasFirst := by exact fun w h => List.mem_cons_of_mem _ (List.mem_append_right _ h)
abbrev RT_X9_hasFirst (p : Program) (l : Launch) (e : Env) (s : State) (m : MethodId) (args : Array Value) (below : List Frame) (meth : Method) (c : Code) (Q : State → Prop) (dC : Nat → ClassId) (dI : Nat → Nat → Nat) (cI cJ cB cZ : ClassId) (A : Nat → Prop) (aM : Nat → Nat) (M_nodes : Int32) (M_operators : Int32) (M_textSize : Int32) (M_wordCount : Int32) (M_isParsed : Int32) (M_isTaken : Int32) (M_items : Int32) (M_piled : Int32) (M_outSize : Int32) (M_told : Int32) (M_standing : Int32) (M_elements : Nat → Int64) (res : Int32) : Prop := ∀ (v : Int32) , some v = some res → narrow .boolean (.int v) = .int v → ∀ (pc : Nat) (H : Heap) (locs : List Loc) (ls : Array Slot), decode cX9_hasFirst pc = .ok (.ireturn, 1) → va_P (dC, dI) vwCl [((aM 0), .inr (9, oX9 aM M_nodes M_operators M_textSize M_wordCount M_isParsed M_isTaken M_items M_piled M_outSize M_told M_standing)), ((aM 4), .inl (cJ, 270, .inr (.inl M_elements)))] H → va_D A [((aM 0), .inr (9, oX9 aM M_nodes M_operators M_textSize M_wordCount M_isParsed M_isTaken M_items M_piled M_outSize M_told M_standing)), ((aM 4), .inl (cJ, 270, .inr (.inl M_elements)))] → va_S A s.heap H locs → W p l e rm_X9_hasFirst s m args below meth c H locs 0 0 Q (F0 m pc ls [.int v])
set_option maxHeartbeats 4000000 in
set_option maxRecDepth 100000 in
theorem k_X9_hasFirst_E {p : Program} {l : Launch} {e : Env} {s : State} {m : MethodId} {args : Array Value} {below : List Frame} {meth : Method} {c : Code} {Q : State → Prop} {dC : Nat → ClassId} {dI : Nat → Nat → Nat} {cI cJ cB cZ : ClassId} {A : Nat → Prop} (C0 : Cx p s m meth c args cX9_hasFirst 2 (some .boolean) wsX9_hasFirst RX9) (hK : va_K (dC, dI) vwCl [(cI, .int), (cJ, .long), (cB, .byte), (cZ, .boolean)] s) (hN : NW s) (hA : ∀ q, s.heap.size ≤ q → A q) (aM : Nat → Nat) (M_nodes : Int32) (M_operators : Int32) (M_textSize : Int32) (M_wordCount : Int32) (M_isParsed : Int32) (M_isTaken : Int32) (M_items : Int32) (M_piled : Int32) (M_outSize : Int32) (M_told : Int32) (M_standing : Int32) (M_elements : Nat → Int64) (res : Int32) (RET : RT_X9_hasFirst p l e s m args below meth c Q dC dI cI cJ cB cZ A aM M_nodes M_operators M_textSize M_wordCount M_isParsed M_isTaken M_items M_piled M_outSize M_told M_standing M_elements res) : ∀ (p0 : Int32), m_X9_hasFirst M_elements p0 = some res → ∀ (H : Heap) (locs : List Loc), va_P (dC, dI) vwCl [((aM 0), .inr (9, oX9 aM M_nodes M_operators M_textSize M_wordCount M_isParsed M_isTaken M_items M_piled M_outSize M_told M_standing)), ((aM 4), .inl (cJ, 270, .inr (.inl M_elements)))] H → va_D A [((aM 0), .inr (9, oX9 aM M_nodes M_operators M_textSize M_wordCount M_isParsed M_isTaken M_items M_piled M_outSize M_told M_standing)), ((aM 4), .inl (cJ, 270, .inr (.inl M_elements)))] → va_S A s.heap H locs → ∀ (ls : Array Slot), lv_has ls 2 [(0, .ref (aM 0)), (1, .int p0)] → W p l e rm_X9_hasFirst s m args below meth c H locs 0 0 Q (F0 m 0 ls []) := by
  obtain ⟨⟨hx, hb, hml, hown, hts⟩, hr, hlocks⟩ := id C0
  intro p0 hm H locs hP hD hS ls hl
  have hm : (Option.bind (m_X9_isHole M_elements p0 0) (fun r_1 => gb r_1 (some r_1))) = some res := hm
  refine lv_aload_n hx hb dX9_hasFirst_0 rfl (lv_at hl 0 rfl) ?_
  refine lv_iload_n hx hb dX9_hasFirst_1 rfl (lv_at hl 1 rfl) ?_
  refine lv_iconst (v := 0) hx hb dX9_hasFirst_2 (by decide) ?_
  obtain ⟨r_1, hc_2, hm⟩ := ob_some hm
  refine cx_i (wr := []) (va_runV (As := [.int p0, .int 0]) (rest := []) C0.1 (c_X9_isHole l dC dI cI cJ cB cZ aM H.size M_nodes M_operators M_textSize M_wordCount M_isParsed M_isTaken M_items M_piled M_outSize M_told M_standing M_elements p0 0 r_1 hc_2) (cwV 2 hts gX9_hasFirst_X9_isHole rfl rfl rfl (by decide +kernel) ⟨Nat.le_of_ble_eq_true rfl, Nat.le_of_ble_eq_true rfl⟩) (cP_V (ci := 9) (q0 := 0) hK hN hP hD rfl rfl [0, 1] (by decide) rfl) rfl rfl hl.1 rfl (lv_room (Nat.le_of_ble_eq_true rfl)) dX9_hasFirst_3 ⟨Nat.le_of_ble_eq_true rfl, Nat.le_of_ble_eq_true rfl⟩) hP hD hS hA [0, 1] [] rfl rfl (by decide) (by decide) (fun H locs hP hD hS => ?_)
  have hP : va_P (dC, dI) vwCl [((aM 0), .inr (9, oX9 aM M_nodes M_operators M_textSize M_wordCount M_isParsed M_isTaken M_items M_piled M_outSize M_told M_standing)), ((aM 4), .inl (cJ, 270, .inr (.inl M_elements)))] H := hP
  have hD : va_D A [((aM 0), .inr (9, oX9 aM M_nodes M_operators M_textSize M_wordCount M_isParsed M_isTaken M_items M_piled M_outSize M_told M_standing)), ((aM 4), .inl (cJ, 270, .inr (.inl M_elements)))] := hD
  obtain ⟨hg_3, hm⟩ := gb_some hm
  exact RET r_1 hm hg_3 _ H locs ls dX9_hasFirst_6 hP hD hS
set_option maxHeartbeats 4000000 in
set_option maxRecDepth 100000 in
theorem c_X9_hasFirst (l : Launch) (dC : Nat → ClassId) (dI : Nat → Nat → Nat) (cI cJ cB cZ : ClassId) (aM : Nat → Nat) (sz : Nat) (M_nodes : Int32) (M_operators : Int32) (M_textSize : Int32) (M_wordCount : Int32) (M_isParsed : Int32) (M_isTaken : Int32) (M_items : Int32) (M_piled : Int32) (M_outSize : Int32) (M_told : Int32) (M_standing : Int32) (M_elements : Nat → Int64) (p0 : Int32) (res : Int32) (hm : m_X9_hasFirst M_elements p0 = some res) : Met l yX9_hasFirst wsX9_hasFirst rm_X9_hasFirst (cP (dC, dI) vwCl [(cI, .int), (cJ, .long), (cB, .byte), (cZ, .boolean)] [.ref (aM 0), .int p0] [((aM 0), .inr (9, oX9 aM M_nodes M_operators M_textSize M_wordCount M_isParsed M_isTaken M_items M_piled M_outSize M_told M_standing)), ((aM 4), .inl (cJ, 270, .inr (.inl M_elements)))] sz) (cQi res (dC, dI) vwCl [((aM 0), .inr (9, oX9 aM M_nodes M_operators M_textSize M_wordCount M_isParsed M_isTaken M_items M_piled M_outSize M_told M_standing)), ((aM 4), .inl (cJ, 270, .inr (.inl M_elements)))] [((aM 0), .inr (9, oX9 aM M_nodes M_operators M_textSize M_wordCount M_isParsed M_isTaken M_items M_piled M_outSize M_told M_standing)), ((aM 4), .inl (cJ, 270, .inr (.inl M_elements)))] sz) 0 0 (va_A [((aM 0), .inr (9, oX9 aM M_nodes M_operators M_textSize M_wordCount M_isParsed M_isTaken M_items M_piled M_outSize M_told M_standing)), ((aM 4), .inl (cJ, 270, .inr (.inl M_elements)))] sz) := by
  refine cx_of (cc := cX9_hasFirst) (maxL := 2) (ret := (some .boolean)) (own := RX9) (by decide) rfl rfl (Nat.le_of_ble_eq_true rfl) ?_
  intro p e s m below meth c A C0 hinN hK hN hsz hAe hA hP hD hS ls hl
  refine k_X9_hasFirst_E C0 hK hN hA aM M_nodes M_operators M_textSize M_wordCount M_isParsed M_isTaken M_items M_piled M_outSize M_told M_standing M_elements res ?_ p0 hm _ _ hP hD hS ls hl
  intro v he hn pc H locs ls hdg hP hD hS
  have he := Option.some.inj he
  subst he
  exact cx_retz C0 hn hsz hAe hdg hP hD hS

set_option maxRecDepth 20000 in
theorem ggX9_hasLast_X9_isHole : GoodIn wsX9_hasLast wsX9_isHole := goodIn_r _ [6, 7, 8, 9, 10, 11, 12, 13, 14, 15, 16, 17, 18, 19, 20, 21, 22, 23, 24, 25, 26, 27, 28, 29, 30, 31, 32, 33, 34, 35, 36, 37, 38, 39, 40, 41, 42, 43, 44, 45, 46, 47, 48, 49, 50, 51, 52, 53, 54, 55, 56, 57, 58, 59, 60, 61] (by decide +kernel) (by decide +kernel)
set_option maxRecDepth 20000 in
theorem gX9_hasLast_X9_isHole : GoodIn wsX9_hasLast (wsV RX9 160 RX9 yX9_isHole wsX9_isHole) := goodIn_app (goodIn_of _ (by decide +kernel)) ggX9_hasLast_X9_isHole
theorem dX9_hasLast_0 : decode cX9_hasLast 0 = .ok (.aload_n 0, 1) := by decide +kernel
theorem dX9_hasLast_1 : decode cX9_hasLast 1 = .ok (.iload_n 1, 1) := by decide +kernel
theorem dX9_hasLast_2 : decode cX9_hasLast 2 = .ok (.aload_n 0, 1) := by decide +kernel
theorem dX9_hasLast_3 : decode cX9_hasLast 3 = .ok (.getfield 17, 3) := by decide +kernel
theorem dX9_hasLast_6 : decode cX9_hasLast 6 = .ok (.iload_n 1, 1) := by decide +kernel
theorem dX9_hasLast_7 : decode cX9_hasLast 7 = .ok (.iaload, 1) := by decide +kernel
theorem dX9_hasLast_8 : decode cX9_hasLast 8 = .ok (.iconst 1, 1) := by decide +kernel
theorem dX9_hasLast_9 : decode cX9_hasLast 9 = .ok (.isub, 1) := by decide +kernel
theorem dX9_hasLast_10 : decode cX9_hasLast 10 = .ok (.invokevirtual 160, 3) := by decide +kernel
theorem dX9_hasLast_13 : decode cX9_hasLast 13 = .ok (.ireturn, 1) := by decide +kernel
/-! MixfixDeskModel.hasLast(I)Z -/
abbrev rm_X9_hasLast : Room := { frames := 1, cells := 0, slots := 0, locals := 22 }
theorem X9_hasLast_inX9 : ∀ w ∈ wsX90, w ∈ wsX9_hasLast := by exact fun w h => List.mem_cons_of_mem _ (List.mem_append_right _ h)
abbrev RT_X9_hasLast (p : Program) (l : Launch) (e : Env) (s : State) (m : MethodId) (args : Array Value) (below : List Frame) (meth : Method) (c : Code) (Q : State → Prop) (dC : Nat → ClassId) (dI : Nat → Nat → Nat) (cI cJ cB cZ : ClassId) (A : Nat → Prop) (aM : Nat → Nat) (M_nodes : Int32) (M_operators : Int32) (M_textSize : Int32) (M_wordCount : Int32) (M_isParsed : Int32) (M_isTaken : Int32) (M_items : Int32) (M_piled : Int32) (M_outSize : Int32) (M_told : Int32) (M_standing : Int32) (M_elements : Nat → Int64) (M_elementCount : Nat → Int32) (res : Int32) : Prop := ∀ (v : Int32) , some v = some res → narrow .boolean (.int v) = .int v → ∀ (pc : Nat) (H : Heap) (locs : List Loc) (ls : Array Slot), decode cX9_hasLast pc = .ok (.ireturn, 1) → va_P (dC, dI) vwCl [((aM 0), .inr (9, oX9 aM M_nodes M_operators M_textSize M_wordCount M_isParsed M_isTaken M_items M_piled M_outSize M_told M_standing)), ((aM 4), .inl (cJ, 270, .inr (.inl M_elements))), ((aM 5), .inl (cI, 30, .inl M_elementCount))] H → va_D A [((aM 0), .inr (9, oX9 aM M_nodes M_operators M_textSize M_wordCount M_isParsed M_isTaken M_items M_piled M_outSize M_told M_standing)), ((aM 4), .inl (cJ, 270, .inr (.inl M_elements))), ((aM 5), .inl (cI, 30, .inl M_elementCount))] → va_S A s.heap H locs → W p l e rm_X9_hasLast s m args below meth c H locs 0 0 Q (F0 m pc ls [.int v])
set_option maxHeartbeats 4000000 in
set_option maxRecDepth 100000 in
theorem k_X9_hasLast_E {p : Program} {l : Launch} {e : Env} {s : State} {m : MethodId} {args : Array Value} {below : List Frame} {meth : Method} {c : Code} {Q : State → Prop} {dC : Nat → ClassId} {dI : Nat → Nat → Nat} {cI cJ cB cZ : ClassId} {A : Nat → Prop} (C0 : Cx p s m meth c args cX9_hasLast 2 (some .boolean) wsX9_hasLast RX9) (hK : va_K (dC, dI) vwCl [(cI, .int), (cJ, .long), (cB, .byte), (cZ, .boolean)] s) (hN : NW s) (hA : ∀ q, s.heap.size ≤ q → A q) (aM : Nat → Nat) (M_nodes : Int32) (M_operators : Int32) (M_textSize : Int32) (M_wordCount : Int32) (M_isParsed : Int32) (M_isTaken : Int32) (M_items : Int32) (M_piled : Int32) (M_outSize : Int32) (M_told : Int32) (M_standing : Int32) (M_elements : Nat → Int64) (M_elementCount : Nat → Int32) (res : Int32) (RET : RT_X9_hasLast p l e s m args below meth c Q dC dI cI cJ cB cZ A aM M_nodes M_operators M_textSize M_wordCount M_isParsed M_isTaken M_items M_piled M_outSize M_told M_standing M_elements M_elementCount res) : ∀ (p0 : Int32), m_X9_hasLast M_elements M_elementCount p0 = some res → ∀ (H : Heap) (locs : List Loc), va_P (dC, dI) vwCl [((aM 0), .inr (9, oX9 aM M_nodes M_operators M_textSize M_wordCount M_isParsed M_isTaken M_items M_piled M_outSize M_told M_standing)), ((aM 4), .inl (cJ, 270, .inr (.inl M_elements))), ((aM 5), .inl (cI, 30, .inl M_elementCount))] H → va_D A [((aM 0), .inr (9, oX9 aM M_nodes M_operators M_textSize M_wordCount M_isParsed M_isTaken M_items M_piled M_outSize M_told M_standing)), ((aM 4), .inl (cJ, 270, .inr (.inl M_elements))), ((aM 5), .inl (cI, 30, .inl M_elementCount))] → va_S A s.heap H locs → ∀ (ls : Array Slot), lv_has ls 2 [(0, .ref (aM 0)), (1, .int p0)] → W p l e rm_X9_hasLast s m args below meth c H locs 0 0 Q (F0 m 0 ls []) := by
  obtain ⟨⟨hx, hb, hml, hown, hts⟩, hr, hlocks⟩ := id C0
  intro p0 hm H locs hP hD hS ls hl
  have hm : (gd p0 30 (Option.bind (m_X9_isHole M_elements p0 ((M_elementCount p0.toNatClampNeg) - 1)) (fun r_2 => gb r_2 (some r_2)))) = some res := hm
  refine lv_aload_n hx hb dX9_hasLast_0 rfl (lv_at hl 0 rfl) ?_
  refine lv_iload_n hx hb dX9_hasLast_1 rfl (lv_at hl 1 rfl) ?_
  refine lv_aload_n hx hb dX9_hasLast_2 rfl (lv_at hl 0 rfl) ?_
  refine va_get (D := (dC, dI)) (ci := 9) (v := .ref (aM 5)) (C := RX9) (T := TX9) (N := 53) hx hb hts X9_hasLast_inX9 hown hK hP 0 rfl rfl 4 (by decide) (hts (.fieldLink RX9 17 "MixfixDeskModel" "elementCount" "[I") (List.mem_of_getElem? (i := 1) rfl)) (fun _ h9 => h9) rfl dX9_hasLast_3 ?_
  refine lv_iload_n hx hb dX9_hasLast_6 rfl (lv_at hl 1 rfl) ?_
  obtain ⟨hi_1, hm⟩ := gd_some hm
  refine va_iald (D := (dC, dI)) hx hb hK hP 2 0 rfl rfl hi_1 dX9_hasLast_7 ?_
  refine lv_iconst (v := 1) hx hb dX9_hasLast_8 (by decide) ?_
  refine lv_isub hx hb dX9_hasLast_9 ?_
  obtain ⟨r_2, hc_3, hm⟩ := ob_some hm
  refine cx_i (wr := [((aM 5), .inl (cI, 30, .inl M_elementCount))]) (va_runV (As := [.int p0, .int ((M_elementCount p0.toNatClampNeg) - 1)]) (rest := []) C0.1 (c_X9_isHole l dC dI cI cJ cB cZ aM H.size M_nodes M_operators M_textSize M_wordCount M_isParsed M_isTaken M_items M_piled M_outSize M_told M_standing M_elements p0 ((M_elementCount p0.toNatClampNeg) - 1) r_2 hc_3) (cwV 2 hts gX9_hasLast_X9_isHole rfl rfl rfl (by decide +kernel) ⟨Nat.le_of_ble_eq_true rfl, Nat.le_of_ble_eq_true rfl⟩) (cP_V (ci := 9) (q0 := 0) hK hN hP hD rfl rfl [0, 1] (by decide) rfl) rfl rfl hl.1 rfl (lv_room (Nat.le_of_ble_eq_true rfl)) dX9_hasLast_10 ⟨Nat.le_of_ble_eq_true rfl, Nat.le_of_ble_eq_true rfl⟩) hP hD hS hA [0, 1] [2] rfl rfl (by decide) (by decide) (fun H locs hP hD hS => ?_)
  have hP : va_P (dC, dI) vwCl [((aM 5), .inl (cI, 30, .inl M_elementCount)), ((aM 0), .inr (9, oX9 aM M_nodes M_operators M_textSize M_wordCount M_isParsed M_isTaken M_items M_piled M_outSize M_told M_standing)), ((aM 4), .inl (cJ, 270, .inr (.inl M_elements)))] H := hP
  have hD : va_D A [((aM 5), .inl (cI, 30, .inl M_elementCount)), ((aM 0), .inr (9, oX9 aM M_nodes M_operators M_textSize M_wordCount M_isParsed M_isTaken M_items M_piled M_outSize M_told M_standing)), ((aM 4), .inl (cJ, 270, .inr (.inl M_elements)))] := hD
  obtain ⟨hg_4, hm⟩ := gb_some hm
  exact RET r_2 hm hg_4 _ H locs ls dX9_hasLast_13 (P_sub' hP [1, 2, 0] rfl) (hD.sub [1, 2, 0] (by decide) rfl) hS
set_option maxHeartbeats 4000000 in
set_option maxRecDepth 100000 in
theorem c_X9_hasLast (l : Launch) (dC : Nat → ClassId) (dI : Nat → Nat → Nat) (cI cJ cB cZ : ClassId) (aM : Nat → Nat) (sz : Nat) (M_nodes : Int32) (M_operators : Int32) (M_textSize : Int32) (M_wordCount : Int32) (M_isParsed : Int32) (M_isTaken : Int32) (M_items : Int32) (M_piled : Int32) (M_outSize : Int32) (M_told : Int32) (M_standing : Int32) (M_elements : Nat → Int64) (M_elementCount : Nat → Int32) (p0 : Int32) (res : Int32) (hm : m_X9_hasLast M_elements M_elementCount p0 = some res) : Met l yX9_hasLast wsX9_hasLast rm_X9_hasLast (cP (dC, dI) vwCl [(cI, .int), (cJ, .long), (cB, .byte), (cZ, .boolean)] [.ref (aM 0), .int p0] [((aM 0), .inr (9, oX9 aM M_nodes M_operators M_textSize M_wordCount M_isParsed M_isTaken M_items M_piled M_outSize M_told M_standing)), ((aM 4), .inl (cJ, 270, .inr (.inl M_elements))), ((aM 5), .inl (cI, 30, .inl M_elementCount))] sz) (cQi res (dC, dI) vwCl [((aM 0), .inr (9, oX9 aM M_nodes M_operators M_textSize M_wordCount M_isParsed M_isTaken M_items M_piled M_outSize M_told M_standing)), ((aM 4), .inl (cJ, 270, .inr (.inl M_elements))), ((aM 5), .inl (cI, 30, .inl M_elementCount))] [((aM 0), .inr (9, oX9 aM M_nodes M_operators M_textSize M_wordCount M_isParsed M_isTaken M_items M_piled M_outSize M_told M_standing)), ((aM 4), .inl (cJ, 270, .inr (.inl M_elements))), ((aM 5), .inl (cI, 30, .inl M_elementCount))] sz) 0 0 (va_A [((aM 0), .inr (9, oX9 aM M_nodes M_operators M_textSize M_wordCount M_isParsed M_isTaken M_items M_piled M_outSize M_told M_standing)), ((aM 4), .inl (cJ, 270, .inr (.inl M_elements))), ((aM 5), .inl (cI, 30, .inl M_elementCount))] sz) := by
  refine cx_of (cc := cX9_hasLast) (maxL := 2) (ret := (some .boolean)) (own := RX9) (by decide) rfl rfl (Nat.le_of_ble_eq_true rfl) ?_
  intro p e s m below meth c A C0 hinN hK hN hsz hAe hA hP hD hS ls hl
  refine k_X9_hasLast_E C0 hK hN hA aM M_nodes M_operators M_textSize M_wordCount M_isParsed M_isTaken M_items M_piled M_outSize M_told M_standing M_elements M_elementCount res ?_ p0 hm _ _ hP hD hS ls hl
  intro v he hn pc H locs ls hdg hP hD hS
  have he := Option.some.inj he
  subst he
  exact cx_retz C0 hn hsz hAe hdg hP hD hS

set_option maxRecDepth 20000 in
theorem ggX9_shape_X9_hasLast : GoodIn wsX9_shape wsX9_hasLast := goodIn_r _ [5, 6, 7, 8, 9, 4, 10, 11, 12, 17, 18, 19, 20, 21, 22, 23, 24, 25, 26, 27, 28, 29, 30, 31, 32, 33, 34, 35, 36, 37, 38, 39, 40, 41, 42, 43, 44, 45, 46, 47, 48, 49, 50, 51, 52, 53, 54, 55, 56, 57, 58, 59, 60, 61, 62, 63, 64, 65, 66, 67, 68, 69] (by decide +kernel) (by decide +kernel)
set_option maxRecDepth 20000 in
theorem gX9_shape_X9_hasLast : GoodIn wsX9_shape (wsV RX9 164 RX9 yX9_hasLast wsX9_hasLast) := goodIn_app (goodIn_of _ (by decide +kernel)) ggX9_shape_X9_hasLast
set_option maxRecDepth 20000 in
theorem ggX9_shape_X9_hasFirst : GoodIn wsX9_shape wsX9_hasFirst := goodIn_r _ [16, 7, 8, 9, 4, 10, 11, 12, 17, 18, 19, 20, 21, 22, 23, 24, 25, 26, 27, 28, 29, 30, 31, 32, 33, 34, 35, 36, 37, 38, 39, 40, 41, 42, 43, 44, 45, 46, 47, 48, 49, 50, 51, 52, 53, 54, 55, 56, 57, 58, 59, 60, 61, 62, 63, 64, 65, 66, 67, 68, 69] (by decide +kernel) (by decide +kernel)
set_option maxRecDepth 20000 in
theorem gX9_shape_X9_hasFirst : GoodIn wsX9_shape (wsV RX9 168 RX9 yX9_hasFirst wsX9_hasFirst) := goodIn_app (goodIn_of _ (by decide +kernel)) ggX9_shape_X9_hasFirst
theorem dX9_shape_0 : decode cX9_shape 0 = .ok (.aload_n 0, 1) := by decide +kernel
theorem dX9_shape_1 : decode cX9_shape 1 = .ok (.iload_n 1, 1) := by decide +kernel
theorem dX9_shape_2 : decode cX9_shape 2 = .ok (.invokevirtual 164, 3) := by decide +kernel
theorem dX9_shape_5 : decode cX9_shape 5 = .ok (.ifCond .eq 7, 3) := by decide +kernel
theorem dX9_shape_8 : decode cX9_shape 8 = .ok (.iconst 1, 1) := by decide +kernel
theorem dX9_shape_9 : decode cX9_shape 9 = .ok (.goto 4, 3) := by decide +kernel
theorem dX9_shape_12 : decode cX9_shape 12 = .ok (.iconst 0, 1) := by decide +kernel
theorem dX9_shape_13 : decode cX9_shape 13 = .ok (.aload_n 0, 1) := by decide +kernel
theorem dX9_shape_14 : decode cX9_shape 14 = .ok (.iload_n 1, 1) := by decide +kernel
theorem dX9_shape_15 : decode cX9_shape 15 = .ok (.invokevirtual 168, 3) := by decide +kernel
theorem dX9_shape_18 : decode cX9_shape 18 = .ok (.ifCond .eq 7, 3) := by decide +kernel
theorem dX9_shape_21 : decode cX9_shape 21 = .ok (.iconst 2, 1) := by decide +kernel
theorem dX9_shape_22 : decode cX9_shape 22 = .ok (.goto 4, 3) := by decide +kernel
theorem dX9_shape_25 : decode cX9_shape 25 = .ok (.iconst 0, 1) := by decide +kernel
theorem dX9_shape_26 : decode cX9_shape 26 = .ok (.iadd, 1) := by decide +kernel
theorem dX9_shape_27 : decode cX9_shape 27 = .ok (.ireturn, 1) := by decide +kernel
/-! MixfixDeskModel.shape(I)I -/
abbrev rm_X9_shape : Room := { frames := 2, cells := 0, slots := 0, locals := 43 }
theorem X9_shape_inX9 : ∀ w ∈ wsX90, w ∈ wsX9_shape := by exact fun w h => List.mem_cons_of_mem _ (List.mem_append_right _ h)
abbrev RT_X9_shape (p : Program) (l : Launch) (e : Env) (s : State) (m : MethodId) (args : Array Value) (below : List Frame) (meth : Method) (c : Code) (Q : State → Prop) (dC : Nat → ClassId) (dI : Nat → Nat → Nat) (cI cJ cB cZ : ClassId) (A : Nat → Prop) (aM : Nat → Nat) (M_nodes : Int32) (M_operators : Int32) (M_textSize : Int32) (M_wordCount : Int32) (M_isParsed : Int32) (M_isTaken : Int32) (M_items : Int32) (M_piled : Int32) (M_outSize : Int32) (M_told : Int32) (M_standing : Int32) (M_elements : Nat → Int64) (M_elementCount : Nat → Int32) (res : Int32) : Prop := ∀ (v : Int32) , some v = some res → ∀ (pc : Nat) (H : Heap) (locs : List Loc) (ls : Array Slot), decode cX9_shape pc = .ok (.ireturn, 1) → va_P (dC, dI) vwCl [((aM 0), .inr (9, oX9 aM M_nodes M_operators M_textSize M_wordCount M_isParsed M_isTaken M_items M_piled M_outSize M_told M_standing)), ((aM 4), .inl (cJ, 270, .inr (.inl M_elements))), ((aM 5), .inl (cI, 30, .inl M_elementCount))] H → va_D A [((aM 0), .inr (9, oX9 aM M_nodes M_operators M_textSize M_wordCount M_isParsed M_isTaken M_items M_piled M_outSize M_told M_standing)), ((aM 4), .inl (cJ, 270, .inr (.inl M_elements))), ((aM 5), .inl (cI, 30, .inl M_elementCount))] → va_S A s.heap H locs → W p l e rm_X9_shape s m args below meth c H locs 0 0 Q (F0 m pc ls [.int v])
set_option maxHeartbeats 4000000 in
set_option maxRecDepth 100000 in
theorem k_X9_shape_13 {p : Program} {l : Launch} {e : Env} {s : State} {m : MethodId} {args : Array Value} {below : List Frame} {meth : Method} {c : Code} {Q : State → Prop} {dC : Nat → ClassId} {dI : Nat → Nat → Nat} {cI cJ cB cZ : ClassId} {A : Nat → Prop} (C0 : Cx p s m meth c args cX9_shape 2 (some .int) wsX9_shape RX9) (hK : va_K (dC, dI) vwCl [(cI, .int), (cJ, .long), (cB, .byte), (cZ, .boolean)] s) (hN : NW s) (hA : ∀ q, s.heap.size ≤ q → A q) (aM : Nat → Nat) (M_nodes : Int32) (M_operators : Int32) (M_textSize : Int32) (M_wordCount : Int32) (M_isParsed : Int32) (M_isTaken : Int32) (M_items : Int32) (M_piled : Int32) (M_outSize : Int32) (M_told : Int32) (M_standing : Int32) (M_elements : Nat → Int64) (M_elementCount : Nat → Int32) (res : Int32) (RET : RT_X9_shape p l e s m args below meth c Q dC dI cI cJ cB cZ A aM M_nodes M_operators M_textSize M_wordCount M_isParsed M_isTaken M_items M_piled M_outSize M_told M_standing M_elements M_elementCount res)   : ∀ (x1 : Int32) (y0 : Int32), m_X9_shape_13 M_elements M_elementCount x1 y0 = some res → ∀ (H : Heap) (locs : List Loc), va_P (dC, dI) vwCl [((aM 0), .inr (9, oX9 aM M_nodes M_operators M_textSize M_wordCount M_isParsed M_isTaken M_items M_piled M_outSize M_told M_standing)), ((aM 4), .inl (cJ, 270, .inr (.inl M_elements))), ((aM 5), .inl (cI, 30, .inl M_elementCount))] H → va_D A [((aM 0), .inr (9, oX9 aM M_nodes M_operators M_textSize M_wordCount M_isParsed M_isTaken M_items M_piled M_outSize M_told M_standing)), ((aM 4), .inl (cJ, 270, .inr (.inl M_elements))), ((aM 5), .inl (cI, 30, .inl M_elementCount))] → va_S A s.heap H locs → ∀ (ls : Array Slot), lv_has ls 2 [(0, .ref (aM 0)), (1, .int x1)] → W p l e rm_X9_shape s m args below meth c H locs 0 0 Q (F0 m 13 ls [.int y0]) := by
  obtain ⟨⟨hx, hb, hml, hown, hts⟩, hr, hlocks⟩ := id C0
  intro x1 y0 hm H locs hP hD hS ls hl
  have hm : (Option.bind (m_X9_hasFirst M_elements x1) (fun r_1 => if r_1 = 0 then (some (y0 + 0)) else (some (y0 + 2)))) = some res := hm
  refine lv_aload_n hx hb dX9_shape_13 rfl (lv_at hl 0 rfl) ?_
  refine lv_iload_n hx hb dX9_shape_14 rfl (lv_at hl 1 rfl) ?_
  obtain ⟨r_1, hc_2, hm⟩ := ob_some hm
  refine cx_i (wr := [((aM 5), .inl (cI, 30, .inl M_elementCount))]) (va_runV (As := [.int x1]) (rest := [.int y0]) C0.1 (c_X9_hasFirst l dC dI cI cJ cB cZ aM H.size M_nodes M_operators M_textSize M_wordCount M_isParsed M_isTaken M_items M_piled M_outSize M_told M_standing M_elements x1 r_1 hc_2) (cwV 1 hts gX9_shape_X9_hasFirst rfl rfl rfl (by decide +kernel) ⟨Nat.le_of_ble_eq_true rfl, Nat.le_of_ble_eq_true rfl⟩) (cP_V (ci := 9) (q0 := 0) hK hN hP hD rfl rfl [0, 1] (by decide) rfl) rfl rfl hl.1 rfl (lv_room (Nat.le_of_ble_eq_true rfl)) dX9_shape_15 ⟨Nat.le_of_ble_eq_true rfl, Nat.le_of_ble_eq_true rfl⟩) hP hD hS hA [0, 1] [2] rfl rfl (by decide) (by decide) (fun H locs hP hD hS => ?_)
  have hP : va_P (dC, dI) vwCl [((aM 5), .inl (cI, 30, .inl M_elementCount)), ((aM 0), .inr (9, oX9 aM M_nodes M_operators M_textSize M_wordCount M_isParsed M_isTaken M_items M_piled M_outSize M_told M_standing)), ((aM 4), .inl (cJ, 270, .inr (.inl M_elements)))] H := hP
  have hD : va_D A [((aM 5), .inl (cI, 30, .inl M_elementCount)), ((aM 0), .inr (9, oX9 aM M_nodes M_operators M_textSize M_wordCount M_isParsed M_isTaken M_items M_piled M_outSize M_told M_standing)), ((aM 4), .inl (cJ, 270, .inr (.inl M_elements)))] := hD
  refine lv_if_eq (tgt := 25) hx hb dX9_shape_18 (by decide) (fun c_3 => ?_) (fun c_3 => ?_)
  · have hm := it_some c_3 hm
    refine lv_iconst (v := 0) hx hb dX9_shape_25 (by decide) ?_
    refine lv_iadd hx hb dX9_shape_26 ?_
    exact RET (y0 + 0) hm _ H locs ls dX9_shape_27 (P_sub' hP [1, 2, 0] rfl) (hD.sub [1, 2, 0] (by decide) rfl) hS
  · have hm := if_some' c_3 hm
    refine lv_iconst (v := 2) hx hb dX9_shape_21 (by decide) ?_
    refine lv_goto (tgt := 26) hx hb dX9_shape_22 (by decide) ?_
    refine lv_iadd hx hb dX9_shape_26 ?_
    exact RET (y0 + 2) hm _ H locs ls dX9_shape_27 (P_sub' hP [1, 2, 0] rfl) (hD.sub [1, 2, 0] (by decide) rfl) hS
set_option maxHeartbeats 4000000 in
set_option maxRecDepth 100000 in
theorem k_X9_shape_E {p : Program} {l : Launch} {e : Env} {s : State} {m : MethodId} {args : Array Value} {below : List Frame} {meth : Method} {c : Code} {Q : State → Prop} {dC : Nat → ClassId} {dI : Nat → Nat → Nat} {cI cJ cB cZ : ClassId} {A : Nat → Prop} (C0 : Cx p s m meth c args cX9_shape 2 (some .int) wsX9_shape RX9) (hK : va_K (dC, dI) vwCl [(cI, .int), (cJ, .long), (cB, .byte), (cZ, .boolean)] s) (hN : NW s) (hA : ∀ q, s.heap.size ≤ q → A q) (aM : Nat → Nat) (M_nodes : Int32) (M_operators : Int32) (M_textSize : Int32) (M_wordCount : Int32) (M_isParsed : Int32) (M_isTaken : Int32) (M_items : Int32) (M_piled : Int32) (M_outSize : Int32) (M_told : Int32) (M_standing : Int32) (M_elements : Nat → Int64) (M_elementCount : Nat → Int32) (res : Int32) (RET : RT_X9_shape p l e s m args below meth c Q dC dI cI cJ cB cZ A aM M_nodes M_operators M_textSize M_wordCount M_isParsed M_isTaken M_items M_piled M_outSize M_told M_standing M_elements M_elementCount res) : ∀ (p0 : Int32), m_X9_shape M_elements M_elementCount p0 = some res → ∀ (H : Heap) (locs : List Loc), va_P (dC, dI) vwCl [((aM 0), .inr (9, oX9 aM M_nodes M_operators M_textSize M_wordCount M_isParsed M_isTaken M_items M_piled M_outSize M_told M_standing)), ((aM 4), .inl (cJ, 270, .inr (.inl M_elements))), ((aM 5), .inl (cI, 30, .inl M_elementCount))] H → va_D A [((aM 0), .inr (9, oX9 aM M_nodes M_operators M_textSize M_wordCount M_isParsed M_isTaken M_items M_piled M_outSize M_told M_standing)), ((aM 4), .inl (cJ, 270, .inr (.inl M_elements))), ((aM 5), .inl (cI, 30, .inl M_elementCount))] → va_S A s.heap H locs → ∀ (ls : Array Slot), lv_has ls 2 [(0, .ref (aM 0)), (1, .int p0)] → W p l e rm_X9_shape s m args below meth c H locs 0 0 Q (F0 m 0 ls []) := by
  obtain ⟨⟨hx, hb, hml, hown, hts⟩, hr, hlocks⟩ := id C0
  intro p0 hm H locs hP hD hS ls hl
  have hm : (Option.bind (m_X9_hasLast M_elements M_elementCount p0) (fun r_4 => if r_4 = 0 then (m_X9_shape_13 M_elements M_elementCount p0 0) else (m_X9_shape_13 M_elements M_elementCount p0 1))) = some res := hm
  refine lv_aload_n hx hb dX9_shape_0 rfl (lv_at hl 0 rfl) ?_
  refine lv_iload_n hx hb dX9_shape_1 rfl (lv_at hl 1 rfl) ?_
  obtain ⟨r_4, hc_5, hm⟩ := ob_some hm
  refine cx_i (wr := []) (va_runV (As := [.int p0]) (rest := []) C0.1 (c_X9_hasLast l dC dI cI cJ cB cZ aM H.size M_nodes M_operators M_textSize M_wordCount M_isParsed M_isTaken M_items M_piled M_outSize M_told M_standing M_elements M_elementCount p0 r_4 hc_5) (cwV 1 hts gX9_shape_X9_hasLast rfl rfl rfl (by decide +kernel) ⟨Nat.le_of_ble_eq_true rfl, Nat.le_of_ble_eq_true rfl⟩) (cP_V (ci := 9) (q0 := 0) hK hN hP hD rfl rfl [0, 1, 2] (by decide) rfl) rfl rfl hl.1 rfl (lv_room (Nat.le_of_ble_eq_true rfl)) dX9_shape_2 ⟨Nat.le_of_ble_eq_true rfl, Nat.le_of_ble_eq_true rfl⟩) hP hD hS hA [0, 1, 2] [] rfl rfl (by decide) (by decide) (fun H locs hP hD hS => ?_)
  have hP : va_P (dC, dI) vwCl [((aM 0), .inr (9, oX9 aM M_nodes M_operators M_textSize M_wordCount M_isParsed M_isTaken M_items M_piled M_outSize M_told M_standing)), ((aM 4), .inl (cJ, 270, .inr (.inl M_elements))), ((aM 5), .inl (cI, 30, .inl M_elementCount))] H := hP
  have hD : va_D A [((aM 0), .inr (9, oX9 aM M_nodes M_operators M_textSize M_wordCount M_isParsed M_isTaken M_items M_piled M_outSize M_told M_standing)), ((aM 4), .inl (cJ, 270, .inr (.inl M_elements))), ((aM 5), .inl (cI, 30, .inl M_elementCount))] := hD
  refine lv_if_eq (tgt := 12) hx hb dX9_shape_5 (by decide) (fun c_6 => ?_) (fun c_6 => ?_)
  · have hm := it_some c_6 hm
    refine lv_iconst (v := 0) hx hb dX9_shape_12 (by decide) ?_
    exact k_X9_shape_13 C0 hK hN hA aM M_nodes M_operators M_textSize M_wordCount M_isParsed M_isTaken M_items M_piled M_outSize M_told M_standing M_elements M_elementCount res RET p0 0 hm H locs hP hD hS ls hl
  · have hm := if_some' c_6 hm
    refine lv_iconst (v := 1) hx hb dX9_shape_8 (by decide) ?_
    refine lv_goto (tgt := 13) hx hb dX9_shape_9 (by decide) ?_
    exact k_X9_shape_13 C0 hK hN hA aM M_nodes M_operators M_textSize M_wordCount M_isParsed M_isTaken M_items M_piled M_outSize M_told M_standing M_elements M_elementCount res RET p0 1 hm H locs hP hD hS ls hl
set_option maxHeartbeats 4000000 in
set_option maxRecDepth 100000 in
theorem c_X9_shape (l : Launch) (dC : Nat → ClassId) (dI : Nat → Nat → Nat) (cI cJ cB cZ : ClassId) (aM : Nat → Nat) (sz : Nat) (M_nodes : Int32) (M_operators : Int32) (M_textSize : Int32) (M_wordCount : Int32) (M_isParsed : Int32) (M_isTaken : Int32) (M_items : Int32) (M_piled : Int32) (M_outSize : Int32) (M_told : Int32) (M_standing : Int32) (M_elements : Nat → Int64) (M_elementCount : Nat → Int32) (p0 : Int32) (res : Int32) (hm : m_X9_shape M_elements M_elementCount p0 = some res) : Met l yX9_shape wsX9_shape rm_X9_shape (cP (dC, dI) vwCl [(cI, .int), (cJ, .long), (cB, .byte), (cZ, .boolean)] [.ref (aM 0), .int p0] [((aM 0), .inr (9, oX9 aM M_nodes M_operators M_textSize M_wordCount M_isParsed M_isTaken M_items M_piled M_outSize M_told M_standing)), ((aM 4), .inl (cJ, 270, .inr (.inl M_elements))), ((aM 5), .inl (cI, 30, .inl M_elementCount))] sz) (cQi res (dC, dI) vwCl [((aM 0), .inr (9, oX9 aM M_nodes M_operators M_textSize M_wordCount M_isParsed M_isTaken M_items M_piled M_outSize M_told M_standing)), ((aM 4), .inl (cJ, 270, .inr (.inl M_elements))), ((aM 5), .inl (cI, 30, .inl M_elementCount))] [((aM 0), .inr (9, oX9 aM M_nodes M_operators M_textSize M_wordCount M_isParsed M_isTaken M_items M_piled M_outSize M_told M_standing)), ((aM 4), .inl (cJ, 270, .inr (.inl M_elements))), ((aM 5), .inl (cI, 30, .inl M_elementCount))] sz) 0 0 (va_A [((aM 0), .inr (9, oX9 aM M_nodes M_operators M_textSize M_wordCount M_isParsed M_isTaken M_items M_piled M_outSize M_told M_standing)), ((aM 4), .inl (cJ, 270, .inr (.inl M_elements))), ((aM 5), .inl (cI, 30, .inl M_elementCount))] sz) := by
  refine cx_of (cc := cX9_shape) (maxL := 2) (ret := (some .int)) (own := RX9) (by decide) rfl rfl (Nat.le_of_ble_eq_true rfl) ?_
  intro p e s m below meth c A C0 hinN hK hN hsz hAe hA hP hD hS ls hl
  refine k_X9_shape_E C0 hK hN hA aM M_nodes M_operators M_textSize M_wordCount M_isParsed M_isTaken M_items M_piled M_outSize M_told M_standing M_elements M_elementCount res ?_ p0 hm _ _ hP hD hS ls hl
  intro v he pc H locs ls hdg hP hD hS
  have he := Option.some.inj he
  subst he
  exact cx_reti C0 hsz hAe hdg hP hD hS

theorem dX9_typeOf_0 : decode cX9_typeOf 0 = .ok (.iload_n 2, 1) := by decide +kernel
theorem dX9_typeOf_1 : decode cX9_typeOf 1 = .ok (.ifCond .ne 11, 3) := by decide +kernel
theorem dX9_typeOf_4 : decode cX9_typeOf 4 = .ok (.iconst 1, 1) := by decide +kernel
theorem dX9_typeOf_5 : decode cX9_typeOf 5 = .ok (.iconst 2, 1) := by decide +kernel
theorem dX9_typeOf_6 : decode cX9_typeOf 6 = .ok (.iload_n 1, 1) := by decide +kernel
theorem dX9_typeOf_7 : decode cX9_typeOf 7 = .ok (.imul, 1) := by decide +kernel
theorem dX9_typeOf_8 : decode cX9_typeOf 8 = .ok (.iadd, 1) := by decide +kernel
theorem dX9_typeOf_9 : decode cX9_typeOf 9 = .ok (.goto 24, 3) := by decide +kernel
theorem dX9_typeOf_12 : decode cX9_typeOf 12 = .ok (.iload_n 2, 1) := by decide +kernel
theorem dX9_typeOf_13 : decode cX9_typeOf 13 = .ok (.aload_n 0, 1) := by decide +kernel
theorem dX9_typeOf_14 : decode cX9_typeOf 14 = .ok (.getfield 17, 3) := by decide +kernel
theorem dX9_typeOf_17 : decode cX9_typeOf 17 = .ok (.iload_n 1, 1) := by decide +kernel
theorem dX9_typeOf_18 : decode cX9_typeOf 18 = .ok (.iaload, 1) := by decide +kernel
theorem dX9_typeOf_19 : decode cX9_typeOf 19 = .ok (.iconst 1, 1) := by decide +kernel
theorem dX9_typeOf_20 : decode cX9_typeOf 20 = .ok (.isub, 1) := by decide +kernel
theorem dX9_typeOf_21 : decode cX9_typeOf 21 = .ok (.if_icmp .ne 11, 3) := by decide +kernel
theorem dX9_typeOf_24 : decode cX9_typeOf 24 = .ok (.iconst 2, 1) := by decide +kernel
theorem dX9_typeOf_25 : decode cX9_typeOf 25 = .ok (.iconst 2, 1) := by decide +kernel
theorem dX9_typeOf_26 : decode cX9_typeOf 26 = .ok (.iload_n 1, 1) := by decide +kernel
theorem dX9_typeOf_27 : decode cX9_typeOf 27 = .ok (.imul, 1) := by decide +kernel
theorem dX9_typeOf_28 : decode cX9_typeOf 28 = .ok (.iadd, 1) := by decide +kernel
theorem dX9_typeOf_29 : decode cX9_typeOf 29 = .ok (.goto 4, 3) := by decide +kernel
theorem dX9_typeOf_32 : decode cX9_typeOf 32 = .ok (.iconst 0, 1) := by decide +kernel
theorem dX9_typeOf_33 : decode cX9_typeOf 33 = .ok (.ireturn, 1) := by decide +kernel
/-! MixfixDeskModel.typeOf(II)I -/
abbrev rm_X9_typeOf : Room := { frames := 0, cells := 0, slots := 0, locals := 0 }
theorem X9_typeOf_inX9 : ∀ w ∈ wsX90, w ∈ wsX9_typeOf := by exact fun w h => List.mem_cons_of_mem _ (List.mem_append_right _ h)
abbrev RT_X9_typeOf (p : Program) (l : Launch) (e : Env) (s : State) (m : MethodId) (args : Array Value) (below : List Frame) (meth : Method) (c : Code) (Q : State → Prop) (dC : Nat → ClassId) (dI : Nat → Nat → Nat) (cI cJ cB cZ : ClassId) (A : Nat → Prop) (aM : Nat → Nat) (M_nodes : Int32) (M_operators : Int32) (M_textSize : Int32) (M_wordCount : Int32) (M_isParsed : Int32) (M_isTaken : Int32) (M_items : Int32) (M_piled : Int32) (M_outSize : Int32) (M_told : Int32) (M_standing : Int32) (M_elementCount : Nat → Int32) (res : Int32) : Prop := ∀ (v : Int32) , some v = some res → ∀ (pc : Nat) (H : Heap) (locs : List Loc) (ls : Array Slot), decode cX9_typeOf pc = .ok (.ireturn, 1) → va_P (dC, dI) vwCl [((aM 0), .inr (9, oX9 aM M_nodes M_operators M_textSize M_wordCount M_isParsed M_isTaken M_items M_piled M_outSize M_told M_standing)), ((aM 5), .inl (cI, 30, .inl M_elementCount))] H → va_D A [((aM 0), .inr (9, oX9 aM M_nodes M_operators M_textSize M_wordCount M_isParsed M_isTaken M_items M_piled M_outSize M_told M_standing)), ((aM 5), .inl (cI, 30, .inl M_elementCount))] → va_S A s.heap H locs → W p l e rm_X9_typeOf s m args below meth c H locs 0 0 Q (F0 m pc ls [.int v])
set_option maxHeartbeats 4000000 in
set_option maxRecDepth 100000 in
theorem k_X9_typeOf_E {p : Program} {l : Launch} {e : Env} {s : State} {m : MethodId} {args : Array Value} {below : List Frame} {meth : Method} {c : Code} {Q : State → Prop} {dC : Nat → ClassId} {dI : Nat → Nat → Nat} {cI cJ cB cZ : ClassId} {A : Nat → Prop} (C0 : Cx p s m meth c args cX9_typeOf 3 (some .int) wsX9_typeOf RX9) (hK : va_K (dC, dI) vwCl [(cI, .int), (cJ, .long), (cB, .byte), (cZ, .boolean)] s) (hN : NW s) (hA : ∀ q, s.heap.size ≤ q → A q) (aM : Nat → Nat) (M_nodes : Int32) (M_operators : Int32) (M_textSize : Int32) (M_wordCount : Int32) (M_isParsed : Int32) (M_isTaken : Int32) (M_items : Int32) (M_piled : Int32) (M_outSize : Int32) (M_told : Int32) (M_standing : Int32) (M_elementCount : Nat → Int32) (res : Int32) (RET : RT_X9_typeOf p l e s m args below meth c Q dC dI cI cJ cB cZ A aM M_nodes M_operators M_textSize M_wordCount M_isParsed M_isTaken M_items M_piled M_outSize M_told M_standing M_elementCount res) : ∀ (p0 : Int32) (p1 : Int32), m_X9_typeOf M_elementCount p0 p1 = some res → ∀ (H : Heap) (locs : List Loc), va_P (dC, dI) vwCl [((aM 0), .inr (9, oX9 aM M_nodes M_operators M_textSize M_wordCount M_isParsed M_isTaken M_items M_piled M_outSize M_told M_standing)), ((aM 5), .inl (cI, 30, .inl M_elementCount))] H → va_D A [((aM 0), .inr (9, oX9 aM M_nodes M_operators M_textSize M_wordCount M_isParsed M_isTaken M_items M_piled M_outSize M_told M_standing)), ((aM 5), .inl (cI, 30, .inl M_elementCount))] → va_S A s.heap H locs → ∀ (ls : Array Slot), lv_has ls 3 [(0, .ref (aM 0)), (1, .int p0), (2, .int p1)] → W p l e rm_X9_typeOf s m args below meth c H locs 0 0 Q (F0 m 0 ls []) := by
  obtain ⟨⟨hx, hb, hml, hown, hts⟩, hr, hlocks⟩ := id C0
  intro p0 p1 hm H locs hP hD hS ls hl
  have hm : (if p1 = 0 then (some (1 + (2 * p0))) else (gd p0 30 (if p1 = ((M_elementCount p0.toNatClampNeg) - 1) then (some (2 + (2 * p0))) else (some 0)))) = some res := hm
  refine lv_iload_n hx hb dX9_typeOf_0 rfl (lv_at hl 2 rfl) ?_
  refine lv_if_ne (tgt := 12) hx hb dX9_typeOf_1 (by decide) (fun c_1 => ?_) (fun c_1 => ?_)
  · have hm := if_some' c_1 hm
    refine lv_iload_n hx hb dX9_typeOf_12 rfl (lv_at hl 2 rfl) ?_
    refine lv_aload_n hx hb dX9_typeOf_13 rfl (lv_at hl 0 rfl) ?_
    refine va_get (D := (dC, dI)) (ci := 9) (v := .ref (aM 5)) (C := RX9) (T := TX9) (N := 53) hx hb hts X9_typeOf_inX9 hown hK hP 0 rfl rfl 4 (by decide) (hts (.fieldLink RX9 17 "MixfixDeskModel" "elementCount" "[I") (List.mem_of_getElem? (i := 1) rfl)) (fun _ h9 => h9) rfl dX9_typeOf_14 ?_
    refine lv_iload_n hx hb dX9_typeOf_17 rfl (lv_at hl 1 rfl) ?_
    obtain ⟨hi_2, hm⟩ := gd_some hm
    refine va_iald (D := (dC, dI)) hx hb hK hP 1 0 rfl rfl hi_2 dX9_typeOf_18 ?_
    refine lv_iconst (v := 1) hx hb dX9_typeOf_19 (by decide) ?_
    refine lv_isub hx hb dX9_typeOf_20 ?_
    refine lv_icmp_ne (tgt := 32) hx hb dX9_typeOf_21 (by decide) (fun c_3 => ?_) (fun c_3 => ?_)
    · have hm := if_some' c_3 hm
      refine lv_iconst (v := 0) hx hb dX9_typeOf_32 (by decide) ?_
      exact RET 0 hm _ H locs ls dX9_typeOf_33 hP hD hS
    · have hm := it_some c_3 hm
      refine lv_iconst (v := 2) hx hb dX9_typeOf_24 (by decide) ?_
      refine lv_iconst (v := 2) hx hb dX9_typeOf_25 (by decide) ?_
      refine lv_iload_n hx hb dX9_typeOf_26 rfl (lv_at hl 1 rfl) ?_
      refine lv_imul hx hb dX9_typeOf_27 ?_
      refine lv_iadd hx hb dX9_typeOf_28 ?_
      refine lv_goto (tgt := 33) hx hb dX9_typeOf_29 (by decide) ?_
      exact RET (2 + (2 * p0)) hm _ H locs ls dX9_typeOf_33 hP hD hS
  · have hm := it_some c_1 hm
    refine lv_iconst (v := 1) hx hb dX9_typeOf_4 (by decide) ?_
    refine lv_iconst (v := 2) hx hb dX9_typeOf_5 (by decide) ?_
    refine lv_iload_n hx hb dX9_typeOf_6 rfl (lv_at hl 1 rfl) ?_
    refine lv_imul hx hb dX9_typeOf_7 ?_
    refine lv_iadd hx hb dX9_typeOf_8 ?_
    refine lv_goto (tgt := 33) hx hb dX9_typeOf_9 (by decide) ?_
    exact RET (1 + (2 * p0)) hm _ H locs ls dX9_typeOf_33 hP hD hS
set_option maxHeartbeats 4000000 in
set_option maxRecDepth 100000 in
theorem c_X9_typeOf (l : Launch) (dC : Nat → ClassId) (dI : Nat → Nat → Nat) (cI cJ cB cZ : ClassId) (aM : Nat → Nat) (sz : Nat) (M_nodes : Int32) (M_operators : Int32) (M_textSize : Int32) (M_wordCount : Int32) (M_isParsed : Int32) (M_isTaken : Int32) (M_items : Int32) (M_piled : Int32) (M_outSize : Int32) (M_told : Int32) (M_standing : Int32) (M_elementCount : Nat → Int32) (p0 : Int32) (p1 : Int32) (res : Int32) (hm : m_X9_typeOf M_elementCount p0 p1 = some res) : Met l yX9_typeOf wsX9_typeOf rm_X9_typeOf (cP (dC, dI) vwCl [(cI, .int), (cJ, .long), (cB, .byte), (cZ, .boolean)] [.ref (aM 0), .int p0, .int p1] [((aM 0), .inr (9, oX9 aM M_nodes M_operators M_textSize M_wordCount M_isParsed M_isTaken M_items M_piled M_outSize M_told M_standing)), ((aM 5), .inl (cI, 30, .inl M_elementCount))] sz) (cQi res (dC, dI) vwCl [((aM 0), .inr (9, oX9 aM M_nodes M_operators M_textSize M_wordCount M_isParsed M_isTaken M_items M_piled M_outSize M_told M_standing)), ((aM 5), .inl (cI, 30, .inl M_elementCount))] [((aM 0), .inr (9, oX9 aM M_nodes M_operators M_textSize M_wordCount M_isParsed M_isTaken M_items M_piled M_outSize M_told M_standing)), ((aM 5), .inl (cI, 30, .inl M_elementCount))] sz) 0 0 (va_A [((aM 0), .inr (9, oX9 aM M_nodes M_operators M_textSize M_wordCount M_isParsed M_isTaken M_items M_piled M_outSize M_told M_standing)), ((aM 5), .inl (cI, 30, .inl M_elementCount))] sz) := by
  refine cx_of (cc := cX9_typeOf) (maxL := 3) (ret := (some .int)) (own := RX9) (by decide) rfl rfl (Nat.le_of_ble_eq_true rfl) ?_
  intro p e s m below meth c A C0 hinN hK hN hsz hAe hA hP hD hS ls hl
  refine k_X9_typeOf_E C0 hK hN hA aM M_nodes M_operators M_textSize M_wordCount M_isParsed M_isTaken M_items M_piled M_outSize M_told M_standing M_elementCount res ?_ p0 p1 hm _ _ hP hD hS ls hl
  intro v he pc H locs ls hdg hP hD hS
  have he := Option.some.inj he
  subst he
  exact cx_reti C0 hsz hAe hdg hP hD hS

set_option maxRecDepth 20000 in
theorem ggX9_isLeft_X9_shape : GoodIn wsX9_isLeft wsX9_shape := goodIn_r _ [6, 7, 8, 9, 5, 10, 11, 12, 13, 14, 15, 16, 17, 18, 19, 20, 21, 22, 23, 24, 25, 26, 27, 28, 29, 30, 31, 32, 33, 34, 35, 36, 37, 38, 39, 40, 41, 42, 43, 44, 45, 46, 47, 48, 49, 50, 51, 52, 53, 54, 55, 56, 57, 58, 59, 60, 61, 62, 63, 64, 65, 66, 67, 68, 69, 70, 71, 72, 73, 74] (by decide +kernel) (by decide +kernel)
set_option maxRecDepth 20000 in
theorem gX9_isLeft_X9_shape : GoodIn wsX9_isLeft (wsV RX9 171 RX9 yX9_shape wsX9_shape) := goodIn_app (goodIn_of _ (by decide +kernel)) ggX9_isLeft_X9_shape
theorem dX9_isLeft_0 : decode cX9_isLeft 0 = .ok (.aload_n 0, 1) := by decide +kernel
theorem dX9_isLeft_1 : decode cX9_isLeft 1 = .ok (.iload_n 1, 1) := by decide +kernel
theorem dX9_isLeft_2 : decode cX9_isLeft 2 = .ok (.invokevirtual 171, 3) := by decide +kernel
theorem dX9_isLeft_5 : decode cX9_isLeft 5 = .ok (.iconst 2, 1) := by decide +kernel
theorem dX9_isLeft_6 : decode cX9_isLeft 6 = .ok (.if_icmp .eq 22, 3) := by decide +kernel
theorem dX9_isLeft_9 : decode cX9_isLeft 9 = .ok (.aload_n 0, 1) := by decide +kernel
theorem dX9_isLeft_10 : decode cX9_isLeft 10 = .ok (.iload_n 1, 1) := by decide +kernel
theorem dX9_isLeft_11 : decode cX9_isLeft 11 = .ok (.invokevirtual 171, 3) := by decide +kernel
theorem dX9_isLeft_14 : decode cX9_isLeft 14 = .ok (.iconst 3, 1) := by decide +kernel
theorem dX9_isLeft_15 : decode cX9_isLeft 15 = .ok (.if_icmp .ne 17, 3) := by decide +kernel
theorem dX9_isLeft_18 : decode cX9_isLeft 18 = .ok (.aload_n 0, 1) := by decide +kernel
theorem dX9_isLeft_19 : decode cX9_isLeft 19 = .ok (.getfield 24, 3) := by decide +kernel
theorem dX9_isLeft_22 : decode cX9_isLeft 22 = .ok (.iload_n 1, 1) := by decide +kernel
theorem dX9_isLeft_23 : decode cX9_isLeft 23 = .ok (.iaload, 1) := by decide +kernel
theorem dX9_isLeft_24 : decode cX9_isLeft 24 = .ok (.iconst 1, 1) := by decide +kernel
theorem dX9_isLeft_25 : decode cX9_isLeft 25 = .ok (.if_icmp .ne 7, 3) := by decide +kernel
theorem dX9_isLeft_28 : decode cX9_isLeft 28 = .ok (.iconst 1, 1) := by decide +kernel
theorem dX9_isLeft_29 : decode cX9_isLeft 29 = .ok (.goto 4, 3) := by decide +kernel
theorem dX9_isLeft_32 : decode cX9_isLeft 32 = .ok (.iconst 0, 1) := by decide +kernel
theorem dX9_isLeft_33 : decode cX9_isLeft 33 = .ok (.ireturn, 1) := by decide +kernel
/-! MixfixDeskModel.isLeft(I)Z -/
abbrev rm_X9_isLeft : Room := { frames := 3, cells := 0, slots := 0, locals := 64 }
theorem X9_isLeft_inX9 : ∀ w ∈ wsX90, w ∈ wsX9_isLeft := by exact fun w h => List.mem_cons_of_mem _ (List.mem_append_right _ h)
abbrev RT_X9_isLeft (p : Program) (l : Launch) (e : Env) (s : State) (m : MethodId) (args : Array Value) (below : List Frame) (meth : Method) (c : Code) (Q : State → Prop) (dC : Nat → ClassId) (dI : Nat → Nat → Nat) (cI cJ cB cZ : ClassId) (A : Nat → Prop) (aM : Nat → Nat) (M_nodes : Int32) (M_operators : Int32) (M_textSize : Int32) (M_wordCount : Int32) (M_isParsed : Int32) (M_isTaken : Int32) (M_items : Int32) (M_piled : Int32) (M_outSize : Int32) (M_told : Int32) (M_standing : Int32) (M_elements : Nat → Int64) (M_elementCount : Nat → Int32) (M_wayOf : Nat → Int32) (res : Int32) : Prop := ∀ (v : Int32) , some v = some res → narrow .boolean (.int v) = .int v → ∀ (pc : Nat) (H : Heap) (locs : List Loc) (ls : Array Slot), decode cX9_isLeft pc = .ok (.ireturn, 1) → va_P (dC, dI) vwCl [((aM 0), .inr (9, oX9 aM M_nodes M_operators M_textSize M_wordCount M_isParsed M_isTaken M_items M_piled M_outSize M_told M_standing)), ((aM 4), .inl (cJ, 270, .inr (.inl M_elements))), ((aM 5), .inl (cI, 30, .inl M_elementCount)), ((aM 7), .inl (cI, 30, .inl M_wayOf))] H → va_D A [((aM 0), .inr (9, oX9 aM M_nodes M_operators M_textSize M_wordCount M_isParsed M_isTaken M_items M_piled M_outSize M_told M_standing)), ((aM 4), .inl (cJ, 270, .inr (.inl M_elements))), ((aM 5), .inl (cI, 30, .inl M_elementCount)), ((aM 7), .inl (cI, 30, .inl M_wayOf))] → va_S A s.heap H locs → W p l e rm_X9_isLeft s m args below meth c H locs 0 0 Q (F0 m pc ls [.int v])
set_option maxHeartbeats 4000000 in
set_option maxRecDepth 100000 in
theorem k_X9_isLeft_E {p : Program} {l : Launch} {e : Env} {s : State} {m : MethodId} {args : Array Value} {below : List Frame} {meth : Method} {c : Code} {Q : State → Prop} {dC : Nat → ClassId} {dI : Nat → Nat → Nat} {cI cJ cB cZ : ClassId} {A : Nat → Prop} (C0 : Cx p s m meth c args cX9_isLeft 2 (some .boolean) wsX9_isLeft RX9) (hK : va_K (dC, dI) vwCl [(cI, .int), (cJ, .long), (cB, .byte), (cZ, .boolean)] s) (hN : NW s) (hA : ∀ q, s.heap.size ≤ q → A q) (aM : Nat → Nat) (M_nodes : Int32) (M_operators : Int32) (M_textSize : Int32) (M_wordCount : Int32) (M_isParsed : Int32) (M_isTaken : Int32) (M_items : Int32) (M_piled : Int32) (M_outSize : Int32) (M_told : Int32) (M_standing : Int32) (M_elements : Nat → Int64) (M_elementCount : Nat → Int32) (M_wayOf : Nat → Int32) (res : Int32) (RET : RT_X9_isLeft p l e s m args below meth c Q dC dI cI cJ cB cZ A aM M_nodes M_operators M_textSize M_wordCount M_isParsed M_isTaken M_items M_piled M_outSize M_told M_standing M_elements M_elementCount M_wayOf res) : ∀ (p0 : Int32), m_X9_isLeft M_elements M_elementCount M_wayOf p0 = some res → ∀ (H : Heap) (locs : List Loc), va_P (dC, dI) vwCl [((aM 0), .inr (9, oX9 aM M_nodes M_operators M_textSize M_wordCount M_isParsed M_isTaken M_items M_piled M_outSize M_told M_standing)), ((aM 4), .inl (cJ, 270, .inr (.inl M_elements))), ((aM 5), .inl (cI, 30, .inl M_elementCount)), ((aM 7), .inl (cI, 30, .inl M_wayOf))] H → va_D A [((aM 0), .inr (9, oX9 aM M_nodes M_operators M_textSize M_wordCount M_isParsed M_isTaken M_items M_piled M_outSize M_told M_standing)), ((aM 4), .inl (cJ, 270, .inr (.inl M_elements))), ((aM 5), .inl (cI, 30, .inl M_elementCount)), ((aM 7), .inl (cI, 30, .inl M_wayOf))] → va_S A s.heap H locs → ∀ (ls : Array Slot), lv_has ls 2 [(0, .ref (aM 0)), (1, .int p0)] → W p l e rm_X9_isLeft s m args below meth c H locs 0 0 Q (F0 m 0 ls []) := by
  obtain ⟨⟨hx, hb, hml, hown, hts⟩, hr, hlocks⟩ := id C0
  intro p0 hm H locs hP hD hS ls hl
  have hm : (Option.bind (m_X9_shape M_elements M_elementCount p0) (fun r_1 => if r_1 = 2 then (some 1) else (Option.bind (m_X9_shape M_elements M_elementCount p0) (fun r_4 => if r_4 = 3 then (gd p0 30 (if (M_wayOf p0.toNatClampNeg) = 1 then (some 1) else (some 0))) else (some 0))))) = some res := hm
  refine lv_aload_n hx hb dX9_isLeft_0 rfl (lv_at hl 0 rfl) ?_
  refine lv_iload_n hx hb dX9_isLeft_1 rfl (lv_at hl 1 rfl) ?_
  obtain ⟨r_1, hc_2, hm⟩ := ob_some hm
  refine cx_i (wr := [((aM 7), .inl (cI, 30, .inl M_wayOf))]) (va_runV (As := [.int p0]) (rest := []) C0.1 (c_X9_shape l dC dI cI cJ cB cZ aM H.size M_nodes M_operators M_textSize M_wordCount M_isParsed M_isTaken M_items M_piled M_outSize M_told M_standing M_elements M_elementCount p0 r_1 hc_2) (cwV 1 hts gX9_isLeft_X9_shape rfl rfl rfl (by decide +kernel) ⟨Nat.le_of_ble_eq_true rfl, Nat.le_of_ble_eq_true rfl⟩) (cP_V (ci := 9) (q0 := 0) hK hN hP hD rfl rfl [0, 1, 2] (by decide) rfl) rfl rfl hl.1 rfl (lv_room (Nat.le_of_ble_eq_true rfl)) dX9_isLeft_2 ⟨Nat.le_of_ble_eq_true rfl, Nat.le_of_ble_eq_true rfl⟩) hP hD hS hA [0, 1, 2] [3] rfl rfl (by decide) (by decide) (fun H locs hP hD hS => ?_)
  have hP : va_P (dC, dI) vwCl [((aM 7), .inl (cI, 30, .inl M_wayOf)), ((aM 0), .inr (9, oX9 aM M_nodes M_operators M_textSize M_wordCount M_isParsed M_isTaken M_items M_piled M_outSize M_told M_standing)), ((aM 4), .inl (cJ, 270, .inr (.inl M_elements))), ((aM 5), .inl (cI, 30, .inl M_elementCount))] H := hP
  have hD : va_D A [((aM 7), .inl (cI, 30, .inl M_wayOf)), ((aM 0), .inr (9, oX9 aM M_nodes M_operators M_textSize M_wordCount M_isParsed M_isTaken M_items M_piled M_outSize M_told M_standing)), ((aM 4), .inl (cJ, 270, .inr (.inl M_elements))), ((aM 5), .inl (cI, 30, .inl M_elementCount))] := hD
  refine lv_iconst (v := 2) hx hb dX9_isLeft_5 (by decide) ?_
  refine lv_icmp_eq (tgt := 28) hx hb dX9_isLeft_6 (by decide) (fun c_3 => ?_) (fun c_3 => ?_)
  · have hm := it_some c_3 hm
    refine lv_iconst (v := 1) hx hb dX9_isLeft_28 (by decide) ?_
    refine lv_goto (tgt := 33) hx hb dX9_isLeft_29 (by decide) ?_
    exact RET 1 hm rfl _ H locs ls dX9_isLeft_33 (P_sub' hP [1, 2, 3, 0] rfl) (hD.sub [1, 2, 3, 0] (by decide) rfl) hS
  · have hm := if_some' c_3 hm
    refine lv_aload_n hx hb dX9_isLeft_9 rfl (lv_at hl 0 rfl) ?_
    refine lv_iload_n hx hb dX9_isLeft_10 rfl (lv_at hl 1 rfl) ?_
    obtain ⟨r_4, hc_5, hm⟩ := ob_some hm
    refine cx_i (wr := [((aM 7), .inl (cI, 30, .inl M_wayOf))]) (va_runV (As := [.int p0]) (rest := []) C0.1 (c_X9_shape l dC dI cI cJ cB cZ aM H.size M_nodes M_operators M_textSize M_wordCount M_isParsed M_isTaken M_items M_piled M_outSize M_told M_standing M_elements M_elementCount p0 r_4 hc_5) (cwV 1 hts gX9_isLeft_X9_shape rfl rfl rfl (by decide +kernel) ⟨Nat.le_of_ble_eq_true rfl, Nat.le_of_ble_eq_true rfl⟩) (cP_V (ci := 9) (q0 := 1) hK hN hP hD rfl rfl [1, 2, 3] (by decide) rfl) rfl rfl hl.1 rfl (lv_room (Nat.le_of_ble_eq_true rfl)) dX9_isLeft_11 ⟨Nat.le_of_ble_eq_true rfl, Nat.le_of_ble_eq_true rfl⟩) hP hD hS hA [1, 2, 3] [0] rfl rfl (by decide) (by decide) (fun H locs hP hD hS => ?_)
    have hP : va_P (dC, dI) vwCl [((aM 7), .inl (cI, 30, .inl M_wayOf)), ((aM 0), .inr (9, oX9 aM M_nodes M_operators M_textSize M_wordCount M_isParsed M_isTaken M_items M_piled M_outSize M_told M_standing)), ((aM 4), .inl (cJ, 270, .inr (.inl M_elements))), ((aM 5), .inl (cI, 30, .inl M_elementCount))] H := hP
    have hD : va_D A [((aM 7), .inl (cI, 30, .inl M_wayOf)), ((aM 0), .inr (9, oX9 aM M_nodes M_operators M_textSize M_wordCount M_isParsed M_isTaken M_items M_piled M_outSize M_told M_standing)), ((aM 4), .inl (cJ, 270, .inr (.inl M_elements))), ((aM 5), .inl (cI, 30, .inl M_elementCount))] := hD
    refine lv_iconst (v := 3) hx hb dX9_isLeft_14 (by decide) ?_
    refine lv_icmp_ne (tgt := 32) hx hb dX9_isLeft_15 (by decide) (fun c_6 => ?_) (fun c_6 => ?_)
    · have hm := if_some' c_6 hm
      refine lv_iconst (v := 0) hx hb dX9_isLeft_32 (by decide) ?_
      exact RET 0 hm rfl _ H locs ls dX9_isLeft_33 (P_sub' hP [1, 2, 3, 0] rfl) (hD.sub [1, 2, 3, 0] (by decide) rfl) hS
    · have hm := it_some c_6 hm
      refine lv_aload_n hx hb dX9_isLeft_18 rfl (lv_at hl 0 rfl) ?_
      refine va_get (D := (dC, dI)) (ci := 9) (v := .ref (aM 7)) (C := RX9) (T := TX9) (N := 53) hx hb hts X9_isLeft_inX9 hown hK hP 1 rfl rfl 6 (by decide) (hts (.fieldLink RX9 24 "MixfixDeskModel" "wayOf" "[I") (List.mem_of_getElem? (i := 1) rfl)) (fun _ h9 => h9) rfl dX9_isLeft_19 ?_
      refine lv_iload_n hx hb dX9_isLeft_22 rfl (lv_at hl 1 rfl) ?_
      obtain ⟨hi_7, hm⟩ := gd_some hm
      refine va_iald (D := (dC, dI)) hx hb hK hP 0 0 rfl rfl hi_7 dX9_isLeft_23 ?_
      refine lv_iconst (v := 1) hx hb dX9_isLeft_24 (by decide) ?_
      refine lv_icmp_ne (tgt := 32) hx hb dX9_isLeft_25 (by decide) (fun c_8 => ?_) (fun c_8 => ?_)
      · have hm := if_some' c_8 hm
        refine lv_iconst (v := 0) hx hb dX9_isLeft_32 (by decide) ?_
        exact RET 0 hm rfl _ H locs ls dX9_isLeft_33 (P_sub' hP [1, 2, 3, 0] rfl) (hD.sub [1, 2, 3, 0] (by decide) rfl) hS
      · have hm := it_some c_8 hm
        refine lv_iconst (v := 1) hx hb dX9_isLeft_28 (by decide) ?_
        refine lv_goto (tgt := 33) hx hb dX9_isLeft_29 (by decide) ?_
        exact RET 1 hm rfl _ H locs ls dX9_isLeft_33 (P_sub' hP [1, 2, 3, 0] rfl) (hD.sub [1, 2, 3, 0] (by decide) rfl) hS
set_option maxHeartbeats 4000000 in
set_option maxRecDepth 100000 in
theorem c_X9_isLeft (l : Launch) (dC : Nat → ClassId) (dI : Nat → Nat → Nat) (cI cJ cB cZ : ClassId) (aM : Nat → Nat) (sz : Nat) (M_nodes : Int32) (M_operators : Int32) (M_textSize : Int32) (M_wordCount : Int32) (M_isParsed : Int32) (M_isTaken : Int32) (M_items : Int32) (M_piled : Int32) (M_outSize : Int32) (M_told : Int32) (M_standing : Int32) (M_elements : Nat → Int64) (M_elementCount : Nat → Int32) (M_wayOf : Nat → Int32) (p0 : Int32) (res : Int32) (hm : m_X9_isLeft M_elements M_elementCount M_wayOf p0 = some res) : Met l yX9_isLeft wsX9_isLeft rm_X9_isLeft (cP (dC, dI) vwCl [(cI, .int), (cJ, .long), (cB, .byte), (cZ, .boolean)] [.ref (aM 0), .int p0] [((aM 0), .inr (9, oX9 aM M_nodes M_operators M_textSize M_wordCount M_isParsed M_isTaken M_items M_piled M_outSize M_told M_standing)), ((aM 4), .inl (cJ, 270, .inr (.inl M_elements))), ((aM 5), .inl (cI, 30, .inl M_elementCount)), ((aM 7), .inl (cI, 30, .inl M_wayOf))] sz) (cQi res (dC, dI) vwCl [((aM 0), .inr (9, oX9 aM M_nodes M_operators M_textSize M_wordCount M_isParsed M_isTaken M_items M_piled M_outSize M_told M_standing)), ((aM 4), .inl (cJ, 270, .inr (.inl M_elements))), ((aM 5), .inl (cI, 30, .inl M_elementCount)), ((aM 7), .inl (cI, 30, .inl M_wayOf))] [((aM 0), .inr (9, oX9 aM M_nodes M_operators M_textSize M_wordCount M_isParsed M_isTaken M_items M_piled M_outSize M_told M_standing)), ((aM 4), .inl (cJ, 270, .inr (.inl M_elements))), ((aM 5), .inl (cI, 30, .inl M_elementCount)), ((aM 7), .inl (cI, 30, .inl M_wayOf))] sz) 0 0 (va_A [((aM 0), .inr (9, oX9 aM M_nodes M_operators M_textSize M_wordCount M_isParsed M_isTaken M_items M_piled M_outSize M_told M_standing)), ((aM 4), .inl (cJ, 270, .inr (.inl M_elements))), ((aM 5), .inl (cI, 30, .inl M_elementCount)), ((aM 7), .inl (cI, 30, .inl M_wayOf))] sz) := by
  refine cx_of (cc := cX9_isLeft) (maxL := 2) (ret := (some .boolean)) (own := RX9) (by decide) rfl rfl (Nat.le_of_ble_eq_true rfl) ?_
  intro p e s m below meth c A C0 hinN hK hN hsz hAe hA hP hD hS ls hl
  refine k_X9_isLeft_E C0 hK hN hA aM M_nodes M_operators M_textSize M_wordCount M_isParsed M_isTaken M_items M_piled M_outSize M_told M_standing M_elements M_elementCount M_wayOf res ?_ p0 hm _ _ hP hD hS ls hl
  intro v he hn pc H locs ls hdg hP hD hS
  have he := Option.some.inj he
  subst he
  exact cx_retz C0 hn hsz hAe hdg hP hD hS

set_option maxRecDepth 20000 in
theorem ggX9_isRight_X9_shape : GoodIn wsX9_isRight wsX9_shape := goodIn_r _ [6, 7, 8, 9, 5, 10, 11, 12, 13, 14, 15, 16, 17, 18, 19, 20, 21, 22, 23, 24, 25, 26, 27, 28, 29, 30, 31, 32, 33, 34, 35, 36, 37, 38, 39, 40, 41, 42, 43, 44, 45, 46, 47, 48, 49, 50, 51, 52, 53, 54, 55, 56, 57, 58, 59, 60, 61, 62, 63, 64, 65, 66, 67, 68, 69, 70, 71, 72, 73, 74] (by decide +kernel) (by decide +kernel)
set_option maxRecDepth 20000 in
theorem gX9_isRight_X9_shape : GoodIn wsX9_isRight (wsV RX9 171 RX9 yX9_shape wsX9_shape) := goodIn_app (goodIn_of _ (by decide +kernel)) ggX9_isRight_X9_shape
theorem dX9_isRight_0 : decode cX9_isRight 0 = .ok (.aload_n 0, 1) := by decide +kernel
theorem dX9_isRight_1 : decode cX9_isRight 1 = .ok (.iload_n 1, 1) := by decide +kernel
theorem dX9_isRight_2 : decode cX9_isRight 2 = .ok (.invokevirtual 171, 3) := by decide +kernel
theorem dX9_isRight_5 : decode cX9_isRight 5 = .ok (.iconst 1, 1) := by decide +kernel
theorem dX9_isRight_6 : decode cX9_isRight 6 = .ok (.if_icmp .eq 22, 3) := by decide +kernel
theorem dX9_isRight_9 : decode cX9_isRight 9 = .ok (.aload_n 0, 1) := by decide +kernel
theorem dX9_isRight_10 : decode cX9_isRight 10 = .ok (.iload_n 1, 1) := by decide +kernel
theorem dX9_isRight_11 : decode cX9_isRight 11 = .ok (.invokevirtual 171, 3) := by decide +kernel
theorem dX9_isRight_14 : decode cX9_isRight 14 = .ok (.iconst 3, 1) := by decide +kernel
theorem dX9_isRight_15 : decode cX9_isRight 15 = .ok (.if_icmp .ne 17, 3) := by decide +kernel
theorem dX9_isRight_18 : decode cX9_isRight 18 = .ok (.aload_n 0, 1) := by decide +kernel
theorem dX9_isRight_19 : decode cX9_isRight 19 = .ok (.getfield 24, 3) := by decide +kernel
theorem dX9_isRight_22 : decode cX9_isRight 22 = .ok (.iload_n 1, 1) := by decide +kernel
theorem dX9_isRight_23 : decode cX9_isRight 23 = .ok (.iaload, 1) := by decide +kernel
theorem dX9_isRight_24 : decode cX9_isRight 24 = .ok (.iconst 2, 1) := by decide +kernel
theorem dX9_isRight_25 : decode cX9_isRight 25 = .ok (.if_icmp .ne 7, 3) := by decide +kernel
theorem dX9_isRight_28 : decode cX9_isRight 28 = .ok (.iconst 1, 1) := by decide +kernel
theorem dX9_isRight_29 : decode cX9_isRight 29 = .ok (.goto 4, 3) := by decide +kernel
theorem dX9_isRight_32 : decode cX9_isRight 32 = .ok (.iconst 0, 1) := by decide +kernel
theorem dX9_isRight_33 : decode cX9_isRight 33 = .ok (.ireturn, 1) := by decide +kernel
/-! MixfixDeskModel.isRight(I)Z -/
abbrev rm_X9_isRight : Room := { frames := 3, cells := 0, slots := 0, locals := 64 }
theorem X9_isRight_inX9 : ∀ w ∈ wsX90, w ∈ wsX9_isRight := by exact fun w h => List.mem_cons_of_mem _ (List.mem_append_right _ h)
abbrev RT_X9_isRight (p : Program) (l : Launch) (e : Env) (s : State) (m : MethodId) (args : Array Value) (below : List Frame) (meth : Method) (c : Code) (Q : State → Prop) (dC : Nat → ClassId) (dI : Nat → Nat → Nat) (cI cJ cB cZ : ClassId) (A : Nat → Prop) (aM : Nat → Nat) (M_nodes : Int32) (M_operators : Int32) (M_textSize : Int32) (M_wordCount : Int32) (M_isParsed : Int32) (M_isTaken : Int32) (M_items : Int32) (M_piled : Int32) (M_outSize : Int32) (M_told : Int32) (M_standing : Int32) (M_elements : Nat → Int64) (M_elementCount : Nat → Int32) (M_wayOf : Nat → Int32) (res : Int32) : Prop := ∀ (v : Int32) , some v = some res → narrow .boolean (.int v) = .int v → ∀ (pc : Nat) (H : Heap) (locs : List Loc) (ls : Array Slot), decode cX9_isRight pc = .ok (.ireturn, 1) → va_P (dC, dI) vwCl [((aM 0), .inr (9, oX9 aM M_nodes M_operators M_textSize M_wordCount M_isParsed M_isTaken M_items M_piled M_outSize M_told M_standing)), ((aM 4), .inl (cJ, 270, .inr (.inl M_elements))), ((aM 5), .inl (cI, 30, .inl M_elementCount)), ((aM 7), .inl (cI, 30, .inl M_wayOf))] H → va_D A [((aM 0), .inr (9, oX9 aM M_nodes M_operators M_textSize M_wordCount M_isParsed M_isTaken M_items M_piled M_outSize M_told M_standing)), ((aM 4), .inl (cJ, 270, .inr (.inl M_elements))), ((aM 5), .inl (cI, 30, .inl M_elementCount)), ((aM 7), .inl (cI, 30, .inl M_wayOf))] → va_S A s.heap H locs → W p l e rm_X9_isRight s m args below meth c H locs 0 0 Q (F0 m pc ls [.int v])
set_option maxHeartbeats 4000000 in
set_option maxRecDepth 100000 in
theorem k_X9_isRight_E {p : Program} {l : Launch} {e : Env} {s : State} {m : MethodId} {args : Array Value} {below : List Frame} {meth : Method} {c : Code} {Q : State → Prop} {dC : Nat → ClassId} {dI : Nat → Nat → Nat} {cI cJ cB cZ : ClassId} {A : Nat → Prop} (C0 : Cx p s m meth c args cX9_isRight 2 (some .boolean) wsX9_isRight RX9) (hK : va_K (dC, dI) vwCl [(cI, .int), (cJ, .long), (cB, .byte), (cZ, .boolean)] s) (hN : NW s) (hA : ∀ q, s.heap.size ≤ q → A q) (aM : Nat → Nat) (M_nodes : Int32) (M_operators : Int32) (M_textSize : Int32) (M_wordCount : Int32) (M_isParsed : Int32) (M_isTaken : Int32) (M_items : Int32) (M_piled : Int32) (M_outSize : Int32) (M_told : Int32) (M_standing : Int32) (M_elements : Nat → Int64) (M_elementCount : Nat → Int32) (M_wayOf : Nat → Int32) (res : Int32) (RET : RT_X9_isRight p l e s m args below meth c Q dC dI cI cJ cB cZ A aM M_nodes M_operators M_textSize M_wordCount M_isParsed M_isTaken M_items M_piled M_outSize M_told M_standing M_elements M_elementCount M_wayOf res) : ∀ (p0 : Int32), m_X9_isRight M_elements M_elementCount M_wayOf p0 = some res → ∀ (H : Heap) (locs : List Loc), va_P (dC, dI) vwCl [((aM 0), .inr (9, oX9 aM M_nodes M_operators M_textSize M_wordCount M_isParsed M_isTaken M_items M_piled M_outSize M_told M_standing)), ((aM 4), .inl (cJ, 270, .inr (.inl M_elements))), ((aM 5), .inl (cI, 30, .inl M_elementCount)), ((aM 7), .inl (cI, 30, .inl M_wayOf))] H → va_D A [((aM 0), .inr (9, oX9 aM M_nodes M_operators M_textSize M_wordCount M_isParsed M_isTaken M_items M_piled M_outSize M_told M_standing)), ((aM 4), .inl (cJ, 270, .inr (.inl M_elements))), ((aM 5), .inl (cI, 30, .inl M_elementCount)), ((aM 7), .inl (cI, 30, .inl M_wayOf))] → va_S A s.heap H locs → ∀ (ls : Array Slot), lv_has ls 2 [(0, .ref (aM 0)), (1, .int p0)] → W p l e rm_X9_isRight s m args below meth c H locs 0 0 Q (F0 m 0 ls []) := by
  obtain ⟨⟨hx, hb, hml, hown, hts⟩, hr, hlocks⟩ := id C0
  intro p0 hm H locs hP hD hS ls hl
  have hm : (Option.bind (m_X9_shape M_elements M_elementCount p0) (fun r_1 => if r_1 = 1 then (some 1) else (Option.bind (m_X9_shape M_elements M_elementCount p0) (fun r_4 => if r_4 = 3 then (gd p0 30 (if (M_wayOf p0.toNatClampNeg) = 2 then (some 1) else (some 0))) else (some 0))))) = some res := hm
  refine lv_aload_n hx hb dX9_isRight_0 rfl (lv_at hl 0 rfl) ?_
  refine lv_iload_n hx hb dX9_isRight_1 rfl (lv_at hl 1 rfl) ?_
  obtain ⟨r_1, hc_2, hm⟩ := ob_some hm
  refine cx_i (wr := [((aM 7), .inl (cI, 30, .inl M_wayOf))]) (va_runV (As := [.int p0]) (rest := []) C0.1 (c_X9_shape l dC dI cI cJ cB cZ aM H.size M_nodes M_operators M_textSize M_wordCount M_isParsed M_isTaken M_items M_piled M_outSize M_told M_standing M_elements M_elementCount p0 r_1 hc_2) (cwV 1 hts gX9_isRight_X9_shape rfl rfl rfl (by decide +kernel) ⟨Nat.le_of_ble_eq_true rfl, Nat.le_of_ble_eq_true rfl⟩) (cP_V (ci := 9) (q0 := 0) hK hN hP hD rfl rfl [0, 1, 2] (by decide) rfl) rfl rfl hl.1 rfl (lv_room (Nat.le_of_ble_eq_true rfl)) dX9_isRight_2 ⟨Nat.le_of_ble_eq_true rfl, Nat.le_of_ble_eq_true rfl⟩) hP hD hS hA [0, 1, 2] [3] rfl rfl (by decide) (by decide) (fun H locs hP hD hS => ?_)
  have hP : va_P (dC, dI) vwCl [((aM 7), .inl (cI, 30, .inl M_wayOf)), ((aM 0), .inr (9, oX9 aM M_nodes M_operators M_textSize M_wordCount M_isParsed M_isTaken M_items M_piled M_outSize M_told M_standing)), ((aM 4), .inl (cJ, 270, .inr (.inl M_elements))), ((aM 5), .inl (cI, 30, .inl M_elementCount))] H := hP
  have hD : va_D A [((aM 7), .inl (cI, 30, .inl M_wayOf)), ((aM 0), .inr (9, oX9 aM M_nodes M_operators M_textSize M_wordCount M_isParsed M_isTaken M_items M_piled M_outSize M_told M_standing)), ((aM 4), .inl (cJ, 270, .inr (.inl M_elements))), ((aM 5), .inl (cI, 30, .inl M_elementCount))] := hD
  refine lv_iconst (v := 1) hx hb dX9_isRight_5 (by decide) ?_
  refine lv_icmp_eq (tgt := 28) hx hb dX9_isRight_6 (by decide) (fun c_3 => ?_) (fun c_3 => ?_)
  · have hm := it_some c_3 hm
    refine lv_iconst (v := 1) hx hb dX9_isRight_28 (by decide) ?_
    refine lv_goto (tgt := 33) hx hb dX9_isRight_29 (by decide) ?_
    exact RET 1 hm rfl _ H locs ls dX9_isRight_33 (P_sub' hP [1, 2, 3, 0] rfl) (hD.sub [1, 2, 3, 0] (by decide) rfl) hS
  · have hm := if_some' c_3 hm
    refine lv_aload_n hx hb dX9_isRight_9 rfl (lv_at hl 0 rfl) ?_
    refine lv_iload_n hx hb dX9_isRight_10 rfl (lv_at hl 1 rfl) ?_
    obtain ⟨r_4, hc_5, hm⟩ := ob_some hm
    refine cx_i (wr := [((aM 7), .inl (cI, 30, .inl M_wayOf))]) (va_runV (As := [.int p0]) (rest := []) C0.1 (c_X9_shape l dC dI cI cJ cB cZ aM H.size M_nodes M_operators M_textSize M_wordCount M_isParsed M_isTaken M_items M_piled M_outSize M_told M_standing M_elements M_elementCount p0 r_4 hc_5) (cwV 1 hts gX9_isRight_X9_shape rfl rfl rfl (by decide +kernel) ⟨Nat.le_of_ble_eq_true rfl, Nat.le_of_ble_eq_true rfl⟩) (cP_V (ci := 9) (q0 := 1) hK hN hP hD rfl rfl [1, 2, 3] (by decide) rfl) rfl rfl hl.1 rfl (lv_room (Nat.le_of_ble_eq_true rfl)) dX9_isRight_11 ⟨Nat.le_of_ble_eq_true rfl, Nat.le_of_ble_eq_true rfl⟩) hP hD hS hA [1, 2, 3] [0] rfl rfl (by decide) (by decide) (fun H locs hP hD hS => ?_)
    have hP : va_P (dC, dI) vwCl [((aM 7), .inl (cI, 30, .inl M_wayOf)), ((aM 0), .inr (9, oX9 aM M_nodes M_operators M_textSize M_wordCount M_isParsed M_isTaken M_items M_piled M_outSize M_told M_standing)), ((aM 4), .inl (cJ, 270, .inr (.inl M_elements))), ((aM 5), .inl (cI, 30, .inl M_elementCount))] H := hP
    have hD : va_D A [((aM 7), .inl (cI, 30, .inl M_wayOf)), ((aM 0), .inr (9, oX9 aM M_nodes M_operators M_textSize M_wordCount M_isParsed M_isTaken M_items M_piled M_outSize M_told M_standing)), ((aM 4), .inl (cJ, 270, .inr (.inl M_elements))), ((aM 5), .inl (cI, 30, .inl M_elementCount))] := hD
    refine lv_iconst (v := 3) hx hb dX9_isRight_14 (by decide) ?_
    refine lv_icmp_ne (tgt := 32) hx hb dX9_isRight_15 (by decide) (fun c_6 => ?_) (fun c_6 => ?_)
    · have hm := if_some' c_6 hm
      refine lv_iconst (v := 0) hx hb dX9_isRight_32 (by decide) ?_
      exact RET 0 hm rfl _ H locs ls dX9_isRight_33 (P_sub' hP [1, 2, 3, 0] rfl) (hD.sub [1, 2, 3, 0] (by decide) rfl) hS
    · have hm := it_some c_6 hm
      refine lv_aload_n hx hb dX9_isRight_18 rfl (lv_at hl 0 rfl) ?_
      refine va_get (D := (dC, dI)) (ci := 9) (v := .ref (aM 7)) (C := RX9) (T := TX9) (N := 53) hx hb hts X9_isRight_inX9 hown hK hP 1 rfl rfl 6 (by decide) (hts (.fieldLink RX9 24 "MixfixDeskModel" "wayOf" "[I") (List.mem_of_getElem? (i := 1) rfl)) (fun _ h9 => h9) rfl dX9_isRight_19 ?_
      refine lv_iload_n hx hb dX9_isRight_22 rfl (lv_at hl 1 rfl) ?_
      obtain ⟨hi_7, hm⟩ := gd_some hm
      refine va_iald (D := (dC, dI)) hx hb hK hP 0 0 rfl rfl hi_7 dX9_isRight_23 ?_
      refine lv_iconst (v := 2) hx hb dX9_isRight_24 (by decide) ?_
      refine lv_icmp_ne (tgt := 32) hx hb dX9_isRight_25 (by decide) (fun c_8 => ?_) (fun c_8 => ?_)
      · have hm := if_some' c_8 hm
        refine lv_iconst (v := 0) hx hb dX9_isRight_32 (by decide) ?_
        exact RET 0 hm rfl _ H locs ls dX9_isRight_33 (P_sub' hP [1, 2, 3, 0] rfl) (hD.sub [1, 2, 3, 0] (by decide) rfl) hS
      · have hm := it_some c_8 hm
        refine lv_iconst (v := 1) hx hb dX9_isRight_28 (by decide) ?_
        refine lv_goto (tgt := 33) hx hb dX9_isRight_29 (by decide) ?_
        exact RET 1 hm rfl _ H locs ls dX9_isRight_33 (P_sub' hP [1, 2, 3, 0] rfl) (hD.sub [1, 2, 3, 0] (by decide) rfl) hS
set_option maxHeartbeats 4000000 in
set_option maxRecDepth 100000 in
theorem c_X9_isRight (l : Launch) (dC : Nat → ClassId) (dI : Nat → Nat → Nat) (cI cJ cB cZ : ClassId) (aM : Nat → Nat) (sz : Nat) (M_nodes : Int32) (M_operators : Int32) (M_textSize : Int32) (M_wordCount : Int32) (M_isParsed : Int32) (M_isTaken : Int32) (M_items : Int32) (M_piled : Int32) (M_outSize : Int32) (M_told : Int32) (M_standing : Int32) (M_elements : Nat → Int64) (M_elementCount : Nat → Int32) (M_wayOf : Nat → Int32) (p0 : Int32) (res : Int32) (hm : m_X9_isRight M_elements M_elementCount M_wayOf p0 = some res) : Met l yX9_isRight wsX9_isRight rm_X9_isRight (cP (dC, dI) vwCl [(cI, .int), (cJ, .long), (cB, .byte), (cZ, .boolean)] [.ref (aM 0), .int p0] [((aM 0), .inr (9, oX9 aM M_nodes M_operators M_textSize M_wordCount M_isParsed M_isTaken M_items M_piled M_outSize M_told M_standing)), ((aM 4), .inl (cJ, 270, .inr (.inl M_elements))), ((aM 5), .inl (cI, 30, .inl M_elementCount)), ((aM 7), .inl (cI, 30, .inl M_wayOf))] sz) (cQi res (dC, dI) vwCl [((aM 0), .inr (9, oX9 aM M_nodes M_operators M_textSize M_wordCount M_isParsed M_isTaken M_items M_piled M_outSize M_told M_standing)), ((aM 4), .inl (cJ, 270, .inr (.inl M_elements))), ((aM 5), .inl (cI, 30, .inl M_elementCount)), ((aM 7), .inl (cI, 30, .inl M_wayOf))] [((aM 0), .inr (9, oX9 aM M_nodes M_operators M_textSize M_wordCount M_isParsed M_isTaken M_items M_piled M_outSize M_told M_standing)), ((aM 4), .inl (cJ, 270, .inr (.inl M_elements))), ((aM 5), .inl (cI, 30, .inl M_elementCount)), ((aM 7), .inl (cI, 30, .inl M_wayOf))] sz) 0 0 (va_A [((aM 0), .inr (9, oX9 aM M_nodes M_operators M_textSize M_wordCount M_isParsed M_isTaken M_items M_piled M_outSize M_told M_standing)), ((aM 4), .inl (cJ, 270, .inr (.inl M_elements))), ((aM 5), .inl (cI, 30, .inl M_elementCount)), ((aM 7), .inl (cI, 30, .inl M_wayOf))] sz) := by
  refine cx_of (cc := cX9_isRight) (maxL := 2) (ret := (some .boolean)) (own := RX9) (by decide) rfl rfl (Nat.le_of_ble_eq_true rfl) ?_
  intro p e s m below meth c A C0 hinN hK hN hsz hAe hA hP hD hS ls hl
  refine k_X9_isRight_E C0 hK hN hA aM M_nodes M_operators M_textSize M_wordCount M_isParsed M_isTaken M_items M_piled M_outSize M_told M_standing M_elements M_elementCount M_wayOf res ?_ p0 hm _ _ hP hD hS ls hl
  intro v he hn pc H locs ls hdg hP hD hS
  have he := Option.some.inj he
  subst he
  exact cx_retz C0 hn hsz hAe hdg hP hD hS

