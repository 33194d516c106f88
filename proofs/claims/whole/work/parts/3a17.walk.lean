theorem dX9_item_0 : decode cX9_item 0 = .ok (.aload_n 0, 1) := by decide +kernel
theorem dX9_item_1 : decode cX9_item 1 = .ok (.getfield 219, 3) := by decide +kernel
theorem dX9_item_4 : decode cX9_item 4 = .ok (.ifCond .ne 6, 3) := by decide +kernel
theorem dX9_item_7 : decode cX9_item 7 = .ok (.bipush (-3), 2) := by decide +kernel
theorem dX9_item_9 : decode cX9_item 9 = .ok (.ireturn, 1) := by decide +kernel
theorem dX9_item_10 : decode cX9_item 10 = .ok (.iload_n 1, 1) := by decide +kernel
theorem dX9_item_11 : decode cX9_item 11 = .ok (.ifCond .lt 11, 3) := by decide +kernel
theorem dX9_item_14 : decode cX9_item 14 = .ok (.iload_n 1, 1) := by decide +kernel
theorem dX9_item_15 : decode cX9_item 15 = .ok (.aload_n 0, 1) := by decide +kernel
theorem dX9_item_16 : decode cX9_item 16 = .ok (.getfield 261, 3) := by decide +kernel
theorem dX9_item_19 : decode cX9_item 19 = .ok (.if_icmp .lt 5, 3) := by decide +kernel
theorem dX9_item_22 : decode cX9_item 22 = .ok (.iconst (-1), 1) := by decide +kernel
theorem dX9_item_23 : decode cX9_item 23 = .ok (.ireturn, 1) := by decide +kernel
theorem dX9_item_24 : decode cX9_item 24 = .ok (.iload_n 2, 1) := by decide +kernel
theorem dX9_item_25 : decode cX9_item 25 = .ok (.ifCond .ne 12, 3) := by decide +kernel
theorem dX9_item_28 : decode cX9_item 28 = .ok (.aload_n 0, 1) := by decide +kernel
theorem dX9_item_29 : decode cX9_item 29 = .ok (.getfield 56, 3) := by decide +kernel
theorem dX9_item_32 : decode cX9_item 32 = .ok (.iload_n 1, 1) := by decide +kernel
theorem dX9_item_33 : decode cX9_item 33 = .ok (.iaload, 1) := by decide +kernel
theorem dX9_item_34 : decode cX9_item 34 = .ok (.goto 47, 3) := by decide +kernel
theorem dX9_item_37 : decode cX9_item 37 = .ok (.iload_n 2, 1) := by decide +kernel
theorem dX9_item_38 : decode cX9_item 38 = .ok (.iconst 1, 1) := by decide +kernel
theorem dX9_item_39 : decode cX9_item 39 = .ok (.if_icmp .ne 12, 3) := by decide +kernel
theorem dX9_item_42 : decode cX9_item 42 = .ok (.aload_n 0, 1) := by decide +kernel
theorem dX9_item_43 : decode cX9_item 43 = .ok (.getfield 59, 3) := by decide +kernel
theorem dX9_item_46 : decode cX9_item 46 = .ok (.iload_n 1, 1) := by decide +kernel
theorem dX9_item_47 : decode cX9_item 47 = .ok (.iaload, 1) := by decide +kernel
theorem dX9_item_48 : decode cX9_item 48 = .ok (.goto 33, 3) := by decide +kernel
theorem dX9_item_51 : decode cX9_item 51 = .ok (.iload_n 2, 1) := by decide +kernel
theorem dX9_item_52 : decode cX9_item 52 = .ok (.iconst 2, 1) := by decide +kernel
theorem dX9_item_53 : decode cX9_item 53 = .ok (.if_icmp .ne 12, 3) := by decide +kernel
theorem dX9_item_56 : decode cX9_item 56 = .ok (.aload_n 0, 1) := by decide +kernel
theorem dX9_item_57 : decode cX9_item 57 = .ok (.getfield 62, 3) := by decide +kernel
theorem dX9_item_60 : decode cX9_item 60 = .ok (.iload_n 1, 1) := by decide +kernel
theorem dX9_item_61 : decode cX9_item 61 = .ok (.iaload, 1) := by decide +kernel
theorem dX9_item_62 : decode cX9_item 62 = .ok (.goto 19, 3) := by decide +kernel
theorem dX9_item_65 : decode cX9_item 65 = .ok (.iload_n 2, 1) := by decide +kernel
theorem dX9_item_66 : decode cX9_item 66 = .ok (.iconst 3, 1) := by decide +kernel
theorem dX9_item_67 : decode cX9_item 67 = .ok (.if_icmp .ne 12, 3) := by decide +kernel
theorem dX9_item_70 : decode cX9_item 70 = .ok (.aload_n 0, 1) := by decide +kernel
theorem dX9_item_71 : decode cX9_item 71 = .ok (.getfield 65, 3) := by decide +kernel
theorem dX9_item_74 : decode cX9_item 74 = .ok (.iload_n 1, 1) := by decide +kernel
theorem dX9_item_75 : decode cX9_item 75 = .ok (.iaload, 1) := by decide +kernel
theorem dX9_item_76 : decode cX9_item 76 = .ok (.goto 5, 3) := by decide +kernel
theorem dX9_item_79 : decode cX9_item 79 = .ok (.bipush (-2), 2) := by decide +kernel
theorem dX9_item_81 : decode cX9_item 81 = .ok (.ireturn, 1) := by decide +kernel
/-! MixfixDeskModel.item(II)I -/
abbrev rm_X9_item : Room := { frames := 0, cells := 0, slots := 0, locals := 0 }
theorem X9_item_inX9 : ∀ w ∈ wsX90, w ∈ wsX9_item := by exact fun w h => List.mem_cons_of_mem _ (List.mem_append_right _ h)
abbrev RT_X9_item (p : Program) (l : Launch) (e : Env) (s : State) (m : MethodId) (args : Array Value) (below : List Frame) (meth : Method) (c : Code) (Q : State → Prop) (dC : Nat → ClassId) (dI : Nat → Nat → Nat) (cI cJ cB cZ : ClassId) (A : Nat → Prop) (aM : Nat → Nat) (M_nodes : Int32) (M_operators : Int32) (M_textSize : Int32) (M_wordCount : Int32) (M_isParsed : Int32) (M_isTaken : Int32) (M_items : Int32) (M_piled : Int32) (M_outSize : Int32) (M_told : Int32) (M_standing : Int32) (M_itemOperator : Nat → Int32) (M_itemFirst : Nat → Int32) (M_itemWords : Nat → Int32) (M_itemDepth : Nat → Int32) (res : Int32) : Prop := ∀ (v : Int32) , some v = some res → ∀ (pc : Nat) (H : Heap) (locs : List Loc) (ls : Array Slot), decode cX9_item pc = .ok (.ireturn, 1) → va_P (dC, dI) vwCl [((aM 0), .inr (9, oX9 aM M_nodes M_operators M_textSize M_wordCount M_isParsed M_isTaken M_items M_piled M_outSize M_told M_standing)), ((aM 21), .inl (cI, 100, .inl M_itemOperator)), ((aM 22), .inl (cI, 100, .inl M_itemFirst)), ((aM 23), .inl (cI, 100, .inl M_itemWords)), ((aM 24), .inl (cI, 100, .inl M_itemDepth))] H → va_D A [((aM 0), .inr (9, oX9 aM M_nodes M_operators M_textSize M_wordCount M_isParsed M_isTaken M_items M_piled M_outSize M_told M_standing)), ((aM 21), .inl (cI, 100, .inl M_itemOperator)), ((aM 22), .inl (cI, 100, .inl M_itemFirst)), ((aM 23), .inl (cI, 100, .inl M_itemWords)), ((aM 24), .inl (cI, 100, .inl M_itemDepth))] → va_S A s.heap H locs → W p l e rm_X9_item s m args below meth c H locs 0 0 Q (F0 m pc ls [.int v])
set_option maxHeartbeats 4000000 in
set_option maxRecDepth 100000 in
theorem k_X9_item_E {p : Program} {l : Launch} {e : Env} {s : State} {m : MethodId} {args : Array Value} {below : List Frame} {meth : Method} {c : Code} {Q : State → Prop} {dC : Nat → ClassId} {dI : Nat → Nat → Nat} {cI cJ cB cZ : ClassId} {A : Nat → Prop} (C0 : Cx p s m meth c args cX9_item 3 (some .int) wsX9_item RX9) (hK : va_K (dC, dI) vwCl [(cI, .int), (cJ, .long), (cB, .byte), (cZ, .boolean)] s) (hN : NW s) (hA : ∀ q, s.heap.size ≤ q → A q) (aM : Nat → Nat) (M_nodes : Int32) (M_operators : Int32) (M_textSize : Int32) (M_wordCount : Int32) (M_isParsed : Int32) (M_isTaken : Int32) (M_items : Int32) (M_piled : Int32) (M_outSize : Int32) (M_told : Int32) (M_standing : Int32) (M_itemOperator : Nat → Int32) (M_itemFirst : Nat → Int32) (M_itemWords : Nat → Int32) (M_itemDepth : Nat → Int32) (res : Int32) (RET : RT_X9_item p l e s m args below meth c Q dC dI cI cJ cB cZ A aM M_nodes M_operators M_textSize M_wordCount M_isParsed M_isTaken M_items M_piled M_outSize M_told M_standing M_itemOperator M_itemFirst M_itemWords M_itemDepth res) : ∀ (p0 : Int32) (p1 : Int32), m_X9_item M_isTaken M_itemOperator M_itemFirst M_itemWords M_itemDepth M_items p0 p1 = some res → ∀ (H : Heap) (locs : List Loc), va_P (dC, dI) vwCl [((aM 0), .inr (9, oX9 aM M_nodes M_operators M_textSize M_wordCount M_isParsed M_isTaken M_items M_piled M_outSize M_told M_standing)), ((aM 21), .inl (cI, 100, .inl M_itemOperator)), ((aM 22), .inl (cI, 100, .inl M_itemFirst)), ((aM 23), .inl (cI, 100, .inl M_itemWords)), ((aM 24), .inl (cI, 100, .inl M_itemDepth))] H → va_D A [((aM 0), .inr (9, oX9 aM M_nodes M_operators M_textSize M_wordCount M_isParsed M_isTaken M_items M_piled M_outSize M_told M_standing)), ((aM 21), .inl (cI, 100, .inl M_itemOperator)), ((aM 22), .inl (cI, 100, .inl M_itemFirst)), ((aM 23), .inl (cI, 100, .inl M_itemWords)), ((aM 24), .inl (cI, 100, .inl M_itemDepth))] → va_S A s.heap H locs → ∀ (ls : Array Slot), lv_has ls 3 [(0, .ref (aM 0)), (1, .int p0), (2, .int p1)] → W p l e rm_X9_item s m args below meth c H locs 0 0 Q (F0 m 0 ls []) := by
  obtain ⟨⟨hx, hb, hml, hown, hts⟩, hr, hlocks⟩ := id C0
  intro p0 p1 hm H locs hP hD hS ls hl
  have hm : (if M_isTaken = 0 then (some (-3)) else (if p0 < 0 then (some (-1)) else (if p0 < M_items then (if p1 = 0 then (gd p0 100 (some (M_itemOperator p0.toNatClampNeg))) else (if p1 = 1 then (gd p0 100 (some (M_itemFirst p0.toNatClampNeg))) else (if p1 = 2 then (gd p0 100 (some (M_itemWords p0.toNatClampNeg))) else (if p1 = 3 then (gd p0 100 (some (M_itemDepth p0.toNatClampNeg))) else (some (-2)))))) else (some (-1))))) = some res := hm
  refine lv_aload_n hx hb dX9_item_0 rfl (lv_at hl 0 rfl) ?_
  refine va_get (D := (dC, dI)) (ci := 9) (v := .int M_isTaken) (C := RX9) (T := TX9) (N := 53) hx hb hts X9_item_inX9 hown hK hP 0 rfl rfl 19 (by decide) (hts (.fieldLink RX9 219 "MixfixDeskModel" "isTaken" "Z") (List.mem_of_getElem? (i := 1) rfl)) (fun _ h9 => h9) rfl dX9_item_1 ?_
  refine lv_if_ne (tgt := 10) hx hb dX9_item_4 (by decide) (fun c_1 => ?_) (fun c_1 => ?_)
  · have hm := if_some' c_1 hm
    refine lv_iload_n hx hb dX9_item_10 rfl (lv_at hl 1 rfl) ?_
    refine lv_if_lt (tgt := 22) hx hb dX9_item_11 (by decide) (fun c_2 => ?_) (fun c_2 => ?_)
    · have hm := it_some c_2 hm
      refine lv_iconst (v := (-1)) hx hb dX9_item_22 (by decide) ?_
      exact RET (-1) hm _ H locs ls dX9_item_23 hP hD hS
    · have hm := if_some' c_2 hm
      refine lv_iload_n hx hb dX9_item_14 rfl (lv_at hl 1 rfl) ?_
      refine lv_aload_n hx hb dX9_item_15 rfl (lv_at hl 0 rfl) ?_
      refine va_get (D := (dC, dI)) (ci := 9) (v := .int M_items) (C := RX9) (T := TX9) (N := 53) hx hb hts X9_item_inX9 hown hK hP 0 rfl rfl 24 (by decide) (hts (.fieldLink RX9 261 "MixfixDeskModel" "items" "I") (List.mem_of_getElem? (i := 2) rfl)) (fun _ h9 => h9) rfl dX9_item_16 ?_
      refine lv_icmp_lt (tgt := 24) hx hb dX9_item_19 (by decide) (fun c_3 => ?_) (fun c_3 => ?_)
      · have hm := it_some c_3 hm
        refine lv_iload_n hx hb dX9_item_24 rfl (lv_at hl 2 rfl) ?_
        refine lv_if_ne (tgt := 37) hx hb dX9_item_25 (by decide) (fun c_4 => ?_) (fun c_4 => ?_)
        · have hm := if_some' c_4 hm
          refine lv_iload_n hx hb dX9_item_37 rfl (lv_at hl 2 rfl) ?_
          refine lv_iconst (v := 1) hx hb dX9_item_38 (by decide) ?_
          refine lv_icmp_ne (tgt := 51) hx hb dX9_item_39 (by decide) (fun c_5 => ?_) (fun c_5 => ?_)
          · have hm := if_some' c_5 hm
            refine lv_iload_n hx hb dX9_item_51 rfl (lv_at hl 2 rfl) ?_
            refine lv_iconst (v := 2) hx hb dX9_item_52 (by decide) ?_
            refine lv_icmp_ne (tgt := 65) hx hb dX9_item_53 (by decide) (fun c_6 => ?_) (fun c_6 => ?_)
            · have hm := if_some' c_6 hm
              refine lv_iload_n hx hb dX9_item_65 rfl (lv_at hl 2 rfl) ?_
              refine lv_iconst (v := 3) hx hb dX9_item_66 (by decide) ?_
              refine lv_icmp_ne (tgt := 79) hx hb dX9_item_67 (by decide) (fun c_7 => ?_) (fun c_7 => ?_)
              · have hm := if_some' c_7 hm
                refine lv_bipush (v := (-2)) hx hb dX9_item_79 (by decide) ?_
                exact RET (-2) hm _ H locs ls dX9_item_81 hP hD hS
              · have hm := it_some c_7 hm
                refine lv_aload_n hx hb dX9_item_70 rfl (lv_at hl 0 rfl) ?_
                refine va_get (D := (dC, dI)) (ci := 9) (v := .ref (aM 24)) (C := RX9) (T := TX9) (N := 53) hx hb hts X9_item_inX9 hown hK hP 0 rfl rfl 23 (by decide) (hts (.fieldLink RX9 65 "MixfixDeskModel" "itemDepth" "[I") (List.mem_of_getElem? (i := 6) rfl)) (fun _ h9 => h9) rfl dX9_item_71 ?_
                refine lv_iload_n hx hb dX9_item_74 rfl (lv_at hl 1 rfl) ?_
                obtain ⟨hi_8, hm⟩ := gd_some hm
                refine va_iald (D := (dC, dI)) hx hb hK hP 4 0 rfl rfl hi_8 dX9_item_75 ?_
                refine lv_goto (tgt := 81) hx hb dX9_item_76 (by decide) ?_
                exact RET (M_itemDepth p0.toNatClampNeg) hm _ H locs ls dX9_item_81 hP hD hS
            · have hm := it_some c_6 hm
              refine lv_aload_n hx hb dX9_item_56 rfl (lv_at hl 0 rfl) ?_
              refine va_get (D := (dC, dI)) (ci := 9) (v := .ref (aM 23)) (C := RX9) (T := TX9) (N := 53) hx hb hts X9_item_inX9 hown hK hP 0 rfl rfl 22 (by decide) (hts (.fieldLink RX9 62 "MixfixDeskModel" "itemWords" "[I") (List.mem_of_getElem? (i := 5) rfl)) (fun _ h9 => h9) rfl dX9_item_57 ?_
              refine lv_iload_n hx hb dX9_item_60 rfl (lv_at hl 1 rfl) ?_
              obtain ⟨hi_9, hm⟩ := gd_some hm
              refine va_iald (D := (dC, dI)) hx hb hK hP 3 0 rfl rfl hi_9 dX9_item_61 ?_
              refine lv_goto (tgt := 81) hx hb dX9_item_62 (by decide) ?_
              exact RET (M_itemWords p0.toNatClampNeg) hm _ H locs ls dX9_item_81 hP hD hS
          · have hm := it_some c_5 hm
            refine lv_aload_n hx hb dX9_item_42 rfl (lv_at hl 0 rfl) ?_
            refine va_get (D := (dC, dI)) (ci := 9) (v := .ref (aM 22)) (C := RX9) (T := TX9) (N := 53) hx hb hts X9_item_inX9 hown hK hP 0 rfl rfl 21 (by decide) (hts (.fieldLink RX9 59 "MixfixDeskModel" "itemFirst" "[I") (List.mem_of_getElem? (i := 4) rfl)) (fun _ h9 => h9) rfl dX9_item_43 ?_
            refine lv_iload_n hx hb dX9_item_46 rfl (lv_at hl 1 rfl) ?_
            obtain ⟨hi_10, hm⟩ := gd_some hm
            refine va_iald (D := (dC, dI)) hx hb hK hP 2 0 rfl rfl hi_10 dX9_item_47 ?_
            refine lv_goto (tgt := 81) hx hb dX9_item_48 (by decide) ?_
            exact RET (M_itemFirst p0.toNatClampNeg) hm _ H locs ls dX9_item_81 hP hD hS
        · have hm := it_some c_4 hm
          refine lv_aload_n hx hb dX9_item_28 rfl (lv_at hl 0 rfl) ?_
          refine va_get (D := (dC, dI)) (ci := 9) (v := .ref (aM 21)) (C := RX9) (T := TX9) (N := 53) hx hb hts X9_item_inX9 hown hK hP 0 rfl rfl 20 (by decide) (hts (.fieldLink RX9 56 "MixfixDeskModel" "itemOperator" "[I") (List.mem_of_getElem? (i := 3) rfl)) (fun _ h9 => h9) rfl dX9_item_29 ?_
          refine lv_iload_n hx hb dX9_item_32 rfl (lv_at hl 1 rfl) ?_
          obtain ⟨hi_11, hm⟩ := gd_some hm
          refine va_iald (D := (dC, dI)) hx hb hK hP 1 0 rfl rfl hi_11 dX9_item_33 ?_
          refine lv_goto (tgt := 81) hx hb dX9_item_34 (by decide) ?_
          exact RET (M_itemOperator p0.toNatClampNeg) hm _ H locs ls dX9_item_81 hP hD hS
      · have hm := if_some' c_3 hm
        refine lv_iconst (v := (-1)) hx hb dX9_item_22 (by decide) ?_
        exact RET (-1) hm _ H locs ls dX9_item_23 hP hD hS
  · have hm := it_some c_1 hm
    refine lv_bipush (v := (-3)) hx hb dX9_item_7 (by decide) ?_
    exact RET (-3) hm _ H locs ls dX9_item_9 hP hD hS
set_option maxHeartbeats 4000000 in
set_option maxRecDepth 100000 in
theorem c_X9_item (l : Launch) (dC : Nat → ClassId) (dI : Nat → Nat → Nat) (cI cJ cB cZ : ClassId) (aM : Nat → Nat) (sz : Nat) (M_nodes : Int32) (M_operators : Int32) (M_textSize : Int32) (M_wordCount : Int32) (M_isParsed : Int32) (M_isTaken : Int32) (M_items : Int32) (M_piled : Int32) (M_outSize : Int32) (M_told : Int32) (M_standing : Int32) (M_itemOperator : Nat → Int32) (M_itemFirst : Nat → Int32) (M_itemWords : Nat → Int32) (M_itemDepth : Nat → Int32) (p0 : Int32) (p1 : Int32) (res : Int32) (hm : m_X9_item M_isTaken M_itemOperator M_itemFirst M_itemWords M_itemDepth M_items p0 p1 = some res) : Met l yX9_item wsX9_item rm_X9_item (cP (dC, dI) vwCl [(cI, .int), (cJ, .long), (cB, .byte), (cZ, .boolean)] [.ref (aM 0), .int p0, .int p1] [((aM 0), .inr (9, oX9 aM M_nodes M_operators M_textSize M_wordCount M_isParsed M_isTaken M_items M_piled M_outSize M_told M_standing)), ((aM 21), .inl (cI, 100, .inl M_itemOperator)), ((aM 22), .inl (cI, 100, .inl M_itemFirst)), ((aM 23), .inl (cI, 100, .inl M_itemWords)), ((aM 24), .inl (cI, 100, .inl M_itemDepth))] sz) (cQi res (dC, dI) vwCl [((aM 0), .inr (9, oX9 aM M_nodes M_operators M_textSize M_wordCount M_isParsed M_isTaken M_items M_piled M_outSize M_told M_standing)), ((aM 21), .inl (cI, 100, .inl M_itemOperator)), ((aM 22), .inl (cI, 100, .inl M_itemFirst)), ((aM 23), .inl (cI, 100, .inl M_itemWords)), ((aM 24), .inl (cI, 100, .inl M_itemDepth))] [((aM 0), .inr (9, oX9 aM M_nodes M_operators M_textSize M_wordCount M_isParsed M_isTaken M_items M_piled M_outSize M_told M_standing)), ((aM 21), .inl (cI, 100, .inl M_itemOperator)), ((aM 22), .inl (cI, 100, .inl M_itemFirst)), ((aM 23), .inl (cI, 100, .inl M_itemWords)), ((aM 24), .inl (cI, 100, .inl M_itemDepth))] sz) 0 0 (va_A [((aM 0), .inr (9, oX9 aM M_nodes M_operators M_textSize M_wordCount M_isParsed M_isTaken M_items M_piled M_outSize M_told M_standing)), ((aM 21), .inl (cI, 100, .inl M_itemOperator)), ((aM 22), .inl (cI, 100, .inl M_itemFirst)), ((aM 23), .inl (cI, 100, .inl M_itemWords)), ((aM 24), .inl (cI, 100, .inl M_itemDepth))] sz) := by
  refine cx_of (cc := cX9_item) (maxL := 3) (ret := (some .int)) (own := RX9) (by decide) rfl rfl (Nat.le_of_ble_eq_true rfl) ?_
  intro p e s m below meth c A C0 hinN hK hN hsz hAe hA hP hD hS ls hl
  refine k_X9_item_E C0 hK hN hA aM M_nodes M_operators M_textSize M_wordCount M_isParsed M_isTaken M_items M_piled M_outSize M_told M_standing M_itemOperator M_itemFirst M_itemWords M_itemDepth res ?_ p0 p1 hm _ _ hP hD hS ls hl
  intro v he pc H locs ls hdg hP hD hS
  have he := Option.some.inj he
  subst he
  exact cx_reti C0 hsz hAe hdg hP hD hS

theorem dX9_put_0 : decode cX9_put 0 = .ok (.aload_n 0, 1) := by decide +kernel
theorem dX9_put_1 : decode cX9_put 1 = .ok (.getfield 267, 3) := by decide +kernel
theorem dX9_put_4 : decode cX9_put 4 = .ok (.ifCond .le 24, 3) := by decide +kernel
theorem dX9_put_7 : decode cX9_put 7 = .ok (.aload_n 0, 1) := by decide +kernel
theorem dX9_put_8 : decode cX9_put 8 = .ok (.getfield 83, 3) := by decide +kernel
theorem dX9_put_11 : decode cX9_put 11 = .ok (.aload_n 0, 1) := by decide +kernel
theorem dX9_put_12 : decode cX9_put 12 = .ok (.getfield 267, 3) := by decide +kernel
theorem dX9_put_15 : decode cX9_put 15 = .ok (.bipush 32, 2) := by decide +kernel
theorem dX9_put_17 : decode cX9_put 17 = .ok (.bastore, 1) := by decide +kernel
theorem dX9_put_18 : decode cX9_put 18 = .ok (.aload_n 0, 1) := by decide +kernel
theorem dX9_put_19 : decode cX9_put 19 = .ok (.dup, 1) := by decide +kernel
theorem dX9_put_20 : decode cX9_put 20 = .ok (.getfield 267, 3) := by decide +kernel
theorem dX9_put_23 : decode cX9_put 23 = .ok (.iconst 1, 1) := by decide +kernel
theorem dX9_put_24 : decode cX9_put 24 = .ok (.iadd, 1) := by decide +kernel
theorem dX9_put_25 : decode cX9_put 25 = .ok (.putfield 267, 3) := by decide +kernel
theorem dX9_put_28 : decode cX9_put 28 = .ok (.bipush 56, 2) := by decide +kernel
theorem dX9_put_30 : decode cX9_put 30 = .ok (.istore_n 3, 1) := by decide +kernel
theorem dX9_put_31 : decode cX9_put 31 = .ok (.iload_n 3, 1) := by decide +kernel
theorem dX9_put_32 : decode cX9_put 32 = .ok (.ifCond .lt 46, 3) := by decide +kernel
theorem dX9_put_35 : decode cX9_put 35 = .ok (.lload_n 1, 1) := by decide +kernel
theorem dX9_put_36 : decode cX9_put 36 = .ok (.iload_n 3, 1) := by decide +kernel
theorem dX9_put_37 : decode cX9_put 37 = .ok (.lshr, 1) := by decide +kernel
theorem dX9_put_38 : decode cX9_put 38 = .ok (.l2i, 1) := by decide +kernel
theorem dX9_put_39 : decode cX9_put 39 = .ok (.sipush 255, 3) := by decide +kernel
theorem dX9_put_42 : decode cX9_put 42 = .ok (.iand, 1) := by decide +kernel
theorem dX9_put_43 : decode cX9_put 43 = .ok (.istore 4, 2) := by decide +kernel
theorem dX9_put_45 : decode cX9_put 45 = .ok (.iload 4, 2) := by decide +kernel
theorem dX9_put_47 : decode cX9_put 47 = .ok (.ifCond .eq 25, 3) := by decide +kernel
theorem dX9_put_50 : decode cX9_put 50 = .ok (.aload_n 0, 1) := by decide +kernel
theorem dX9_put_51 : decode cX9_put 51 = .ok (.getfield 83, 3) := by decide +kernel
theorem dX9_put_54 : decode cX9_put 54 = .ok (.aload_n 0, 1) := by decide +kernel
theorem dX9_put_55 : decode cX9_put 55 = .ok (.getfield 267, 3) := by decide +kernel
theorem dX9_put_58 : decode cX9_put 58 = .ok (.iload 4, 2) := by decide +kernel
theorem dX9_put_60 : decode cX9_put 60 = .ok (.i2b, 1) := by decide +kernel
theorem dX9_put_61 : decode cX9_put 61 = .ok (.bastore, 1) := by decide +kernel
theorem dX9_put_62 : decode cX9_put 62 = .ok (.aload_n 0, 1) := by decide +kernel
theorem dX9_put_63 : decode cX9_put 63 = .ok (.dup, 1) := by decide +kernel
theorem dX9_put_64 : decode cX9_put 64 = .ok (.getfield 267, 3) := by decide +kernel
theorem dX9_put_67 : decode cX9_put 67 = .ok (.iconst 1, 1) := by decide +kernel
theorem dX9_put_68 : decode cX9_put 68 = .ok (.iadd, 1) := by decide +kernel
theorem dX9_put_69 : decode cX9_put 69 = .ok (.putfield 267, 3) := by decide +kernel
theorem dX9_put_72 : decode cX9_put 72 = .ok (.iinc 3 (-8), 3) := by decide +kernel
theorem dX9_put_75 : decode cX9_put 75 = .ok (.goto (-44), 3) := by decide +kernel
theorem dX9_put_78 : decode cX9_put 78 = .ok (.return_, 1) := by decide +kernel
/-! MixfixDeskModel.put(J)V -/
abbrev rm_X9_put : Room := { frames := 0, cells := 0, slots := 0, locals := 0 }
theorem X9_put_inX9 : ∀ w ∈ wsX90, w ∈ wsX9_put := by exact fun w h => List.mem_cons_of_mem _ (List.mem_append_right _ h)
abbrev RT_X9_put (p : Program) (l : Launch) (e : Env) (s : State) (m : MethodId) (args : Array Value) (below : List Frame) (meth : Method) (c : Code) (Q : State → Prop) (dC : Nat → ClassId) (dI : Nat → Nat → Nat) (cI cJ cB cZ : ClassId) (A : Nat → Prop) (aM : Nat → Nat) (M_nodes : Int32) (M_operators : Int32) (M_textSize : Int32) (M_wordCount : Int32) (M_isParsed : Int32) (M_isTaken : Int32) (M_items : Int32) (M_piled : Int32) (M_told : Int32) (M_standing : Int32) (res : (Nat → Int32) × Int32) : Prop := ∀ (M_out : Nat → Int32) (M_outSize : Int32), some (M_out, M_outSize) = some res → ∀ (pc : Nat) (H : Heap) (locs : List Loc) (ls : Array Slot), decode cX9_put pc = .ok (.return_, 1) → va_P (dC, dI) vwCl [((aM 0), .inr (9, oX9 aM M_nodes M_operators M_textSize M_wordCount M_isParsed M_isTaken M_items M_piled M_outSize M_told M_standing)), ((aM 32), .inl (cB, 1600, .inl M_out))] H → va_D A [((aM 0), .inr (9, oX9 aM M_nodes M_operators M_textSize M_wordCount M_isParsed M_isTaken M_items M_piled M_outSize M_told M_standing)), ((aM 32), .inl (cB, 1600, .inl M_out))] → va_S A s.heap H locs → W p l e rm_X9_put s m args below meth c H locs 0 0 Q (F0 m pc ls [])
set_option maxHeartbeats 4000000 in
set_option maxRecDepth 100000 in
theorem k_X9_put_72 {p : Program} {l : Launch} {e : Env} {s : State} {m : MethodId} {args : Array Value} {below : List Frame} {meth : Method} {c : Code} {Q : State → Prop} {dC : Nat → ClassId} {dI : Nat → Nat → Nat} {cI cJ cB cZ : ClassId} {A : Nat → Prop} (C0 : Cx p s m meth c args cX9_put 5 none wsX9_put RX9) (hK : va_K (dC, dI) vwCl [(cI, .int), (cJ, .long), (cB, .byte), (cZ, .boolean)] s) (hN : NW s) (hA : ∀ q, s.heap.size ≤ q → A q) (aM : Nat → Nat) (M_nodes : Int32) (M_operators : Int32) (M_textSize : Int32) (M_wordCount : Int32) (M_isParsed : Int32) (M_isTaken : Int32) (M_items : Int32) (M_piled : Int32) (M_told : Int32) (M_standing : Int32) (res : (Nat → Int32) × Int32) (RET : RT_X9_put p l e s m args below meth c Q dC dI cI cJ cB cZ A aM M_nodes M_operators M_textSize M_wordCount M_isParsed M_isTaken M_items M_piled M_told M_standing res) (k31 : (Nat → Int32) → Int32 → Int64 → Int32 → Option ((Nat → Int32) × Int32)) (hk31 : ∀ (M_out : Nat → Int32) (M_outSize : Int32) (x1 : Int64) (x3 : Int32), k31 M_out M_outSize x1 x3 = some res → ∀ (H : Heap) (locs : List Loc), va_P (dC, dI) vwCl [((aM 0), .inr (9, oX9 aM M_nodes M_operators M_textSize M_wordCount M_isParsed M_isTaken M_items M_piled M_outSize M_told M_standing)), ((aM 32), .inl (cB, 1600, .inl M_out))] H → va_D A [((aM 0), .inr (9, oX9 aM M_nodes M_operators M_textSize M_wordCount M_isParsed M_isTaken M_items M_piled M_outSize M_told M_standing)), ((aM 32), .inl (cB, 1600, .inl M_out))] → va_S A s.heap H locs → ∀ (ls : Array Slot), lv_has ls 5 [(0, .ref (aM 0)), (1, .long x1), (3, .int x3)] → W p l e rm_X9_put s m args below meth c H locs 0 0 Q (F0 m 31 ls [])) : ∀ (M_out : Nat → Int32) (M_outSize : Int32) (x1 : Int64) (x3 : Int32), m_X9_put_72 k31 M_out M_outSize x1 x3 = some res → ∀ (H : Heap) (locs : List Loc), va_P (dC, dI) vwCl [((aM 0), .inr (9, oX9 aM M_nodes M_operators M_textSize M_wordCount M_isParsed M_isTaken M_items M_piled M_outSize M_told M_standing)), ((aM 32), .inl (cB, 1600, .inl M_out))] H → va_D A [((aM 0), .inr (9, oX9 aM M_nodes M_operators M_textSize M_wordCount M_isParsed M_isTaken M_items M_piled M_outSize M_told M_standing)), ((aM 32), .inl (cB, 1600, .inl M_out))] → va_S A s.heap H locs → ∀ (ls : Array Slot), lv_has ls 5 [(0, .ref (aM 0)), (1, .long x1), (3, .int x3)] → W p l e rm_X9_put s m args below meth c H locs 0 0 Q (F0 m 72 ls []) := by
  obtain ⟨⟨hx, hb, hml, hown, hts⟩, hr, hlocks⟩ := id C0
  intro M_out M_outSize x1 x3 hm H locs hP hD hS ls hl
  have hm : (k31 M_out M_outSize x1 (x3 + (-8))) = some res := hm
  refine lv_iinc (v := x3 + (-8)) (lv' := [(3, .int (x3 + (-8))), (0, .ref (aM 0)), (1, .long x1)]) hx hb dX9_put_72 hl (k := 2) rfl rfl (by decide) rfl (fun ls hl => ?_)
  refine lv_goto (tgt := 31) hx hb dX9_put_75 (by decide) ?_
  exact hk31 M_out M_outSize x1 (x3 + (-8)) hm H locs hP hD hS ls (lv_sub hl [1, 2, 0] rfl)
set_option maxHeartbeats 4000000 in
set_option maxRecDepth 100000 in
theorem k_X9_put_31 {p : Program} {l : Launch} {e : Env} {s : State} {m : MethodId} {args : Array Value} {below : List Frame} {meth : Method} {c : Code} {Q : State → Prop} {dC : Nat → ClassId} {dI : Nat → Nat → Nat} {cI cJ cB cZ : ClassId} {A : Nat → Prop} (C0 : Cx p s m meth c args cX9_put 5 none wsX9_put RX9) (hK : va_K (dC, dI) vwCl [(cI, .int), (cJ, .long), (cB, .byte), (cZ, .boolean)] s) (hN : NW s) (hA : ∀ q, s.heap.size ≤ q → A q) (aM : Nat → Nat) (M_nodes : Int32) (M_operators : Int32) (M_textSize : Int32) (M_wordCount : Int32) (M_isParsed : Int32) (M_isTaken : Int32) (M_items : Int32) (M_piled : Int32) (M_told : Int32) (M_standing : Int32) (res : (Nat → Int32) × Int32) (RET : RT_X9_put p l e s m args below meth c Q dC dI cI cJ cB cZ A aM M_nodes M_operators M_textSize M_wordCount M_isParsed M_isTaken M_items M_piled M_told M_standing res)   : ∀ (n : Nat) (M_out : Nat → Int32) (M_outSize : Int32) (x1 : Int64) (x3 : Int32), m_X9_put_31 n M_out M_outSize x1 x3 = some res → ∀ (H : Heap) (locs : List Loc), va_P (dC, dI) vwCl [((aM 0), .inr (9, oX9 aM M_nodes M_operators M_textSize M_wordCount M_isParsed M_isTaken M_items M_piled M_outSize M_told M_standing)), ((aM 32), .inl (cB, 1600, .inl M_out))] H → va_D A [((aM 0), .inr (9, oX9 aM M_nodes M_operators M_textSize M_wordCount M_isParsed M_isTaken M_items M_piled M_outSize M_told M_standing)), ((aM 32), .inl (cB, 1600, .inl M_out))] → va_S A s.heap H locs → ∀ (ls : Array Slot), lv_has ls 5 [(0, .ref (aM 0)), (1, .long x1), (3, .int x3)] → W p l e rm_X9_put s m args below meth c H locs 0 0 Q (F0 m 31 ls []) := by
  obtain ⟨⟨hx, hb, hml, hown, hts⟩, hr, hlocks⟩ := id C0
  intro n
  induction n with
  | zero =>
    intro M_out M_outSize x1 x3 hm
    exact absurd hm (by intro h; cases h)
  | succ n ih =>
    intro M_out M_outSize x1 x3 hm H locs hP hD hS ls hl
    have hm : (if x3 < 0 then (some (M_out, M_outSize)) else (if (((x1 >>> (x3.toInt64 &&& 63)).toInt32) &&& 255) = 0 then (m_X9_put_72 (m_X9_put_31 n) M_out M_outSize x1 x3) else (gd M_outSize 1600 (m_X9_put_72 (m_X9_put_31 n) (upd M_out M_outSize.toNatClampNeg (vp_nar .byte ((((x1 >>> (x3.toInt64 &&& 63)).toInt32) &&& 255).toInt8.toInt32))) (M_outSize + 1) x1 x3)))) = some res := hm
    refine lv_iload_n hx hb dX9_put_31 rfl (lv_at hl 2 rfl) ?_
    refine lv_if_lt (tgt := 78) hx hb dX9_put_32 (by decide) (fun c_1 => ?_) (fun c_1 => ?_)
    · have hm := it_some c_1 hm
      exact RET M_out M_outSize hm _ H locs ls dX9_put_78 hP hD hS
    · have hm := if_some' c_1 hm
      refine lv_lload_n hx hb dX9_put_35 rfl (lv_at hl 1 rfl) ?_
      refine lv_iload_n hx hb dX9_put_36 rfl (lv_at hl 2 rfl) ?_
      refine lv_lshr (v := x1 >>> (x3.toInt64 &&& 63)) hx hb dX9_put_37 rfl ?_
      refine lv_l2i (v := (x1 >>> (x3.toInt64 &&& 63)).toInt32) hx hb dX9_put_38 rfl ?_
      refine lv_sipush (v := 255) hx hb dX9_put_39 (by decide) ?_
      refine lv_iand hx hb dX9_put_42 ?_
      refine lv_istore (lv' := [(4, .int (((x1 >>> (x3.toInt64 &&& 63)).toInt32) &&& 255)), (0, .ref (aM 0)), (1, .long x1), (3, .int x3)]) hx hb dX9_put_43 hl (by decide) rfl (fun ls hl => ?_)
      refine lv_iload hx hb dX9_put_45 (lv_at hl 0 rfl) ?_
      refine lv_if_eq (tgt := 72) hx hb dX9_put_47 (by decide) (fun c_2 => ?_) (fun c_2 => ?_)
      · have hm := it_some c_2 hm
        exact k_X9_put_72 C0 hK hN hA aM M_nodes M_operators M_textSize M_wordCount M_isParsed M_isTaken M_items M_piled M_told M_standing res RET (m_X9_put_31 n) ih M_out M_outSize x1 x3 hm H locs hP hD hS ls (lv_sub hl [1, 2, 3] rfl)
      · have hm := if_some' c_2 hm
        refine lv_aload_n hx hb dX9_put_50 rfl (lv_at hl 1 rfl) ?_
        refine va_get (D := (dC, dI)) (ci := 9) (v := .ref (aM 32)) (C := RX9) (T := TX9) (N := 53) hx hb hts X9_put_inX9 hown hK hP 0 rfl rfl 31 (by decide) (hts (.fieldLink RX9 83 "MixfixDeskModel" "out" "[B") (List.mem_of_getElem? (i := 2) rfl)) (fun _ h9 => h9) rfl dX9_put_51 ?_
        refine lv_aload_n hx hb dX9_put_54 rfl (lv_at hl 1 rfl) ?_
        refine va_get (D := (dC, dI)) (ci := 9) (v := .int M_outSize) (C := RX9) (T := TX9) (N := 53) hx hb hts X9_put_inX9 hown hK hP 0 rfl rfl 32 (by decide) (hts (.fieldLink RX9 267 "MixfixDeskModel" "outSize" "I") (List.mem_of_getElem? (i := 1) rfl)) (fun _ h9 => h9) rfl dX9_put_55 ?_
        refine lv_iload hx hb dX9_put_58 (lv_at hl 0 rfl) ?_
        refine lv_i2b (v := (((x1 >>> (x3.toInt64 &&& 63)).toInt32) &&& 255).toInt8.toInt32) hx hb dX9_put_60 rfl ?_
        obtain ⟨hi_3, hm⟩ := gd_some hm
        refine va_bast (D := (dC, dI)) hx hb hK hP hD hS 1 2 rfl rfl hi_3 dX9_put_61 (fun H locs hP hD hS => ?_)
        have hP : va_P (dC, dI) vwCl [((aM 0), .inr (9, oX9 aM M_nodes M_operators M_textSize M_wordCount M_isParsed M_isTaken M_items M_piled M_outSize M_told M_standing)), ((aM 32), .inl (cB, 1600, .inl (upd M_out M_outSize.toNatClampNeg (vp_nar .byte ((((x1 >>> (x3.toInt64 &&& 63)).toInt32) &&& 255).toInt8.toInt32)))))] H := hP
        have hD : va_D A [((aM 0), .inr (9, oX9 aM M_nodes M_operators M_textSize M_wordCount M_isParsed M_isTaken M_items M_piled M_outSize M_told M_standing)), ((aM 32), .inl (cB, 1600, .inl (upd M_out M_outSize.toNatClampNeg (vp_nar .byte ((((x1 >>> (x3.toInt64 &&& 63)).toInt32) &&& 255).toInt8.toInt32)))))] := hD
        refine lv_aload_n hx hb dX9_put_62 rfl (lv_at hl 1 rfl) ?_
        refine lv_dup hx hb dX9_put_63 rfl ?_
        refine va_get (D := (dC, dI)) (ci := 9) (v := .int M_outSize) (C := RX9) (T := TX9) (N := 53) hx hb hts X9_put_inX9 hown hK hP 0 rfl rfl 32 (by decide) (hts (.fieldLink RX9 267 "MixfixDeskModel" "outSize" "I") (List.mem_of_getElem? (i := 1) rfl)) (fun _ h9 => h9) rfl dX9_put_64 ?_
        refine lv_iconst (v := 1) hx hb dX9_put_67 (by decide) ?_
        refine lv_iadd hx hb dX9_put_68 ?_
        refine va_put (D := (dC, dI)) (ci := 9) (v := .int (M_outSize + 1)) (ty := .int) (C := RX9) (T := TX9) (N := 53) hx hb hts X9_put_inX9 tyX9 tyX9_ok nmX9 hown hK hP hD hS 0 rfl rfl 32 (by decide) (hts (.fieldLink RX9 267 "MixfixDeskModel" "outSize" "I") (List.mem_of_getElem? (i := 1) rfl)) (fun _ h9 => h9) rfl (by decide +kernel) rfl rfl (Nat.le_of_ble_eq_true rfl) dX9_put_69 (fun H locs hP hD hS => ?_)
        have hP : va_P (dC, dI) vwCl [((aM 0), .inr (9, oX9 aM M_nodes M_operators M_textSize M_wordCount M_isParsed M_isTaken M_items M_piled (M_outSize + 1) M_told M_standing)), ((aM 32), .inl (cB, 1600, .inl (upd M_out M_outSize.toNatClampNeg (vp_nar .byte ((((x1 >>> (x3.toInt64 &&& 63)).toInt32) &&& 255).toInt8.toInt32)))))] H := hP
        have hD : va_D A [((aM 0), .inr (9, oX9 aM M_nodes M_operators M_textSize M_wordCount M_isParsed M_isTaken M_items M_piled (M_outSize + 1) M_told M_standing)), ((aM 32), .inl (cB, 1600, .inl (upd M_out M_outSize.toNatClampNeg (vp_nar .byte ((((x1 >>> (x3.toInt64 &&& 63)).toInt32) &&& 255).toInt8.toInt32)))))] := hD
        exact k_X9_put_72 C0 hK hN hA aM M_nodes M_operators M_textSize M_wordCount M_isParsed M_isTaken M_items M_piled M_told M_standing res RET (m_X9_put_31 n) ih (upd M_out M_outSize.toNatClampNeg (vp_nar .byte ((((x1 >>> (x3.toInt64 &&& 63)).toInt32) &&& 255).toInt8.toInt32))) (M_outSize + 1) x1 x3 hm H locs hP hD hS ls (lv_sub hl [1, 2, 3] rfl)
set_option maxHeartbeats 4000000 in
set_option maxRecDepth 100000 in
theorem k_X9_put_28 {p : Program} {l : Launch} {e : Env} {s : State} {m : MethodId} {args : Array Value} {below : List Frame} {meth : Method} {c : Code} {Q : State → Prop} {dC : Nat → ClassId} {dI : Nat → Nat → Nat} {cI cJ cB cZ : ClassId} {A : Nat → Prop} (C0 : Cx p s m meth c args cX9_put 5 none wsX9_put RX9) (hK : va_K (dC, dI) vwCl [(cI, .int), (cJ, .long), (cB, .byte), (cZ, .boolean)] s) (hN : NW s) (hA : ∀ q, s.heap.size ≤ q → A q) (aM : Nat → Nat) (M_nodes : Int32) (M_operators : Int32) (M_textSize : Int32) (M_wordCount : Int32) (M_isParsed : Int32) (M_isTaken : Int32) (M_items : Int32) (M_piled : Int32) (M_told : Int32) (M_standing : Int32) (res : (Nat → Int32) × Int32) (RET : RT_X9_put p l e s m args below meth c Q dC dI cI cJ cB cZ A aM M_nodes M_operators M_textSize M_wordCount M_isParsed M_isTaken M_items M_piled M_told M_standing res)   : ∀ (M_out : Nat → Int32) (M_outSize : Int32) (x1 : Int64), m_X9_put_28 M_out M_outSize x1 = some res → ∀ (H : Heap) (locs : List Loc), va_P (dC, dI) vwCl [((aM 0), .inr (9, oX9 aM M_nodes M_operators M_textSize M_wordCount M_isParsed M_isTaken M_items M_piled M_outSize M_told M_standing)), ((aM 32), .inl (cB, 1600, .inl M_out))] H → va_D A [((aM 0), .inr (9, oX9 aM M_nodes M_operators M_textSize M_wordCount M_isParsed M_isTaken M_items M_piled M_outSize M_told M_standing)), ((aM 32), .inl (cB, 1600, .inl M_out))] → va_S A s.heap H locs → ∀ (ls : Array Slot), lv_has ls 5 [(0, .ref (aM 0)), (1, .long x1)] → W p l e rm_X9_put s m args below meth c H locs 0 0 Q (F0 m 28 ls []) := by
  obtain ⟨⟨hx, hb, hml, hown, hts⟩, hr, hlocks⟩ := id C0
  intro M_out M_outSize x1 hm H locs hP hD hS ls hl
  have hm : (m_X9_put_31 FU M_out M_outSize x1 56) = some res := hm
  refine lv_bipush (v := 56) hx hb dX9_put_28 (by decide) ?_
  refine lv_istore_n (lv' := [(3, .int 56), (0, .ref (aM 0)), (1, .long x1)]) hx hb dX9_put_30 rfl hl (by decide) rfl (fun ls hl => ?_)
  exact k_X9_put_31 C0 hK hN hA aM M_nodes M_operators M_textSize M_wordCount M_isParsed M_isTaken M_items M_piled M_told M_standing res RET FU M_out M_outSize x1 56 hm H locs hP hD hS ls (lv_sub hl [1, 2, 0] rfl)
set_option maxHeartbeats 4000000 in
set_option maxRecDepth 100000 in
theorem k_X9_put_E {p : Program} {l : Launch} {e : Env} {s : State} {m : MethodId} {args : Array Value} {below : List Frame} {meth : Method} {c : Code} {Q : State → Prop} {dC : Nat → ClassId} {dI : Nat → Nat → Nat} {cI cJ cB cZ : ClassId} {A : Nat → Prop} (C0 : Cx p s m meth c args cX9_put 5 none wsX9_put RX9) (hK : va_K (dC, dI) vwCl [(cI, .int), (cJ, .long), (cB, .byte), (cZ, .boolean)] s) (hN : NW s) (hA : ∀ q, s.heap.size ≤ q → A q) (aM : Nat → Nat) (M_nodes : Int32) (M_operators : Int32) (M_textSize : Int32) (M_wordCount : Int32) (M_isParsed : Int32) (M_isTaken : Int32) (M_items : Int32) (M_piled : Int32) (M_told : Int32) (M_standing : Int32) (res : (Nat → Int32) × Int32) (RET : RT_X9_put p l e s m args below meth c Q dC dI cI cJ cB cZ A aM M_nodes M_operators M_textSize M_wordCount M_isParsed M_isTaken M_items M_piled M_told M_standing res) : ∀ (M_out : Nat → Int32) (M_outSize : Int32) (p0 : Int64), m_X9_put M_out M_outSize p0 = some res → ∀ (H : Heap) (locs : List Loc), va_P (dC, dI) vwCl [((aM 0), .inr (9, oX9 aM M_nodes M_operators M_textSize M_wordCount M_isParsed M_isTaken M_items M_piled M_outSize M_told M_standing)), ((aM 32), .inl (cB, 1600, .inl M_out))] H → va_D A [((aM 0), .inr (9, oX9 aM M_nodes M_operators M_textSize M_wordCount M_isParsed M_isTaken M_items M_piled M_outSize M_told M_standing)), ((aM 32), .inl (cB, 1600, .inl M_out))] → va_S A s.heap H locs → ∀ (ls : Array Slot), lv_has ls 5 [(0, .ref (aM 0)), (1, .long p0)] → W p l e rm_X9_put s m args below meth c H locs 0 0 Q (F0 m 0 ls []) := by
  obtain ⟨⟨hx, hb, hml, hown, hts⟩, hr, hlocks⟩ := id C0
  intro M_out M_outSize p0 hm H locs hP hD hS ls hl
  have hm : (if M_outSize ≤ 0 then (m_X9_put_28 M_out M_outSize p0) else (gd M_outSize 1600 (m_X9_put_28 (upd M_out M_outSize.toNatClampNeg (vp_nar .byte 32)) (M_outSize + 1) p0))) = some res := hm
  refine lv_aload_n hx hb dX9_put_0 rfl (lv_at hl 0 rfl) ?_
  refine va_get (D := (dC, dI)) (ci := 9) (v := .int M_outSize) (C := RX9) (T := TX9) (N := 53) hx hb hts X9_put_inX9 hown hK hP 0 rfl rfl 32 (by decide) (hts (.fieldLink RX9 267 "MixfixDeskModel" "outSize" "I") (List.mem_of_getElem? (i := 1) rfl)) (fun _ h9 => h9) rfl dX9_put_1 ?_
  refine lv_if_le (tgt := 28) hx hb dX9_put_4 (by decide) (fun c_4 => ?_) (fun c_4 => ?_)
  · have hm := it_some c_4 hm
    exact k_X9_put_28 C0 hK hN hA aM M_nodes M_operators M_textSize M_wordCount M_isParsed M_isTaken M_items M_piled M_told M_standing res RET M_out M_outSize p0 hm H locs hP hD hS ls hl
  · have hm := if_some' c_4 hm
    refine lv_aload_n hx hb dX9_put_7 rfl (lv_at hl 0 rfl) ?_
    refine va_get (D := (dC, dI)) (ci := 9) (v := .ref (aM 32)) (C := RX9) (T := TX9) (N := 53) hx hb hts X9_put_inX9 hown hK hP 0 rfl rfl 31 (by decide) (hts (.fieldLink RX9 83 "MixfixDeskModel" "out" "[B") (List.mem_of_getElem? (i := 2) rfl)) (fun _ h9 => h9) rfl dX9_put_8 ?_
    refine lv_aload_n hx hb dX9_put_11 rfl (lv_at hl 0 rfl) ?_
    refine va_get (D := (dC, dI)) (ci := 9) (v := .int M_outSize) (C := RX9) (T := TX9) (N := 53) hx hb hts X9_put_inX9 hown hK hP 0 rfl rfl 32 (by decide) (hts (.fieldLink RX9 267 "MixfixDeskModel" "outSize" "I") (List.mem_of_getElem? (i := 1) rfl)) (fun _ h9 => h9) rfl dX9_put_12 ?_
    refine lv_bipush (v := 32) hx hb dX9_put_15 (by decide) ?_
    obtain ⟨hi_5, hm⟩ := gd_some hm
    refine va_bast (D := (dC, dI)) hx hb hK hP hD hS 1 2 rfl rfl hi_5 dX9_put_17 (fun H locs hP hD hS => ?_)
    have hP : va_P (dC, dI) vwCl [((aM 0), .inr (9, oX9 aM M_nodes M_operators M_textSize M_wordCount M_isParsed M_isTaken M_items M_piled M_outSize M_told M_standing)), ((aM 32), .inl (cB, 1600, .inl (upd M_out M_outSize.toNatClampNeg (vp_nar .byte 32))))] H := hP
    have hD : va_D A [((aM 0), .inr (9, oX9 aM M_nodes M_operators M_textSize M_wordCount M_isParsed M_isTaken M_items M_piled M_outSize M_told M_standing)), ((aM 32), .inl (cB, 1600, .inl (upd M_out M_outSize.toNatClampNeg (vp_nar .byte 32))))] := hD
    refine lv_aload_n hx hb dX9_put_18 rfl (lv_at hl 0 rfl) ?_
    refine lv_dup hx hb dX9_put_19 rfl ?_
    refine va_get (D := (dC, dI)) (ci := 9) (v := .int M_outSize) (C := RX9) (T := TX9) (N := 53) hx hb hts X9_put_inX9 hown hK hP 0 rfl rfl 32 (by decide) (hts (.fieldLink RX9 267 "MixfixDeskModel" "outSize" "I") (List.mem_of_getElem? (i := 1) rfl)) (fun _ h9 => h9) rfl dX9_put_20 ?_
    refine lv_iconst (v := 1) hx hb dX9_put_23 (by decide) ?_
    refine lv_iadd hx hb dX9_put_24 ?_
    refine va_put (D := (dC, dI)) (ci := 9) (v := .int (M_outSize + 1)) (ty := .int) (C := RX9) (T := TX9) (N := 53) hx hb hts X9_put_inX9 tyX9 tyX9_ok nmX9 hown hK hP hD hS 0 rfl rfl 32 (by decide) (hts (.fieldLink RX9 267 "MixfixDeskModel" "outSize" "I") (List.mem_of_getElem? (i := 1) rfl)) (fun _ h9 => h9) rfl (by decide +kernel) rfl rfl (Nat.le_of_ble_eq_true rfl) dX9_put_25 (fun H locs hP hD hS => ?_)
    have hP : va_P (dC, dI) vwCl [((aM 0), .inr (9, oX9 aM M_nodes M_operators M_textSize M_wordCount M_isParsed M_isTaken M_items M_piled (M_outSize + 1) M_told M_standing)), ((aM 32), .inl (cB, 1600, .inl (upd M_out M_outSize.toNatClampNeg (vp_nar .byte 32))))] H := hP
    have hD : va_D A [((aM 0), .inr (9, oX9 aM M_nodes M_operators M_textSize M_wordCount M_isParsed M_isTaken M_items M_piled (M_outSize + 1) M_told M_standing)), ((aM 32), .inl (cB, 1600, .inl (upd M_out M_outSize.toNatClampNeg (vp_nar .byte 32))))] := hD
    exact k_X9_put_28 C0 hK hN hA aM M_nodes M_operators M_textSize M_wordCount M_isParsed M_isTaken M_items M_piled M_told M_standing res RET (upd M_out M_outSize.toNatClampNeg (vp_nar .byte 32)) (M_outSize + 1) p0 hm H locs hP hD hS ls hl
set_option maxHeartbeats 4000000 in
set_option maxRecDepth 100000 in
theorem c_X9_put (l : Launch) (dC : Nat → ClassId) (dI : Nat → Nat → Nat) (cI cJ cB cZ : ClassId) (aM : Nat → Nat) (sz : Nat) (M_nodes : Int32) (M_operators : Int32) (M_textSize : Int32) (M_wordCount : Int32) (M_isParsed : Int32) (M_isTaken : Int32) (M_items : Int32) (M_piled : Int32) (M_outSize : Int32) (M_told : Int32) (M_standing : Int32) (M_out : Nat → Int32) (p0 : Int64) (res : (Nat → Int32) × Int32) (hm : m_X9_put M_out M_outSize p0 = some res) : Met l yX9_put wsX9_put rm_X9_put (cP (dC, dI) vwCl [(cI, .int), (cJ, .long), (cB, .byte), (cZ, .boolean)] [.ref (aM 0), .long p0] [((aM 0), .inr (9, oX9 aM M_nodes M_operators M_textSize M_wordCount M_isParsed M_isTaken M_items M_piled M_outSize M_told M_standing)), ((aM 32), .inl (cB, 1600, .inl M_out))] sz) (cQv (dC, dI) vwCl [((aM 0), .inr (9, oX9 aM M_nodes M_operators M_textSize M_wordCount M_isParsed M_isTaken M_items M_piled res.2 M_told M_standing)), ((aM 32), .inl (cB, 1600, .inl res.1))] [((aM 0), .inr (9, oX9 aM M_nodes M_operators M_textSize M_wordCount M_isParsed M_isTaken M_items M_piled M_outSize M_told M_standing)), ((aM 32), .inl (cB, 1600, .inl M_out))] sz) 0 0 (va_A [((aM 0), .inr (9, oX9 aM M_nodes M_operators M_textSize M_wordCount M_isParsed M_isTaken M_items M_piled M_outSize M_told M_standing)), ((aM 32), .inl (cB, 1600, .inl M_out))] sz) := by
  refine cx_of (cc := cX9_put) (maxL := 5) (ret := none) (own := RX9) (by decide) rfl rfl (Nat.le_of_ble_eq_true rfl) ?_
  intro p e s m below meth c A C0 hinN hK hN hsz hAe hA hP hD hS ls hl
  refine k_X9_put_E C0 hK hN hA aM M_nodes M_operators M_textSize M_wordCount M_isParsed M_isTaken M_items M_piled M_told M_standing res ?_ M_out M_outSize p0 hm _ _ hP hD hS ls hl
  intro M_out M_outSize he pc H locs ls hdg hP hD hS
  have he := Option.some.inj he
  subst he
  exact cx_retv C0 hsz hAe hdg hP hD hS

