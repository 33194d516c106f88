set_option maxRecDepth 20000 in
theorem ggX9_cut_X9_isNode : GoodIn wsX9_cut wsX9_isNode := goodIn_r _ [6, 7, 14, 15, 16, 17, 18, 19, 20, 21, 22, 23, 24, 25, 26, 27, 28, 29, 30, 31, 32, 33, 34, 35, 36, 37, 38, 39, 40, 41, 42, 43, 44, 45, 46, 47, 48, 49, 50, 51, 52, 53, 54, 55, 56, 57, 58, 59, 60, 61, 62, 63, 64, 65, 66] (by decide +kernel) (by decide +kernel)
set_option maxRecDepth 20000 in
theorem gX9_cut_X9_isNode : GoodIn wsX9_cut (wsV RX9 222 RX9 yX9_isNode wsX9_isNode) := goodIn_app (goodIn_of _ (by decide +kernel)) ggX9_cut_X9_isNode
set_option maxRecDepth 20000 in
theorem ggX9_cut_X9_gone : GoodIn wsX9_cut wsX9_gone := goodIn_r _ [11, 12, 13, 14, 15, 16, 17, 18, 19, 20, 21, 22, 23, 24, 25, 26, 27, 28, 29, 30, 31, 32, 33, 34, 35, 36, 37, 38, 39, 40, 41, 42, 43, 44, 45, 46, 47, 48, 49, 50, 51, 52, 53, 54, 55, 56, 57, 58, 59, 60, 61, 62, 63, 64, 65, 66] (by decide +kernel) (by decide +kernel)
set_option maxRecDepth 20000 in
theorem gX9_cut_X9_gone : GoodIn wsX9_cut (wsV RX9 228 RX9 yX9_gone wsX9_gone) := goodIn_app (goodIn_of _ (by decide +kernel)) ggX9_cut_X9_gone
theorem dX9_cut_0 : decode cX9_cut 0 = .ok (.aload_n 0, 1) := by decide +kernel
theorem dX9_cut_1 : decode cX9_cut 1 = .ok (.iload_n 1, 1) := by decide +kernel
theorem dX9_cut_2 : decode cX9_cut 2 = .ok (.invokevirtual 222, 3) := by decide +kernel
theorem dX9_cut_5 : decode cX9_cut 5 = .ok (.ifCond .eq 11, 3) := by decide +kernel
theorem dX9_cut_8 : decode cX9_cut 8 = .ok (.aload_n 0, 1) := by decide +kernel
theorem dX9_cut_9 : decode cX9_cut 9 = .ok (.iload_n 2, 1) := by decide +kernel
theorem dX9_cut_10 : decode cX9_cut 10 = .ok (.invokevirtual 222, 3) := by decide +kernel
theorem dX9_cut_13 : decode cX9_cut 13 = .ok (.ifCond .ne 5, 3) := by decide +kernel
theorem dX9_cut_16 : decode cX9_cut 16 = .ok (.iconst (-1), 1) := by decide +kernel
theorem dX9_cut_17 : decode cX9_cut 17 = .ok (.ireturn, 1) := by decide +kernel
theorem dX9_cut_18 : decode cX9_cut 18 = .ok (.aload_n 0, 1) := by decide +kernel
theorem dX9_cut_19 : decode cX9_cut 19 = .ok (.getfield 7, 3) := by decide +kernel
theorem dX9_cut_22 : decode cX9_cut 22 = .ok (.bipush 16, 2) := by decide +kernel
theorem dX9_cut_24 : decode cX9_cut 24 = .ok (.iload_n 1, 1) := by decide +kernel
theorem dX9_cut_25 : decode cX9_cut 25 = .ok (.imul, 1) := by decide +kernel
theorem dX9_cut_26 : decode cX9_cut 26 = .ok (.iload_n 2, 1) := by decide +kernel
theorem dX9_cut_27 : decode cX9_cut 27 = .ok (.iadd, 1) := by decide +kernel
theorem dX9_cut_28 : decode cX9_cut 28 = .ok (.baload, 1) := by decide +kernel
theorem dX9_cut_29 : decode cX9_cut 29 = .ok (.ifCond .ne 5, 3) := by decide +kernel
theorem dX9_cut_32 : decode cX9_cut 32 = .ok (.iconst 0, 1) := by decide +kernel
theorem dX9_cut_33 : decode cX9_cut 33 = .ok (.ireturn, 1) := by decide +kernel
theorem dX9_cut_34 : decode cX9_cut 34 = .ok (.aload_n 0, 1) := by decide +kernel
theorem dX9_cut_35 : decode cX9_cut 35 = .ok (.getfield 7, 3) := by decide +kernel
theorem dX9_cut_38 : decode cX9_cut 38 = .ok (.bipush 16, 2) := by decide +kernel
theorem dX9_cut_40 : decode cX9_cut 40 = .ok (.iload_n 1, 1) := by decide +kernel
theorem dX9_cut_41 : decode cX9_cut 41 = .ok (.imul, 1) := by decide +kernel
theorem dX9_cut_42 : decode cX9_cut 42 = .ok (.iload_n 2, 1) := by decide +kernel
theorem dX9_cut_43 : decode cX9_cut 43 = .ok (.iadd, 1) := by decide +kernel
theorem dX9_cut_44 : decode cX9_cut 44 = .ok (.iconst 0, 1) := by decide +kernel
theorem dX9_cut_45 : decode cX9_cut 45 = .ok (.bastore, 1) := by decide +kernel
theorem dX9_cut_46 : decode cX9_cut 46 = .ok (.aload_n 0, 1) := by decide +kernel
theorem dX9_cut_47 : decode cX9_cut 47 = .ok (.invokevirtual 228, 3) := by decide +kernel
theorem dX9_cut_50 : decode cX9_cut 50 = .ok (.iconst 1, 1) := by decide +kernel
theorem dX9_cut_51 : decode cX9_cut 51 = .ok (.ireturn, 1) := by decide +kernel
/-! MixfixDeskModel.cut(II)I -/
abbrev rm_X9_cut : Room := { frames := 1, cells := 0, slots := 0, locals := 21 }
theorem X9_cut_inX9 : ∀ w ∈ wsX90, w ∈ wsX9_cut := by exact fun w h => List.mem_cons_of_mem _ (List.mem_append_right _ h)
abbrev RT_X9_cut (p : Program) (l : Launch) (e : Env) (s : State) (m : MethodId) (args : Array Value) (below : List Frame) (meth : Method) (c : Code) (Q : State → Prop) (dC : Nat → ClassId) (dI : Nat → Nat → Nat) (cI cJ cB cZ : ClassId) (A : Nat → Prop) (aM : Nat → Nat) (M_nodes : Int32) (M_operators : Int32) (M_textSize : Int32) (M_wordCount : Int32) (M_items : Int32) (M_piled : Int32) (M_outSize : Int32) (M_told : Int32) (M_standing : Int32) (res : Int32 × (Nat → Int32) × Int32 × Int32) : Prop := ∀ (v : Int32) (M_isTighter : Nat → Int32) (M_isParsed : Int32) (M_isTaken : Int32), some (v, M_isTighter, M_isParsed, M_isTaken) = some res → ∀ (pc : Nat) (H : Heap) (locs : List Loc) (ls : Array Slot), decode cX9_cut pc = .ok (.ireturn, 1) → va_P (dC, dI) vwCl [((aM 0), .inr (9, oX9 aM M_nodes M_operators M_textSize M_wordCount M_isParsed M_isTaken M_items M_piled M_outSize M_told M_standing)), ((aM 2), .inl (cZ, 256, .inl M_isTighter))] H → va_D A [((aM 0), .inr (9, oX9 aM M_nodes M_operators M_textSize M_wordCount M_isParsed M_isTaken M_items M_piled M_outSize M_told M_standing)), ((aM 2), .inl (cZ, 256, .inl M_isTighter))] → va_S A s.heap H locs → W p l e rm_X9_cut s m args below meth c H locs 0 0 Q (F0 m pc ls [.int v])
set_option maxHeartbeats 4000000 in
set_option maxRecDepth 100000 in
theorem k_X9_cut_E {p : Program} {l : Launch} {e : Env} {s : State} {m : MethodId} {args : Array Value} {below : List Frame} {meth : Method} {c : Code} {Q : State → Prop} {dC : Nat → ClassId} {dI : Nat → Nat → Nat} {cI cJ cB cZ : ClassId} {A : Nat → Prop} (C0 : Cx p s m meth c args cX9_cut 3 (some .int) wsX9_cut RX9) (hK : va_K (dC, dI) vwCl [(cI, .int), (cJ, .long), (cB, .byte), (cZ, .boolean)] s) (hN : NW s) (hA : ∀ q, s.heap.size ≤ q → A q) (aM : Nat → Nat) (M_nodes : Int32) (M_operators : Int32) (M_textSize : Int32) (M_wordCount : Int32) (M_items : Int32) (M_piled : Int32) (M_outSize : Int32) (M_told : Int32) (M_standing : Int32) (res : Int32 × (Nat → Int32) × Int32 × Int32) (RET : RT_X9_cut p l e s m args below meth c Q dC dI cI cJ cB cZ A aM M_nodes M_operators M_textSize M_wordCount M_items M_piled M_outSize M_told M_standing res) : ∀ (M_isTighter : Nat → Int32) (M_isParsed : Int32) (M_isTaken : Int32) (p0 : Int32) (p1 : Int32), m_X9_cut M_nodes M_isTighter M_isParsed M_isTaken p0 p1 = some res → ∀ (H : Heap) (locs : List Loc), va_P (dC, dI) vwCl [((aM 0), .inr (9, oX9 aM M_nodes M_operators M_textSize M_wordCount M_isParsed M_isTaken M_items M_piled M_outSize M_told M_standing)), ((aM 2), .inl (cZ, 256, .inl M_isTighter))] H → va_D A [((aM 0), .inr (9, oX9 aM M_nodes M_operators M_textSize M_wordCount M_isParsed M_isTaken M_items M_piled M_outSize M_told M_standing)), ((aM 2), .inl (cZ, 256, .inl M_isTighter))] → va_S A s.heap H locs → ∀ (ls : Array Slot), lv_has ls 3 [(0, .ref (aM 0)), (1, .int p0), (2, .int p1)] → W p l e rm_X9_cut s m args below meth c H locs 0 0 Q (F0 m 0 ls []) := by
  obtain ⟨⟨hx, hb, hml, hown, hts⟩, hr, hlocks⟩ := id C0
  intro M_isTighter M_isParsed M_isTaken p0 p1 hm H locs hP hD hS ls hl
  have hm : (Option.bind (m_X9_isNode M_nodes p0) (fun r_1 => if r_1 = 0 then (some ((-1), M_isTighter, M_isParsed, M_isTaken)) else (Option.bind (m_X9_isNode M_nodes p1) (fun r_4 => if r_4 = 0 then (some ((-1), M_isTighter, M_isParsed, M_isTaken)) else (gd ((16 * p0) + p1) 256 (if (M_isTighter ((16 * p0) + p1).toNatClampNeg) = 0 then (some (0, M_isTighter, M_isParsed, M_isTaken)) else (gd ((16 * p0) + p1) 256 (Option.bind (m_X9_gone M_isParsed M_isTaken) (fun r_10 => some (1, upd M_isTighter ((16 * p0) + p1).toNatClampNeg (vp_nar .boolean 0), r_10.1, r_10.2)))))))))) = some res := hm
  refine lv_aload_n hx hb dX9_cut_0 rfl (lv_at hl 0 rfl) ?_
  refine lv_iload_n hx hb dX9_cut_1 rfl (lv_at hl 1 rfl) ?_
  obtain ⟨r_1, hc_2, hm⟩ := ob_some hm
  refine cx_i (wr := [((aM 2), .inl (cZ, 256, .inl M_isTighter))]) (va_runV (As := [.int p0]) (rest := []) C0.1 (c_X9_isNode l dC dI cI cJ cB cZ aM H.size M_nodes M_operators M_textSize M_wordCount M_isParsed M_isTaken M_items M_piled M_outSize M_told M_standing p0 r_1 hc_2) (cwV 1 hts gX9_cut_X9_isNode rfl rfl rfl (by decide +kernel) ⟨Nat.le_of_ble_eq_true rfl, Nat.le_of_ble_eq_true rfl⟩) (cP_V (ci := 9) (q0 := 0) hK hN hP hD rfl rfl [0] (by decide) rfl) rfl rfl hl.1 rfl (lv_room (Nat.le_of_ble_eq_true rfl)) dX9_cut_2 ⟨Nat.le_of_ble_eq_true rfl, Nat.le_of_ble_eq_true rfl⟩) hP hD hS hA [0] [1] rfl rfl (by decide) (by decide) (fun H locs hP hD hS => ?_)
  have hP : va_P (dC, dI) vwCl [((aM 2), .inl (cZ, 256, .inl M_isTighter)), ((aM 0), .inr (9, oX9 aM M_nodes M_operators M_textSize M_wordCount M_isParsed M_isTaken M_items M_piled M_outSize M_told M_standing))] H := hP
  have hD : va_D A [((aM 2), .inl (cZ, 256, .inl M_isTighter)), ((aM 0), .inr (9, oX9 aM M_nodes M_operators M_textSize M_wordCount M_isParsed M_isTaken M_items M_piled M_outSize M_told M_standing))] := hD
  refine lv_if_eq (tgt := 16) hx hb dX9_cut_5 (by decide) (fun c_3 => ?_) (fun c_3 => ?_)
  · have hm := it_some c_3 hm
    refine lv_iconst (v := (-1)) hx hb dX9_cut_16 (by decide) ?_
    exact RET (-1) M_isTighter M_isParsed M_isTaken hm _ H locs ls dX9_cut_17 (P_sub' hP [1, 0] rfl) (hD.sub [1, 0] (by decide) rfl) hS
  · have hm := if_some' c_3 hm
    refine lv_aload_n hx hb dX9_cut_8 rfl (lv_at hl 0 rfl) ?_
    refine lv_iload_n hx hb dX9_cut_9 rfl (lv_at hl 2 rfl) ?_
    obtain ⟨r_4, hc_5, hm⟩ := ob_some hm
    refine cx_i (wr := [((aM 2), .inl (cZ, 256, .inl M_isTighter))]) (va_runV (As := [.int p1]) (rest := []) C0.1 (c_X9_isNode l dC dI cI cJ cB cZ aM H.size M_nodes M_operators M_textSize M_wordCount M_isParsed M_isTaken M_items M_piled M_outSize M_told M_standing p1 r_4 hc_5) (cwV 1 hts gX9_cut_X9_isNode rfl rfl rfl (by decide +kernel) ⟨Nat.le_of_ble_eq_true rfl, Nat.le_of_ble_eq_true rfl⟩) (cP_V (ci := 9) (q0 := 1) hK hN hP hD rfl rfl [1] (by decide) rfl) rfl rfl hl.1 rfl (lv_room (Nat.le_of_ble_eq_true rfl)) dX9_cut_10 ⟨Nat.le_of_ble_eq_true rfl, Nat.le_of_ble_eq_true rfl⟩) hP hD hS hA [1] [0] rfl rfl (by decide) (by decide) (fun H locs hP hD hS => ?_)
    have hP : va_P (dC, dI) vwCl [((aM 2), .inl (cZ, 256, .inl M_isTighter)), ((aM 0), .inr (9, oX9 aM M_nodes M_operators M_textSize M_wordCount M_isParsed M_isTaken M_items M_piled M_outSize M_told M_standing))] H := hP
    have hD : va_D A [((aM 2), .inl (cZ, 256, .inl M_isTighter)), ((aM 0), .inr (9, oX9 aM M_nodes M_operators M_textSize M_wordCount M_isParsed M_isTaken M_items M_piled M_outSize M_told M_standing))] := hD
    refine lv_if_ne (tgt := 18) hx hb dX9_cut_13 (by decide) (fun c_6 => ?_) (fun c_6 => ?_)
    · have hm := if_some' c_6 hm
      refine lv_aload_n hx hb dX9_cut_18 rfl (lv_at hl 0 rfl) ?_
      refine va_get (D := (dC, dI)) (ci := 9) (v := .ref (aM 2)) (C := RX9) (T := TX9) (N := 53) hx hb hts X9_cut_inX9 hown hK hP 1 rfl rfl 1 (by decide) (hts (.fieldLink RX9 7 "MixfixDeskModel" "isTighter" "[Z") (List.mem_of_getElem? (i := 1) rfl)) (fun _ h9 => h9) rfl dX9_cut_19 ?_
      refine lv_bipush (v := 16) hx hb dX9_cut_22 (by decide) ?_
      refine lv_iload_n hx hb dX9_cut_24 rfl (lv_at hl 1 rfl) ?_
      refine lv_imul hx hb dX9_cut_25 ?_
      refine lv_iload_n hx hb dX9_cut_26 rfl (lv_at hl 2 rfl) ?_
      refine lv_iadd hx hb dX9_cut_27 ?_
      obtain ⟨hi_7, hm⟩ := gd_some hm
      refine va_zald (D := (dC, dI)) hx hb hK hP 0 3 rfl rfl hi_7 dX9_cut_28 ?_
      refine lv_if_ne (tgt := 34) hx hb dX9_cut_29 (by decide) (fun c_8 => ?_) (fun c_8 => ?_)
      · have hm := if_some' c_8 hm
        refine lv_aload_n hx hb dX9_cut_34 rfl (lv_at hl 0 rfl) ?_
        refine va_get (D := (dC, dI)) (ci := 9) (v := .ref (aM 2)) (C := RX9) (T := TX9) (N := 53) hx hb hts X9_cut_inX9 hown hK hP 1 rfl rfl 1 (by decide) (hts (.fieldLink RX9 7 "MixfixDeskModel" "isTighter" "[Z") (List.mem_of_getElem? (i := 1) rfl)) (fun _ h9 => h9) rfl dX9_cut_35 ?_
        refine lv_bipush (v := 16) hx hb dX9_cut_38 (by decide) ?_
        refine lv_iload_n hx hb dX9_cut_40 rfl (lv_at hl 1 rfl) ?_
        refine lv_imul hx hb dX9_cut_41 ?_
        refine lv_iload_n hx hb dX9_cut_42 rfl (lv_at hl 2 rfl) ?_
        refine lv_iadd hx hb dX9_cut_43 ?_
        refine lv_iconst (v := 0) hx hb dX9_cut_44 (by decide) ?_
        obtain ⟨hi_9, hm⟩ := gd_some hm
        refine va_zast (D := (dC, dI)) hx hb hK hP hD hS 0 3 rfl rfl hi_9 dX9_cut_45 (fun H locs hP hD hS => ?_)
        have hP : va_P (dC, dI) vwCl [((aM 2), .inl (cZ, 256, .inl (upd M_isTighter ((16 * p0) + p1).toNatClampNeg (vp_nar .boolean 0)))), ((aM 0), .inr (9, oX9 aM M_nodes M_operators M_textSize M_wordCount M_isParsed M_isTaken M_items M_piled M_outSize M_told M_standing))] H := hP
        have hD : va_D A [((aM 2), .inl (cZ, 256, .inl (upd M_isTighter ((16 * p0) + p1).toNatClampNeg (vp_nar .boolean 0)))), ((aM 0), .inr (9, oX9 aM M_nodes M_operators M_textSize M_wordCount M_isParsed M_isTaken M_items M_piled M_outSize M_told M_standing))] := hD
        refine lv_aload_n hx hb dX9_cut_46 rfl (lv_at hl 0 rfl) ?_
        obtain ⟨r_10, hc_11, hm⟩ := ob_some hm
        refine cx_v (wr := [((aM 2), .inl (cZ, 256, .inl (upd M_isTighter ((16 * p0) + p1).toNatClampNeg (vp_nar .boolean 0))))]) (va_runV (As := []) (rest := []) C0.1 (c_X9_gone l dC dI cI cJ cB cZ aM H.size M_nodes M_operators M_textSize M_wordCount M_isParsed M_isTaken M_items M_piled M_outSize M_told M_standing r_10 hc_11) (cwV 0 hts gX9_cut_X9_gone rfl rfl rfl (by decide +kernel) ⟨Nat.le_of_ble_eq_true rfl, Nat.le_of_ble_eq_true rfl⟩) (cP_V (ci := 9) (q0 := 1) hK hN hP hD rfl rfl [1] (by decide) rfl) rfl rfl hl.1 rfl (lv_room (Nat.le_of_ble_eq_true rfl)) dX9_cut_47 ⟨Nat.le_of_ble_eq_true rfl, Nat.le_of_ble_eq_true rfl⟩) hP hD hS hA [1] [0] rfl rfl (by decide) (by decide) (fun H locs hP hD hS => ?_)
        have hP : va_P (dC, dI) vwCl [((aM 2), .inl (cZ, 256, .inl (upd M_isTighter ((16 * p0) + p1).toNatClampNeg (vp_nar .boolean 0)))), ((aM 0), .inr (9, oX9 aM M_nodes M_operators M_textSize M_wordCount r_10.1 r_10.2 M_items M_piled M_outSize M_told M_standing))] H := hP
        have hD : va_D A [((aM 2), .inl (cZ, 256, .inl (upd M_isTighter ((16 * p0) + p1).toNatClampNeg (vp_nar .boolean 0)))), ((aM 0), .inr (9, oX9 aM M_nodes M_operators M_textSize M_wordCount r_10.1 r_10.2 M_items M_piled M_outSize M_told M_standing))] := hD
        refine lv_iconst (v := 1) hx hb dX9_cut_50 (by decide) ?_
        exact RET 1 (upd M_isTighter ((16 * p0) + p1).toNatClampNeg (vp_nar .boolean 0)) r_10.1 r_10.2 hm _ H locs ls dX9_cut_51 (P_sub' hP [1, 0] rfl) (hD.sub [1, 0] (by decide) rfl) hS
      · have hm := it_some c_8 hm
        refine lv_iconst (v := 0) hx hb dX9_cut_32 (by decide) ?_
        exact RET 0 M_isTighter M_isParsed M_isTaken hm _ H locs ls dX9_cut_33 (P_sub' hP [1, 0] rfl) (hD.sub [1, 0] (by decide) rfl) hS
    · have hm := it_some c_6 hm
      refine lv_iconst (v := (-1)) hx hb dX9_cut_16 (by decide) ?_
      exact RET (-1) M_isTighter M_isParsed M_isTaken hm _ H locs ls dX9_cut_17 (P_sub' hP [1, 0] rfl) (hD.sub [1, 0] (by decide) rfl) hS
set_option maxHeartbeats 4000000 in
set_option maxRecDepth 100000 in
theorem c_X9_cut (l : Launch) (dC : Nat → ClassId) (dI : Nat → Nat → Nat) (cI cJ cB cZ : ClassId) (aM : Nat → Nat) (sz : Nat) (M_nodes : Int32) (M_operators : Int32) (M_textSize : Int32) (M_wordCount : Int32) (M_isParsed : Int32) (M_isTaken : Int32) (M_items : Int32) (M_piled : Int32) (M_outSize : Int32) (M_told : Int32) (M_standing : Int32) (M_isTighter : Nat → Int32) (p0 : Int32) (p1 : Int32) (res : Int32 × (Nat → Int32) × Int32 × Int32) (hm : m_X9_cut M_nodes M_isTighter M_isParsed M_isTaken p0 p1 = some res) : Met l yX9_cut wsX9_cut rm_X9_cut (cP (dC, dI) vwCl [(cI, .int), (cJ, .long), (cB, .byte), (cZ, .boolean)] [.ref (aM 0), .int p0, .int p1] [((aM 0), .inr (9, oX9 aM M_nodes M_operators M_textSize M_wordCount M_isParsed M_isTaken M_items M_piled M_outSize M_told M_standing)), ((aM 2), .inl (cZ, 256, .inl M_isTighter))] sz) (cQi res.1 (dC, dI) vwCl [((aM 0), .inr (9, oX9 aM M_nodes M_operators M_textSize M_wordCount res.2.2.1 res.2.2.2 M_items M_piled M_outSize M_told M_standing)), ((aM 2), .inl (cZ, 256, .inl res.2.1))] [((aM 0), .inr (9, oX9 aM M_nodes M_operators M_textSize M_wordCount M_isParsed M_isTaken M_items M_piled M_outSize M_told M_standing)), ((aM 2), .inl (cZ, 256, .inl M_isTighter))] sz) 0 0 (va_A [((aM 0), .inr (9, oX9 aM M_nodes M_operators M_textSize M_wordCount M_isParsed M_isTaken M_items M_piled M_outSize M_told M_standing)), ((aM 2), .inl (cZ, 256, .inl M_isTighter))] sz) := by
  refine cx_of (cc := cX9_cut) (maxL := 3) (ret := (some .int)) (own := RX9) (by decide) rfl rfl (Nat.le_of_ble_eq_true rfl) ?_
  intro p e s m below meth c A C0 hinN hK hN hsz hAe hA hP hD hS ls hl
  refine k_X9_cut_E C0 hK hN hA aM M_nodes M_operators M_textSize M_wordCount M_items M_piled M_outSize M_told M_standing res ?_ M_isTighter M_isParsed M_isTaken p0 p1 hm _ _ hP hD hS ls hl
  intro v M_isTighter M_isParsed M_isTaken he pc H locs ls hdg hP hD hS
  have he := Option.some.inj he
  subst he
  exact cx_reti C0 hsz hAe hdg hP hD hS

theorem dX9_isRow_0 : decode cX9_isRow 0 = .ok (.aload_n 0, 1) := by decide +kernel
theorem dX9_isRow_1 : decode cX9_isRow 1 = .ok (.getfield 145, 3) := by decide +kernel
theorem dX9_isRow_4 : decode cX9_isRow 4 = .ok (.ifCond .le 16, 3) := by decide +kernel
theorem dX9_isRow_7 : decode cX9_isRow 7 = .ok (.aload_n 0, 1) := by decide +kernel
theorem dX9_isRow_8 : decode cX9_isRow 8 = .ok (.getfield 145, 3) := by decide +kernel
theorem dX9_isRow_11 : decode cX9_isRow 11 = .ok (.bipush 10, 2) := by decide +kernel
theorem dX9_isRow_13 : decode cX9_isRow 13 = .ok (.if_icmp .ge 7, 3) := by decide +kernel
theorem dX9_isRow_16 : decode cX9_isRow 16 = .ok (.iconst 1, 1) := by decide +kernel
theorem dX9_isRow_17 : decode cX9_isRow 17 = .ok (.goto 4, 3) := by decide +kernel
theorem dX9_isRow_20 : decode cX9_isRow 20 = .ok (.iconst 0, 1) := by decide +kernel
theorem dX9_isRow_21 : decode cX9_isRow 21 = .ok (.istore_n 1, 1) := by decide +kernel
theorem dX9_isRow_22 : decode cX9_isRow 22 = .ok (.iconst 0, 1) := by decide +kernel
theorem dX9_isRow_23 : decode cX9_isRow 23 = .ok (.istore_n 2, 1) := by decide +kernel
theorem dX9_isRow_24 : decode cX9_isRow 24 = .ok (.iconst 0, 1) := by decide +kernel
theorem dX9_isRow_25 : decode cX9_isRow 25 = .ok (.istore_n 3, 1) := by decide +kernel
theorem dX9_isRow_26 : decode cX9_isRow 26 = .ok (.iload_n 3, 1) := by decide +kernel
theorem dX9_isRow_27 : decode cX9_isRow 27 = .ok (.aload_n 0, 1) := by decide +kernel
theorem dX9_isRow_28 : decode cX9_isRow 28 = .ok (.getfield 145, 3) := by decide +kernel
theorem dX9_isRow_31 : decode cX9_isRow 31 = .ok (.if_icmp .ge 74, 3) := by decide +kernel
theorem dX9_isRow_34 : decode cX9_isRow 34 = .ok (.iload_n 1, 1) := by decide +kernel
theorem dX9_isRow_35 : decode cX9_isRow 35 = .ok (.ifCond .eq 70, 3) := by decide +kernel
theorem dX9_isRow_38 : decode cX9_isRow 38 = .ok (.iload_n 2, 1) := by decide +kernel
theorem dX9_isRow_39 : decode cX9_isRow 39 = .ok (.ifCond .ne 16, 3) := by decide +kernel
theorem dX9_isRow_42 : decode cX9_isRow 42 = .ok (.aload_n 0, 1) := by decide +kernel
theorem dX9_isRow_43 : decode cX9_isRow 43 = .ok (.getfield 33, 3) := by decide +kernel
theorem dX9_isRow_46 : decode cX9_isRow 46 = .ok (.iload_n 3, 1) := by decide +kernel
theorem dX9_isRow_47 : decode cX9_isRow 47 = .ok (.laload, 1) := by decide +kernel
theorem dX9_isRow_48 : decode cX9_isRow 48 = .ok (.ldc2_w 154, 3) := by decide +kernel
theorem dX9_isRow_51 : decode cX9_isRow 51 = .ok (.lcmp, 1) := by decide +kernel
theorem dX9_isRow_52 : decode cX9_isRow 52 = .ok (.ifCond .eq 7, 3) := by decide +kernel
theorem dX9_isRow_55 : decode cX9_isRow 55 = .ok (.iconst 1, 1) := by decide +kernel
theorem dX9_isRow_56 : decode cX9_isRow 56 = .ok (.goto 4, 3) := by decide +kernel
theorem dX9_isRow_59 : decode cX9_isRow 59 = .ok (.iconst 0, 1) := by decide +kernel
theorem dX9_isRow_60 : decode cX9_isRow 60 = .ok (.istore_n 2, 1) := by decide +kernel
theorem dX9_isRow_61 : decode cX9_isRow 61 = .ok (.iload_n 3, 1) := by decide +kernel
theorem dX9_isRow_62 : decode cX9_isRow 62 = .ok (.ifCond .eq 31, 3) := by decide +kernel
theorem dX9_isRow_65 : decode cX9_isRow 65 = .ok (.aload_n 0, 1) := by decide +kernel
theorem dX9_isRow_66 : decode cX9_isRow 66 = .ok (.getfield 33, 3) := by decide +kernel
theorem dX9_isRow_69 : decode cX9_isRow 69 = .ok (.iload_n 3, 1) := by decide +kernel
theorem dX9_isRow_70 : decode cX9_isRow 70 = .ok (.laload, 1) := by decide +kernel
theorem dX9_isRow_71 : decode cX9_isRow 71 = .ok (.ldc2_w 154, 3) := by decide +kernel
theorem dX9_isRow_74 : decode cX9_isRow 74 = .ok (.lcmp, 1) := by decide +kernel
theorem dX9_isRow_75 : decode cX9_isRow 75 = .ok (.ifCond .ne 18, 3) := by decide +kernel
theorem dX9_isRow_78 : decode cX9_isRow 78 = .ok (.aload_n 0, 1) := by decide +kernel
theorem dX9_isRow_79 : decode cX9_isRow 79 = .ok (.getfield 33, 3) := by decide +kernel
theorem dX9_isRow_82 : decode cX9_isRow 82 = .ok (.iload_n 3, 1) := by decide +kernel
theorem dX9_isRow_83 : decode cX9_isRow 83 = .ok (.iconst 1, 1) := by decide +kernel
theorem dX9_isRow_84 : decode cX9_isRow 84 = .ok (.isub, 1) := by decide +kernel
theorem dX9_isRow_85 : decode cX9_isRow 85 = .ok (.laload, 1) := by decide +kernel
theorem dX9_isRow_86 : decode cX9_isRow 86 = .ok (.ldc2_w 154, 3) := by decide +kernel
theorem dX9_isRow_89 : decode cX9_isRow 89 = .ok (.lcmp, 1) := by decide +kernel
theorem dX9_isRow_90 : decode cX9_isRow 90 = .ok (.ifCond .eq 7, 3) := by decide +kernel
theorem dX9_isRow_93 : decode cX9_isRow 93 = .ok (.iconst 1, 1) := by decide +kernel
theorem dX9_isRow_94 : decode cX9_isRow 94 = .ok (.goto 4, 3) := by decide +kernel
theorem dX9_isRow_97 : decode cX9_isRow 97 = .ok (.iconst 0, 1) := by decide +kernel
theorem dX9_isRow_98 : decode cX9_isRow 98 = .ok (.istore_n 1, 1) := by decide +kernel
theorem dX9_isRow_99 : decode cX9_isRow 99 = .ok (.iinc 3 1, 3) := by decide +kernel
theorem dX9_isRow_102 : decode cX9_isRow 102 = .ok (.goto (-76), 3) := by decide +kernel
theorem dX9_isRow_105 : decode cX9_isRow 105 = .ok (.iload_n 1, 1) := by decide +kernel
theorem dX9_isRow_106 : decode cX9_isRow 106 = .ok (.ifCond .eq 11, 3) := by decide +kernel
theorem dX9_isRow_109 : decode cX9_isRow 109 = .ok (.iload_n 2, 1) := by decide +kernel
theorem dX9_isRow_110 : decode cX9_isRow 110 = .ok (.ifCond .eq 7, 3) := by decide +kernel
theorem dX9_isRow_113 : decode cX9_isRow 113 = .ok (.iconst 1, 1) := by decide +kernel
theorem dX9_isRow_114 : decode cX9_isRow 114 = .ok (.goto 4, 3) := by decide +kernel
theorem dX9_isRow_117 : decode cX9_isRow 117 = .ok (.iconst 0, 1) := by decide +kernel
theorem dX9_isRow_118 : decode cX9_isRow 118 = .ok (.ireturn, 1) := by decide +kernel
/-! MixfixDeskModel.isRow()Z -/
abbrev rm_X9_isRow : Room := { frames := 0, cells := 0, slots := 0, locals := 0 }
theorem X9_isRow_inX9 : ∀ w ∈ wsX90, w ∈ wsX9_isRow := by exact fun w h => List.mem_cons_of_mem _ (List.mem_append_right _ h)
abbrev RT_X9_isRow (p : Program) (l : Launch) (e : Env) (s : State) (m : MethodId) (args : Array Value) (below : List Frame) (meth : Method) (c : Code) (Q : State → Prop) (dC : Nat → ClassId) (dI : Nat → Nat → Nat) (cI cJ cB cZ : ClassId) (A : Nat → Prop) (aM : Nat → Nat) (M_nodes : Int32) (M_operators : Int32) (M_textSize : Int32) (M_wordCount : Int32) (M_isParsed : Int32) (M_isTaken : Int32) (M_items : Int32) (M_piled : Int32) (M_outSize : Int32) (M_told : Int32) (M_standing : Int32) (M_word : Nat → Int64) (res : Int32) : Prop := ∀ (v : Int32) , some v = some res → narrow .boolean (.int v) = .int v → ∀ (pc : Nat) (H : Heap) (locs : List Loc) (ls : Array Slot), decode cX9_isRow pc = .ok (.ireturn, 1) → va_P (dC, dI) vwCl [((aM 0), .inr (9, oX9 aM M_nodes M_operators M_textSize M_wordCount M_isParsed M_isTaken M_items M_piled M_outSize M_told M_standing)), ((aM 11), .inl (cJ, 760, .inr (.inl M_word)))] H → va_D A [((aM 0), .inr (9, oX9 aM M_nodes M_operators M_textSize M_wordCount M_isParsed M_isTaken M_items M_piled M_outSize M_told M_standing)), ((aM 11), .inl (cJ, 760, .inr (.inl M_word)))] → va_S A s.heap H locs → W p l e rm_X9_isRow s m args below meth c H locs 0 0 Q (F0 m pc ls [.int v])
set_option maxHeartbeats 4000000 in
set_option maxRecDepth 100000 in
theorem k_X9_isRow_98 {p : Program} {l : Launch} {e : Env} {s : State} {m : MethodId} {args : Array Value} {below : List Frame} {meth : Method} {c : Code} {Q : State → Prop} {dC : Nat → ClassId} {dI : Nat → Nat → Nat} {cI cJ cB cZ : ClassId} {A : Nat → Prop} (C0 : Cx p s m meth c args cX9_isRow 4 (some .boolean) wsX9_isRow RX9) (hK : va_K (dC, dI) vwCl [(cI, .int), (cJ, .long), (cB, .byte), (cZ, .boolean)] s) (hN : NW s) (hA : ∀ q, s.heap.size ≤ q → A q) (aM : Nat → Nat) (M_nodes : Int32) (M_operators : Int32) (M_textSize : Int32) (M_wordCount : Int32) (M_isParsed : Int32) (M_isTaken : Int32) (M_items : Int32) (M_piled : Int32) (M_outSize : Int32) (M_told : Int32) (M_standing : Int32) (M_word : Nat → Int64) (res : Int32) (RET : RT_X9_isRow p l e s m args below meth c Q dC dI cI cJ cB cZ A aM M_nodes M_operators M_textSize M_wordCount M_isParsed M_isTaken M_items M_piled M_outSize M_told M_standing M_word res) (k26 : Int32 → Int32 → Int32 → Option (Int32)) (hk26 : ∀ (x1 : Int32) (x2 : Int32) (x3 : Int32), k26 x1 x2 x3 = some res → ∀ (H : Heap) (locs : List Loc), va_P (dC, dI) vwCl [((aM 0), .inr (9, oX9 aM M_nodes M_operators M_textSize M_wordCount M_isParsed M_isTaken M_items M_piled M_outSize M_told M_standing)), ((aM 11), .inl (cJ, 760, .inr (.inl M_word)))] H → va_D A [((aM 0), .inr (9, oX9 aM M_nodes M_operators M_textSize M_wordCount M_isParsed M_isTaken M_items M_piled M_outSize M_told M_standing)), ((aM 11), .inl (cJ, 760, .inr (.inl M_word)))] → va_S A s.heap H locs → ∀ (ls : Array Slot), lv_has ls 4 [(0, .ref (aM 0)), (1, .int x1), (2, .int x2), (3, .int x3)] → W p l e rm_X9_isRow s m args below meth c H locs 0 0 Q (F0 m 26 ls [])) : ∀ (x2 : Int32) (x3 : Int32) (y0 : Int32), m_X9_isRow_98 M_wordCount M_word k26 x2 x3 y0 = some res → ∀ (H : Heap) (locs : List Loc), va_P (dC, dI) vwCl [((aM 0), .inr (9, oX9 aM M_nodes M_operators M_textSize M_wordCount M_isParsed M_isTaken M_items M_piled M_outSize M_told M_standing)), ((aM 11), .inl (cJ, 760, .inr (.inl M_word)))] H → va_D A [((aM 0), .inr (9, oX9 aM M_nodes M_operators M_textSize M_wordCount M_isParsed M_isTaken M_items M_piled M_outSize M_told M_standing)), ((aM 11), .inl (cJ, 760, .inr (.inl M_word)))] → va_S A s.heap H locs → ∀ (ls : Array Slot), lv_has ls 4 [(0, .ref (aM 0)), (2, .int x2), (3, .int x3)] → W p l e rm_X9_isRow s m args below meth c H locs 0 0 Q (F0 m 98 ls [.int y0]) := by
  obtain ⟨⟨hx, hb, hml, hown, hts⟩, hr, hlocks⟩ := id C0
  intro x2 x3 y0 hm H locs hP hD hS ls hl
  have hm : (k26 y0 x2 (x3 + 1)) = some res := hm
  refine lv_istore_n (lv' := [(1, .int y0), (0, .ref (aM 0)), (2, .int x2), (3, .int x3)]) hx hb dX9_isRow_98 rfl hl (by decide) rfl (fun ls hl => ?_)
  refine lv_iinc (v := x3 + 1) (lv' := [(3, .int (x3 + 1)), (1, .int y0), (0, .ref (aM 0)), (2, .int x2)]) hx hb dX9_isRow_99 hl (k := 3) rfl rfl (by decide) rfl (fun ls hl => ?_)
  refine lv_goto (tgt := 26) hx hb dX9_isRow_102 (by decide) ?_
  exact hk26 y0 x2 (x3 + 1) hm H locs hP hD hS ls (lv_sub hl [2, 1, 3, 0] rfl)
set_option maxHeartbeats 4000000 in
set_option maxRecDepth 100000 in
theorem k_X9_isRow_93 {p : Program} {l : Launch} {e : Env} {s : State} {m : MethodId} {args : Array Value} {below : List Frame} {meth : Method} {c : Code} {Q : State → Prop} {dC : Nat → ClassId} {dI : Nat → Nat → Nat} {cI cJ cB cZ : ClassId} {A : Nat → Prop} (C0 : Cx p s m meth c args cX9_isRow 4 (some .boolean) wsX9_isRow RX9) (hK : va_K (dC, dI) vwCl [(cI, .int), (cJ, .long), (cB, .byte), (cZ, .boolean)] s) (hN : NW s) (hA : ∀ q, s.heap.size ≤ q → A q) (aM : Nat → Nat) (M_nodes : Int32) (M_operators : Int32) (M_textSize : Int32) (M_wordCount : Int32) (M_isParsed : Int32) (M_isTaken : Int32) (M_items : Int32) (M_piled : Int32) (M_outSize : Int32) (M_told : Int32) (M_standing : Int32) (M_word : Nat → Int64) (res : Int32) (RET : RT_X9_isRow p l e s m args below meth c Q dC dI cI cJ cB cZ A aM M_nodes M_operators M_textSize M_wordCount M_isParsed M_isTaken M_items M_piled M_outSize M_told M_standing M_word res) (k26 : Int32 → Int32 → Int32 → Option (Int32)) (hk26 : ∀ (x1 : Int32) (x2 : Int32) (x3 : Int32), k26 x1 x2 x3 = some res → ∀ (H : Heap) (locs : List Loc), va_P (dC, dI) vwCl [((aM 0), .inr (9, oX9 aM M_nodes M_operators M_textSize M_wordCount M_isParsed M_isTaken M_items M_piled M_outSize M_told M_standing)), ((aM 11), .inl (cJ, 760, .inr (.inl M_word)))] H → va_D A [((aM 0), .inr (9, oX9 aM M_nodes M_operators M_textSize M_wordCount M_isParsed M_isTaken M_items M_piled M_outSize M_told M_standing)), ((aM 11), .inl (cJ, 760, .inr (.inl M_word)))] → va_S A s.heap H locs → ∀ (ls : Array Slot), lv_has ls 4 [(0, .ref (aM 0)), (1, .int x1), (2, .int x2), (3, .int x3)] → W p l e rm_X9_isRow s m args below meth c H locs 0 0 Q (F0 m 26 ls [])) : ∀ (x2 : Int32) (x3 : Int32), m_X9_isRow_93 M_wordCount M_word k26 x2 x3 = some res → ∀ (H : Heap) (locs : List Loc), va_P (dC, dI) vwCl [((aM 0), .inr (9, oX9 aM M_nodes M_operators M_textSize M_wordCount M_isParsed M_isTaken M_items M_piled M_outSize M_told M_standing)), ((aM 11), .inl (cJ, 760, .inr (.inl M_word)))] H → va_D A [((aM 0), .inr (9, oX9 aM M_nodes M_operators M_textSize M_wordCount M_isParsed M_isTaken M_items M_piled M_outSize M_told M_standing)), ((aM 11), .inl (cJ, 760, .inr (.inl M_word)))] → va_S A s.heap H locs → ∀ (ls : Array Slot), lv_has ls 4 [(0, .ref (aM 0)), (2, .int x2), (3, .int x3)] → W p l e rm_X9_isRow s m args below meth c H locs 0 0 Q (F0 m 93 ls []) := by
  obtain ⟨⟨hx, hb, hml, hown, hts⟩, hr, hlocks⟩ := id C0
  intro x2 x3 hm H locs hP hD hS ls hl
  have hm : (m_X9_isRow_98 M_wordCount M_word k26 x2 x3 1) = some res := hm
  refine lv_iconst (v := 1) hx hb dX9_isRow_93 (by decide) ?_
  refine lv_goto (tgt := 98) hx hb dX9_isRow_94 (by decide) ?_
  exact k_X9_isRow_98 C0 hK hN hA aM M_nodes M_operators M_textSize M_wordCount M_isParsed M_isTaken M_items M_piled M_outSize M_told M_standing M_word res RET k26 hk26 x2 x3 1 hm H locs hP hD hS ls hl
set_option maxHeartbeats 4000000 in
set_option maxRecDepth 100000 in
theorem k_X9_isRow_60 {p : Program} {l : Launch} {e : Env} {s : State} {m : MethodId} {args : Array Value} {below : List Frame} {meth : Method} {c : Code} {Q : State → Prop} {dC : Nat → ClassId} {dI : Nat → Nat → Nat} {cI cJ cB cZ : ClassId} {A : Nat → Prop} (C0 : Cx p s m meth c args cX9_isRow 4 (some .boolean) wsX9_isRow RX9) (hK : va_K (dC, dI) vwCl [(cI, .int), (cJ, .long), (cB, .byte), (cZ, .boolean)] s) (hN : NW s) (hA : ∀ q, s.heap.size ≤ q → A q) (aM : Nat → Nat) (M_nodes : Int32) (M_operators : Int32) (M_textSize : Int32) (M_wordCount : Int32) (M_isParsed : Int32) (M_isTaken : Int32) (M_items : Int32) (M_piled : Int32) (M_outSize : Int32) (M_told : Int32) (M_standing : Int32) (M_word : Nat → Int64) (res : Int32) (RET : RT_X9_isRow p l e s m args below meth c Q dC dI cI cJ cB cZ A aM M_nodes M_operators M_textSize M_wordCount M_isParsed M_isTaken M_items M_piled M_outSize M_told M_standing M_word res) (k26 : Int32 → Int32 → Int32 → Option (Int32)) (hk26 : ∀ (x1 : Int32) (x2 : Int32) (x3 : Int32), k26 x1 x2 x3 = some res → ∀ (H : Heap) (locs : List Loc), va_P (dC, dI) vwCl [((aM 0), .inr (9, oX9 aM M_nodes M_operators M_textSize M_wordCount M_isParsed M_isTaken M_items M_piled M_outSize M_told M_standing)), ((aM 11), .inl (cJ, 760, .inr (.inl M_word)))] H → va_D A [((aM 0), .inr (9, oX9 aM M_nodes M_operators M_textSize M_wordCount M_isParsed M_isTaken M_items M_piled M_outSize M_told M_standing)), ((aM 11), .inl (cJ, 760, .inr (.inl M_word)))] → va_S A s.heap H locs → ∀ (ls : Array Slot), lv_has ls 4 [(0, .ref (aM 0)), (1, .int x1), (2, .int x2), (3, .int x3)] → W p l e rm_X9_isRow s m args below meth c H locs 0 0 Q (F0 m 26 ls [])) : ∀ (x3 : Int32) (y0 : Int32), m_X9_isRow_60 M_wordCount M_word k26 x3 y0 = some res → ∀ (H : Heap) (locs : List Loc), va_P (dC, dI) vwCl [((aM 0), .inr (9, oX9 aM M_nodes M_operators M_textSize M_wordCount M_isParsed M_isTaken M_items M_piled M_outSize M_told M_standing)), ((aM 11), .inl (cJ, 760, .inr (.inl M_word)))] H → va_D A [((aM 0), .inr (9, oX9 aM M_nodes M_operators M_textSize M_wordCount M_isParsed M_isTaken M_items M_piled M_outSize M_told M_standing)), ((aM 11), .inl (cJ, 760, .inr (.inl M_word)))] → va_S A s.heap H locs → ∀ (ls : Array Slot), lv_has ls 4 [(0, .ref (aM 0)), (3, .int x3)] → W p l e rm_X9_isRow s m args below meth c H locs 0 0 Q (F0 m 60 ls [.int y0]) := by
  obtain ⟨⟨hx, hb, hml, hown, hts⟩, hr, hlocks⟩ := id C0
  intro x3 y0 hm H locs hP hD hS ls hl
  have hm : (if x3 = 0 then (m_X9_isRow_93 M_wordCount M_word k26 y0 x3) else (gd x3 760 (if (lg_cmp (M_word x3.toNatClampNeg) 95) = 0 then (gd (x3 - 1) 760 (if (lg_cmp (M_word (x3 - 1).toNatClampNeg) 95) = 0 then (m_X9_isRow_98 M_wordCount M_word k26 y0 x3 0) else (m_X9_isRow_93 M_wordCount M_word k26 y0 x3))) else (m_X9_isRow_93 M_wordCount M_word k26 y0 x3)))) = some res := hm
  refine lv_istore_n (lv' := [(2, .int y0), (0, .ref (aM 0)), (3, .int x3)]) hx hb dX9_isRow_60 rfl hl (by decide) rfl (fun ls hl => ?_)
  refine lv_iload_n hx hb dX9_isRow_61 rfl (lv_at hl 2 rfl) ?_
  refine lv_if_eq (tgt := 93) hx hb dX9_isRow_62 (by decide) (fun c_1 => ?_) (fun c_1 => ?_)
  · have hm := it_some c_1 hm
    exact k_X9_isRow_93 C0 hK hN hA aM M_nodes M_operators M_textSize M_wordCount M_isParsed M_isTaken M_items M_piled M_outSize M_told M_standing M_word res RET k26 hk26 y0 x3 hm H locs hP hD hS ls (lv_sub hl [1, 0, 2] rfl)
  · have hm := if_some' c_1 hm
    refine lv_aload_n hx hb dX9_isRow_65 rfl (lv_at hl 1 rfl) ?_
    refine va_get (D := (dC, dI)) (ci := 9) (v := .ref (aM 11)) (C := RX9) (T := TX9) (N := 53) hx hb hts X9_isRow_inX9 hown hK hP 0 rfl rfl 10 (by decide) (hts (.fieldLink RX9 33 "MixfixDeskModel" "word" "[J") (List.mem_of_getElem? (i := 2) rfl)) (fun _ h9 => h9) rfl dX9_isRow_66 ?_
    refine lv_iload_n hx hb dX9_isRow_69 rfl (lv_at hl 2 rfl) ?_
    obtain ⟨hi_2, hm⟩ := gd_some hm
    refine va_lald (D := (dC, dI)) hx hb hK hP 1 1 rfl rfl hi_2 dX9_isRow_70 ?_
    refine lv_ldc2 (v := 95) hx hb hown (hts (.constantLong RX9 154 (95)) (List.mem_of_getElem? (i := 3) rfl)) dX9_isRow_71 ?_
    refine W.lcmp hx hb dX9_isRow_74 ?_
    refine lv_if_ne (tgt := 93) hx hb dX9_isRow_75 (by decide) (fun c_3 => ?_) (fun c_3 => ?_)
    · have hm := if_some' c_3 hm
      exact k_X9_isRow_93 C0 hK hN hA aM M_nodes M_operators M_textSize M_wordCount M_isParsed M_isTaken M_items M_piled M_outSize M_told M_standing M_word res RET k26 hk26 y0 x3 hm H locs hP hD hS ls (lv_sub hl [1, 0, 2] rfl)
    · have hm := it_some c_3 hm
      refine lv_aload_n hx hb dX9_isRow_78 rfl (lv_at hl 1 rfl) ?_
      refine va_get (D := (dC, dI)) (ci := 9) (v := .ref (aM 11)) (C := RX9) (T := TX9) (N := 53) hx hb hts X9_isRow_inX9 hown hK hP 0 rfl rfl 10 (by decide) (hts (.fieldLink RX9 33 "MixfixDeskModel" "word" "[J") (List.mem_of_getElem? (i := 2) rfl)) (fun _ h9 => h9) rfl dX9_isRow_79 ?_
      refine lv_iload_n hx hb dX9_isRow_82 rfl (lv_at hl 2 rfl) ?_
      refine lv_iconst (v := 1) hx hb dX9_isRow_83 (by decide) ?_
      refine lv_isub hx hb dX9_isRow_84 ?_
      obtain ⟨hi_4, hm⟩ := gd_some hm
      refine va_lald (D := (dC, dI)) hx hb hK hP 1 1 rfl rfl hi_4 dX9_isRow_85 ?_
      refine lv_ldc2 (v := 95) hx hb hown (hts (.constantLong RX9 154 (95)) (List.mem_of_getElem? (i := 3) rfl)) dX9_isRow_86 ?_
      refine W.lcmp hx hb dX9_isRow_89 ?_
      refine lv_if_eq (tgt := 97) hx hb dX9_isRow_90 (by decide) (fun c_5 => ?_) (fun c_5 => ?_)
      · have hm := it_some c_5 hm
        refine lv_iconst (v := 0) hx hb dX9_isRow_97 (by decide) ?_
        exact k_X9_isRow_98 C0 hK hN hA aM M_nodes M_operators M_textSize M_wordCount M_isParsed M_isTaken M_items M_piled M_outSize M_told M_standing M_word res RET k26 hk26 y0 x3 0 hm H locs hP hD hS ls (lv_sub hl [1, 0, 2] rfl)
      · have hm := if_some' c_5 hm
        exact k_X9_isRow_93 C0 hK hN hA aM M_nodes M_operators M_textSize M_wordCount M_isParsed M_isTaken M_items M_piled M_outSize M_told M_standing M_word res RET k26 hk26 y0 x3 hm H locs hP hD hS ls (lv_sub hl [1, 0, 2] rfl)
set_option maxHeartbeats 4000000 in
set_option maxRecDepth 100000 in
theorem k_X9_isRow_55 {p : Program} {l : Launch} {e : Env} {s : State} {m : MethodId} {args : Array Value} {below : List Frame} {meth : Method} {c : Code} {Q : State → Prop} {dC : Nat → ClassId} {dI : Nat → Nat → Nat} {cI cJ cB cZ : ClassId} {A : Nat → Prop} (C0 : Cx p s m meth c args cX9_isRow 4 (some .boolean) wsX9_isRow RX9) (hK : va_K (dC, dI) vwCl [(cI, .int), (cJ, .long), (cB, .byte), (cZ, .boolean)] s) (hN : NW s) (hA : ∀ q, s.heap.size ≤ q → A q) (aM : Nat → Nat) (M_nodes : Int32) (M_operators : Int32) (M_textSize : Int32) (M_wordCount : Int32) (M_isParsed : Int32) (M_isTaken : Int32) (M_items : Int32) (M_piled : Int32) (M_outSize : Int32) (M_told : Int32) (M_standing : Int32) (M_word : Nat → Int64) (res : Int32) (RET : RT_X9_isRow p l e s m args below meth c Q dC dI cI cJ cB cZ A aM M_nodes M_operators M_textSize M_wordCount M_isParsed M_isTaken M_items M_piled M_outSize M_told M_standing M_word res) (k26 : Int32 → Int32 → Int32 → Option (Int32)) (hk26 : ∀ (x1 : Int32) (x2 : Int32) (x3 : Int32), k26 x1 x2 x3 = some res → ∀ (H : Heap) (locs : List Loc), va_P (dC, dI) vwCl [((aM 0), .inr (9, oX9 aM M_nodes M_operators M_textSize M_wordCount M_isParsed M_isTaken M_items M_piled M_outSize M_told M_standing)), ((aM 11), .inl (cJ, 760, .inr (.inl M_word)))] H → va_D A [((aM 0), .inr (9, oX9 aM M_nodes M_operators M_textSize M_wordCount M_isParsed M_isTaken M_items M_piled M_outSize M_told M_standing)), ((aM 11), .inl (cJ, 760, .inr (.inl M_word)))] → va_S A s.heap H locs → ∀ (ls : Array Slot), lv_has ls 4 [(0, .ref (aM 0)), (1, .int x1), (2, .int x2), (3, .int x3)] → W p l e rm_X9_isRow s m args below meth c H locs 0 0 Q (F0 m 26 ls [])) : ∀ (x3 : Int32), m_X9_isRow_55 M_wordCount M_word k26 x3 = some res → ∀ (H : Heap) (locs : List Loc), va_P (dC, dI) vwCl [((aM 0), .inr (9, oX9 aM M_nodes M_operators M_textSize M_wordCount M_isParsed M_isTaken M_items M_piled M_outSize M_told M_standing)), ((aM 11), .inl (cJ, 760, .inr (.inl M_word)))] H → va_D A [((aM 0), .inr (9, oX9 aM M_nodes M_operators M_textSize M_wordCount M_isParsed M_isTaken M_items M_piled M_outSize M_told M_standing)), ((aM 11), .inl (cJ, 760, .inr (.inl M_word)))] → va_S A s.heap H locs → ∀ (ls : Array Slot), lv_has ls 4 [(0, .ref (aM 0)), (3, .int x3)] → W p l e rm_X9_isRow s m args below meth c H locs 0 0 Q (F0 m 55 ls []) := by
  obtain ⟨⟨hx, hb, hml, hown, hts⟩, hr, hlocks⟩ := id C0
  intro x3 hm H locs hP hD hS ls hl
  have hm : (m_X9_isRow_60 M_wordCount M_word k26 x3 1) = some res := hm
  refine lv_iconst (v := 1) hx hb dX9_isRow_55 (by decide) ?_
  refine lv_goto (tgt := 60) hx hb dX9_isRow_56 (by decide) ?_
  exact k_X9_isRow_60 C0 hK hN hA aM M_nodes M_operators M_textSize M_wordCount M_isParsed M_isTaken M_items M_piled M_outSize M_told M_standing M_word res RET k26 hk26 x3 1 hm H locs hP hD hS ls hl
set_option maxHeartbeats 4000000 in
set_option maxRecDepth 100000 in
theorem k_X9_isRow_105 {p : Program} {l : Launch} {e : Env} {s : State} {m : MethodId} {args : Array Value} {below : List Frame} {meth : Method} {c : Code} {Q : State → Prop} {dC : Nat → ClassId} {dI : Nat → Nat → Nat} {cI cJ cB cZ : ClassId} {A : Nat → Prop} (C0 : Cx p s m meth c args cX9_isRow 4 (some .boolean) wsX9_isRow RX9) (hK : va_K (dC, dI) vwCl [(cI, .int), (cJ, .long), (cB, .byte), (cZ, .boolean)] s) (hN : NW s) (hA : ∀ q, s.heap.size ≤ q → A q) (aM : Nat → Nat) (M_nodes : Int32) (M_operators : Int32) (M_textSize : Int32) (M_wordCount : Int32) (M_isParsed : Int32) (M_isTaken : Int32) (M_items : Int32) (M_piled : Int32) (M_outSize : Int32) (M_told : Int32) (M_standing : Int32) (M_word : Nat → Int64) (res : Int32) (RET : RT_X9_isRow p l e s m args below meth c Q dC dI cI cJ cB cZ A aM M_nodes M_operators M_textSize M_wordCount M_isParsed M_isTaken M_items M_piled M_outSize M_told M_standing M_word res)   : ∀ (x1 : Int32) (x2 : Int32), m_X9_isRow_105 M_wordCount M_word x1 x2 = some res → ∀ (H : Heap) (locs : List Loc), va_P (dC, dI) vwCl [((aM 0), .inr (9, oX9 aM M_nodes M_operators M_textSize M_wordCount M_isParsed M_isTaken M_items M_piled M_outSize M_told M_standing)), ((aM 11), .inl (cJ, 760, .inr (.inl M_word)))] H → va_D A [((aM 0), .inr (9, oX9 aM M_nodes M_operators M_textSize M_wordCount M_isParsed M_isTaken M_items M_piled M_outSize M_told M_standing)), ((aM 11), .inl (cJ, 760, .inr (.inl M_word)))] → va_S A s.heap H locs → ∀ (ls : Array Slot), lv_has ls 4 [(1, .int x1), (2, .int x2)] → W p l e rm_X9_isRow s m args below meth c H locs 0 0 Q (F0 m 105 ls []) := by
  obtain ⟨⟨hx, hb, hml, hown, hts⟩, hr, hlocks⟩ := id C0
  intro x1 x2 hm H locs hP hD hS ls hl
  have hm : (if x1 = 0 then (some 0) else (if x2 = 0 then (some 0) else (some 1))) = some res := hm
  refine lv_iload_n hx hb dX9_isRow_105 rfl (lv_at hl 0 rfl) ?_
  refine lv_if_eq (tgt := 117) hx hb dX9_isRow_106 (by decide) (fun c_6 => ?_) (fun c_6 => ?_)
  · have hm := it_some c_6 hm
    refine lv_iconst (v := 0) hx hb dX9_isRow_117 (by decide) ?_
    exact RET 0 hm rfl _ H locs ls dX9_isRow_118 hP hD hS
  · have hm := if_some' c_6 hm
    refine lv_iload_n hx hb dX9_isRow_109 rfl (lv_at hl 1 rfl) ?_
    refine lv_if_eq (tgt := 117) hx hb dX9_isRow_110 (by decide) (fun c_7 => ?_) (fun c_7 => ?_)
    · have hm := it_some c_7 hm
      refine lv_iconst (v := 0) hx hb dX9_isRow_117 (by decide) ?_
      exact RET 0 hm rfl _ H locs ls dX9_isRow_118 hP hD hS
    · have hm := if_some' c_7 hm
      refine lv_iconst (v := 1) hx hb dX9_isRow_113 (by decide) ?_
      refine lv_goto (tgt := 118) hx hb dX9_isRow_114 (by decide) ?_
      exact RET 1 hm rfl _ H locs ls dX9_isRow_118 hP hD hS
set_option maxHeartbeats 4000000 in
set_option maxRecDepth 100000 in
theorem k_X9_isRow_26 {p : Program} {l : Launch} {e : Env} {s : State} {m : MethodId} {args : Array Value} {below : List Frame} {meth : Method} {c : Code} {Q : State → Prop} {dC : Nat → ClassId} {dI : Nat → Nat → Nat} {cI cJ cB cZ : ClassId} {A : Nat → Prop} (C0 : Cx p s m meth c args cX9_isRow 4 (some .boolean) wsX9_isRow RX9) (hK : va_K (dC, dI) vwCl [(cI, .int), (cJ, .long), (cB, .byte), (cZ, .boolean)] s) (hN : NW s) (hA : ∀ q, s.heap.size ≤ q → A q) (aM : Nat → Nat) (M_nodes : Int32) (M_operators : Int32) (M_textSize : Int32) (M_wordCount : Int32) (M_isParsed : Int32) (M_isTaken : Int32) (M_items : Int32) (M_piled : Int32) (M_outSize : Int32) (M_told : Int32) (M_standing : Int32) (M_word : Nat → Int64) (res : Int32) (RET : RT_X9_isRow p l e s m args below meth c Q dC dI cI cJ cB cZ A aM M_nodes M_operators M_textSize M_wordCount M_isParsed M_isTaken M_items M_piled M_outSize M_told M_standing M_word res)   : ∀ (n : Nat) (x1 : Int32) (x2 : Int32) (x3 : Int32), m_X9_isRow_26 M_wordCount M_word n x1 x2 x3 = some res → ∀ (H : Heap) (locs : List Loc), va_P (dC, dI) vwCl [((aM 0), .inr (9, oX9 aM M_nodes M_operators M_textSize M_wordCount M_isParsed M_isTaken M_items M_piled M_outSize M_told M_standing)), ((aM 11), .inl (cJ, 760, .inr (.inl M_word)))] H → va_D A [((aM 0), .inr (9, oX9 aM M_nodes M_operators M_textSize M_wordCount M_isParsed M_isTaken M_items M_piled M_outSize M_told M_standing)), ((aM 11), .inl (cJ, 760, .inr (.inl M_word)))] → va_S A s.heap H locs → ∀ (ls : Array Slot), lv_has ls 4 [(0, .ref (aM 0)), (1, .int x1), (2, .int x2), (3, .int x3)] → W p l e rm_X9_isRow s m args below meth c H locs 0 0 Q (F0 m 26 ls []) := by
  obtain ⟨⟨hx, hb, hml, hown, hts⟩, hr, hlocks⟩ := id C0
  intro n
  induction n with
  | zero =>
    intro x1 x2 x3 hm
    exact absurd hm (by intro h; cases h)
  | succ n ih =>
    intro x1 x2 x3 hm H locs hP hD hS ls hl
    have hm : (if M_wordCount ≤ x3 then (m_X9_isRow_105 M_wordCount M_word x1 x2) else (if x1 = 0 then (m_X9_isRow_105 M_wordCount M_word x1 x2) else (if x2 = 0 then (gd x3 760 (if (lg_cmp (M_word x3.toNatClampNeg) 95) = 0 then (m_X9_isRow_60 M_wordCount M_word (m_X9_isRow_26 M_wordCount M_word n) x3 0) else (m_X9_isRow_55 M_wordCount M_word (m_X9_isRow_26 M_wordCount M_word n) x3))) else (m_X9_isRow_55 M_wordCount M_word (m_X9_isRow_26 M_wordCount M_word n) x3)))) = some res := hm
    refine lv_iload_n hx hb dX9_isRow_26 rfl (lv_at hl 3 rfl) ?_
    refine lv_aload_n hx hb dX9_isRow_27 rfl (lv_at hl 0 rfl) ?_
    refine va_get (D := (dC, dI)) (ci := 9) (v := .int M_wordCount) (C := RX9) (T := TX9) (N := 53) hx hb hts X9_isRow_inX9 hown hK hP 0 rfl rfl 11 (by decide) (hts (.fieldLink RX9 145 "MixfixDeskModel" "wordCount" "I") (List.mem_of_getElem? (i := 1) rfl)) (fun _ h9 => h9) rfl dX9_isRow_28 ?_
    refine lv_icmp_ge (tgt := 105) hx hb dX9_isRow_31 (by decide) (fun c_8 => ?_) (fun c_8 => ?_)
    · have hm := it_some c_8 hm
      exact k_X9_isRow_105 C0 hK hN hA aM M_nodes M_operators M_textSize M_wordCount M_isParsed M_isTaken M_items M_piled M_outSize M_told M_standing M_word res RET x1 x2 hm H locs hP hD hS ls (lv_sub hl [1, 2] rfl)
    · have hm := if_some' c_8 hm
      refine lv_iload_n hx hb dX9_isRow_34 rfl (lv_at hl 1 rfl) ?_
      refine lv_if_eq (tgt := 105) hx hb dX9_isRow_35 (by decide) (fun c_9 => ?_) (fun c_9 => ?_)
      · have hm := it_some c_9 hm
        exact k_X9_isRow_105 C0 hK hN hA aM M_nodes M_operators M_textSize M_wordCount M_isParsed M_isTaken M_items M_piled M_outSize M_told M_standing M_word res RET x1 x2 hm H locs hP hD hS ls (lv_sub hl [1, 2] rfl)
      · have hm := if_some' c_9 hm
        refine lv_iload_n hx hb dX9_isRow_38 rfl (lv_at hl 2 rfl) ?_
        refine lv_if_ne (tgt := 55) hx hb dX9_isRow_39 (by decide) (fun c_10 => ?_) (fun c_10 => ?_)
        · have hm := if_some' c_10 hm
          exact k_X9_isRow_55 C0 hK hN hA aM M_nodes M_operators M_textSize M_wordCount M_isParsed M_isTaken M_items M_piled M_outSize M_told M_standing M_word res RET (m_X9_isRow_26 M_wordCount M_word n) ih x3 hm H locs hP hD hS ls (lv_sub hl [0, 3] rfl)
        · have hm := it_some c_10 hm
          refine lv_aload_n hx hb dX9_isRow_42 rfl (lv_at hl 0 rfl) ?_
          refine va_get (D := (dC, dI)) (ci := 9) (v := .ref (aM 11)) (C := RX9) (T := TX9) (N := 53) hx hb hts X9_isRow_inX9 hown hK hP 0 rfl rfl 10 (by decide) (hts (.fieldLink RX9 33 "MixfixDeskModel" "word" "[J") (List.mem_of_getElem? (i := 2) rfl)) (fun _ h9 => h9) rfl dX9_isRow_43 ?_
          refine lv_iload_n hx hb dX9_isRow_46 rfl (lv_at hl 3 rfl) ?_
          obtain ⟨hi_11, hm⟩ := gd_some hm
          refine va_lald (D := (dC, dI)) hx hb hK hP 1 1 rfl rfl hi_11 dX9_isRow_47 ?_
          refine lv_ldc2 (v := 95) hx hb hown (hts (.constantLong RX9 154 (95)) (List.mem_of_getElem? (i := 3) rfl)) dX9_isRow_48 ?_
          refine W.lcmp hx hb dX9_isRow_51 ?_
          refine lv_if_eq (tgt := 59) hx hb dX9_isRow_52 (by decide) (fun c_12 => ?_) (fun c_12 => ?_)
          · have hm := it_some c_12 hm
            refine lv_iconst (v := 0) hx hb dX9_isRow_59 (by decide) ?_
            exact k_X9_isRow_60 C0 hK hN hA aM M_nodes M_operators M_textSize M_wordCount M_isParsed M_isTaken M_items M_piled M_outSize M_told M_standing M_word res RET (m_X9_isRow_26 M_wordCount M_word n) ih x3 0 hm H locs hP hD hS ls (lv_sub hl [0, 3] rfl)
          · have hm := if_some' c_12 hm
            exact k_X9_isRow_55 C0 hK hN hA aM M_nodes M_operators M_textSize M_wordCount M_isParsed M_isTaken M_items M_piled M_outSize M_told M_standing M_word res RET (m_X9_isRow_26 M_wordCount M_word n) ih x3 hm H locs hP hD hS ls (lv_sub hl [0, 3] rfl)
set_option maxHeartbeats 4000000 in
set_option maxRecDepth 100000 in
theorem k_X9_isRow_21 {p : Program} {l : Launch} {e : Env} {s : State} {m : MethodId} {args : Array Value} {below : List Frame} {meth : Method} {c : Code} {Q : State → Prop} {dC : Nat → ClassId} {dI : Nat → Nat → Nat} {cI cJ cB cZ : ClassId} {A : Nat → Prop} (C0 : Cx p s m meth c args cX9_isRow 4 (some .boolean) wsX9_isRow RX9) (hK : va_K (dC, dI) vwCl [(cI, .int), (cJ, .long), (cB, .byte), (cZ, .boolean)] s) (hN : NW s) (hA : ∀ q, s.heap.size ≤ q → A q) (aM : Nat → Nat) (M_nodes : Int32) (M_operators : Int32) (M_textSize : Int32) (M_wordCount : Int32) (M_isParsed : Int32) (M_isTaken : Int32) (M_items : Int32) (M_piled : Int32) (M_outSize : Int32) (M_told : Int32) (M_standing : Int32) (M_word : Nat → Int64) (res : Int32) (RET : RT_X9_isRow p l e s m args below meth c Q dC dI cI cJ cB cZ A aM M_nodes M_operators M_textSize M_wordCount M_isParsed M_isTaken M_items M_piled M_outSize M_told M_standing M_word res)   : ∀ (y0 : Int32), m_X9_isRow_21 M_wordCount M_word y0 = some res → ∀ (H : Heap) (locs : List Loc), va_P (dC, dI) vwCl [((aM 0), .inr (9, oX9 aM M_nodes M_operators M_textSize M_wordCount M_isParsed M_isTaken M_items M_piled M_outSize M_told M_standing)), ((aM 11), .inl (cJ, 760, .inr (.inl M_word)))] H → va_D A [((aM 0), .inr (9, oX9 aM M_nodes M_operators M_textSize M_wordCount M_isParsed M_isTaken M_items M_piled M_outSize M_told M_standing)), ((aM 11), .inl (cJ, 760, .inr (.inl M_word)))] → va_S A s.heap H locs → ∀ (ls : Array Slot), lv_has ls 4 [(0, .ref (aM 0))] → W p l e rm_X9_isRow s m args below meth c H locs 0 0 Q (F0 m 21 ls [.int y0]) := by
  obtain ⟨⟨hx, hb, hml, hown, hts⟩, hr, hlocks⟩ := id C0
  intro y0 hm H locs hP hD hS ls hl
  have hm : (m_X9_isRow_26 M_wordCount M_word FU y0 0 0) = some res := hm
  refine lv_istore_n (lv' := [(1, .int y0), (0, .ref (aM 0))]) hx hb dX9_isRow_21 rfl hl (by decide) rfl (fun ls hl => ?_)
  refine lv_iconst (v := 0) hx hb dX9_isRow_22 (by decide) ?_
  refine lv_istore_n (lv' := [(2, .int 0), (1, .int y0), (0, .ref (aM 0))]) hx hb dX9_isRow_23 rfl hl (by decide) rfl (fun ls hl => ?_)
  refine lv_iconst (v := 0) hx hb dX9_isRow_24 (by decide) ?_
  refine lv_istore_n (lv' := [(3, .int 0), (2, .int 0), (1, .int y0), (0, .ref (aM 0))]) hx hb dX9_isRow_25 rfl hl (by decide) rfl (fun ls hl => ?_)
  exact k_X9_isRow_26 C0 hK hN hA aM M_nodes M_operators M_textSize M_wordCount M_isParsed M_isTaken M_items M_piled M_outSize M_told M_standing M_word res RET FU y0 0 0 hm H locs hP hD hS ls (lv_sub hl [3, 2, 1, 0] rfl)
set_option maxHeartbeats 4000000 in
set_option maxRecDepth 100000 in
theorem k_X9_isRow_20 {p : Program} {l : Launch} {e : Env} {s : State} {m : MethodId} {args : Array Value} {below : List Frame} {meth : Method} {c : Code} {Q : State → Prop} {dC : Nat → ClassId} {dI : Nat → Nat → Nat} {cI cJ cB cZ : ClassId} {A : Nat → Prop} (C0 : Cx p s m meth c args cX9_isRow 4 (some .boolean) wsX9_isRow RX9) (hK : va_K (dC, dI) vwCl [(cI, .int), (cJ, .long), (cB, .byte), (cZ, .boolean)] s) (hN : NW s) (hA : ∀ q, s.heap.size ≤ q → A q) (aM : Nat → Nat) (M_nodes : Int32) (M_operators : Int32) (M_textSize : Int32) (M_wordCount : Int32) (M_isParsed : Int32) (M_isTaken : Int32) (M_items : Int32) (M_piled : Int32) (M_outSize : Int32) (M_told : Int32) (M_standing : Int32) (M_word : Nat → Int64) (res : Int32) (RET : RT_X9_isRow p l e s m args below meth c Q dC dI cI cJ cB cZ A aM M_nodes M_operators M_textSize M_wordCount M_isParsed M_isTaken M_items M_piled M_outSize M_told M_standing M_word res)   : m_X9_isRow_20 M_wordCount M_word = some res → ∀ (H : Heap) (locs : List Loc), va_P (dC, dI) vwCl [((aM 0), .inr (9, oX9 aM M_nodes M_operators M_textSize M_wordCount M_isParsed M_isTaken M_items M_piled M_outSize M_told M_standing)), ((aM 11), .inl (cJ, 760, .inr (.inl M_word)))] H → va_D A [((aM 0), .inr (9, oX9 aM M_nodes M_operators M_textSize M_wordCount M_isParsed M_isTaken M_items M_piled M_outSize M_told M_standing)), ((aM 11), .inl (cJ, 760, .inr (.inl M_word)))] → va_S A s.heap H locs → ∀ (ls : Array Slot), lv_has ls 4 [(0, .ref (aM 0))] → W p l e rm_X9_isRow s m args below meth c H locs 0 0 Q (F0 m 20 ls []) := by
  obtain ⟨⟨hx, hb, hml, hown, hts⟩, hr, hlocks⟩ := id C0
  intro  hm H locs hP hD hS ls hl
  have hm : (m_X9_isRow_21 M_wordCount M_word 0) = some res := hm
  refine lv_iconst (v := 0) hx hb dX9_isRow_20 (by decide) ?_
  exact k_X9_isRow_21 C0 hK hN hA aM M_nodes M_operators M_textSize M_wordCount M_isParsed M_isTaken M_items M_piled M_outSize M_told M_standing M_word res RET 0 hm H locs hP hD hS ls hl
set_option maxHeartbeats 4000000 in
set_option maxRecDepth 100000 in
theorem k_X9_isRow_E {p : Program} {l : Launch} {e : Env} {s : State} {m : MethodId} {args : Array Value} {below : List Frame} {meth : Method} {c : Code} {Q : State → Prop} {dC : Nat → ClassId} {dI : Nat → Nat → Nat} {cI cJ cB cZ : ClassId} {A : Nat → Prop} (C0 : Cx p s m meth c args cX9_isRow 4 (some .boolean) wsX9_isRow RX9) (hK : va_K (dC, dI) vwCl [(cI, .int), (cJ, .long), (cB, .byte), (cZ, .boolean)] s) (hN : NW s) (hA : ∀ q, s.heap.size ≤ q → A q) (aM : Nat → Nat) (M_nodes : Int32) (M_operators : Int32) (M_textSize : Int32) (M_wordCount : Int32) (M_isParsed : Int32) (M_isTaken : Int32) (M_items : Int32) (M_piled : Int32) (M_outSize : Int32) (M_told : Int32) (M_standing : Int32) (M_word : Nat → Int64) (res : Int32) (RET : RT_X9_isRow p l e s m args below meth c Q dC dI cI cJ cB cZ A aM M_nodes M_operators M_textSize M_wordCount M_isParsed M_isTaken M_items M_piled M_outSize M_told M_standing M_word res) : m_X9_isRow M_word M_wordCount = some res → ∀ (H : Heap) (locs : List Loc), va_P (dC, dI) vwCl [((aM 0), .inr (9, oX9 aM M_nodes M_operators M_textSize M_wordCount M_isParsed M_isTaken M_items M_piled M_outSize M_told M_standing)), ((aM 11), .inl (cJ, 760, .inr (.inl M_word)))] H → va_D A [((aM 0), .inr (9, oX9 aM M_nodes M_operators M_textSize M_wordCount M_isParsed M_isTaken M_items M_piled M_outSize M_told M_standing)), ((aM 11), .inl (cJ, 760, .inr (.inl M_word)))] → va_S A s.heap H locs → ∀ (ls : Array Slot), lv_has ls 4 [(0, .ref (aM 0))] → W p l e rm_X9_isRow s m args below meth c H locs 0 0 Q (F0 m 0 ls []) := by
  obtain ⟨⟨hx, hb, hml, hown, hts⟩, hr, hlocks⟩ := id C0
  intro  hm H locs hP hD hS ls hl
  have hm : (if M_wordCount ≤ 0 then (m_X9_isRow_20 M_wordCount M_word) else (if 10 ≤ M_wordCount then (m_X9_isRow_20 M_wordCount M_word) else (m_X9_isRow_21 M_wordCount M_word 1))) = some res := hm
  refine lv_aload_n hx hb dX9_isRow_0 rfl (lv_at hl 0 rfl) ?_
  refine va_get (D := (dC, dI)) (ci := 9) (v := .int M_wordCount) (C := RX9) (T := TX9) (N := 53) hx hb hts X9_isRow_inX9 hown hK hP 0 rfl rfl 11 (by decide) (hts (.fieldLink RX9 145 "MixfixDeskModel" "wordCount" "I") (List.mem_of_getElem? (i := 1) rfl)) (fun _ h9 => h9) rfl dX9_isRow_1 ?_
  refine lv_if_le (tgt := 20) hx hb dX9_isRow_4 (by decide) (fun c_13 => ?_) (fun c_13 => ?_)
  · have hm := it_some c_13 hm
    exact k_X9_isRow_20 C0 hK hN hA aM M_nodes M_operators M_textSize M_wordCount M_isParsed M_isTaken M_items M_piled M_outSize M_told M_standing M_word res RET hm H locs hP hD hS ls hl
  · have hm := if_some' c_13 hm
    refine lv_aload_n hx hb dX9_isRow_7 rfl (lv_at hl 0 rfl) ?_
    refine va_get (D := (dC, dI)) (ci := 9) (v := .int M_wordCount) (C := RX9) (T := TX9) (N := 53) hx hb hts X9_isRow_inX9 hown hK hP 0 rfl rfl 11 (by decide) (hts (.fieldLink RX9 145 "MixfixDeskModel" "wordCount" "I") (List.mem_of_getElem? (i := 1) rfl)) (fun _ h9 => h9) rfl dX9_isRow_8 ?_
    refine lv_bipush (v := 10) hx hb dX9_isRow_11 (by decide) ?_
    refine lv_icmp_ge (tgt := 20) hx hb dX9_isRow_13 (by decide) (fun c_14 => ?_) (fun c_14 => ?_)
    · have hm := it_some c_14 hm
      exact k_X9_isRow_20 C0 hK hN hA aM M_nodes M_operators M_textSize M_wordCount M_isParsed M_isTaken M_items M_piled M_outSize M_told M_standing M_word res RET hm H locs hP hD hS ls hl
    · have hm := if_some' c_14 hm
      refine lv_iconst (v := 1) hx hb dX9_isRow_16 (by decide) ?_
      refine lv_goto (tgt := 21) hx hb dX9_isRow_17 (by decide) ?_
      exact k_X9_isRow_21 C0 hK hN hA aM M_nodes M_operators M_textSize M_wordCount M_isParsed M_isTaken M_items M_piled M_outSize M_told M_standing M_word res RET 1 hm H locs hP hD hS ls hl
set_option maxHeartbeats 4000000 in
set_option maxRecDepth 100000 in
theorem c_X9_isRow (l : Launch) (dC : Nat → ClassId) (dI : Nat → Nat → Nat) (cI cJ cB cZ : ClassId) (aM : Nat → Nat) (sz : Nat) (M_nodes : Int32) (M_operators : Int32) (M_textSize : Int32) (M_wordCount : Int32) (M_isParsed : Int32) (M_isTaken : Int32) (M_items : Int32) (M_piled : Int32) (M_outSize : Int32) (M_told : Int32) (M_standing : Int32) (M_word : Nat → Int64) (res : Int32) (hm : m_X9_isRow M_word M_wordCount = some res) : Met l yX9_isRow wsX9_isRow rm_X9_isRow (cP (dC, dI) vwCl [(cI, .int), (cJ, .long), (cB, .byte), (cZ, .boolean)] [.ref (aM 0)] [((aM 0), .inr (9, oX9 aM M_nodes M_operators M_textSize M_wordCount M_isParsed M_isTaken M_items M_piled M_outSize M_told M_standing)), ((aM 11), .inl (cJ, 760, .inr (.inl M_word)))] sz) (cQi res (dC, dI) vwCl [((aM 0), .inr (9, oX9 aM M_nodes M_operators M_textSize M_wordCount M_isParsed M_isTaken M_items M_piled M_outSize M_told M_standing)), ((aM 11), .inl (cJ, 760, .inr (.inl M_word)))] [((aM 0), .inr (9, oX9 aM M_nodes M_operators M_textSize M_wordCount M_isParsed M_isTaken M_items M_piled M_outSize M_told M_standing)), ((aM 11), .inl (cJ, 760, .inr (.inl M_word)))] sz) 0 0 (va_A [((aM 0), .inr (9, oX9 aM M_nodes M_operators M_textSize M_wordCount M_isParsed M_isTaken M_items M_piled M_outSize M_told M_standing)), ((aM 11), .inl (cJ, 760, .inr (.inl M_word)))] sz) := by
  refine cx_of (cc := cX9_isRow) (maxL := 4) (ret := (some .boolean)) (own := RX9) (by decide) rfl rfl (Nat.le_of_ble_eq_true rfl) ?_
  intro p e s m below meth c A C0 hinN hK hN hsz hAe hA hP hD hS ls hl
  refine k_X9_isRow_E C0 hK hN hA aM M_nodes M_operators M_textSize M_wordCount M_isParsed M_isTaken M_items M_piled M_outSize M_told M_standing M_word res ?_  hm _ _ hP hD hS ls hl
  intro v he hn pc H locs ls hdg hP hD hS
  have he := Option.some.inj he
  subst he
  exact cx_retz C0 hn hsz hAe hdg hP hD hS

