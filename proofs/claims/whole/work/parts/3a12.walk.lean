set_option maxRecDepth 20000 in
theorem ggX9_about_X9_isHole : GoodIn wsX9_about wsX9_isHole := goodIn_r _ [9, 10, 11, 24, 25, 26, 27, 28, 29, 30, 31, 32, 33, 34, 35, 36, 37, 38, 39, 40, 41, 42, 43, 44, 45, 46, 47, 48, 49, 50, 51, 52, 53, 54, 55, 56, 57, 58, 59, 60, 61, 62, 63, 64, 65, 66, 67, 68, 69, 70, 71, 72, 73, 74, 75, 76] (by decide +kernel) (by decide +kernel)
set_option maxRecDepth 20000 in
theorem gX9_about_X9_isHole : GoodIn wsX9_about (wsV RX9 160 RX9 yX9_isHole wsX9_isHole) := goodIn_app (goodIn_of _ (by decide +kernel)) ggX9_about_X9_isHole
set_option maxRecDepth 20000 in
theorem ggX9_about_X9_shape : GoodIn wsX9_about wsX9_shape := goodIn_r _ [15, 16, 17, 18, 8, 19, 3, 5, 6, 7, 9, 10, 11, 20, 21, 22, 23, 24, 25, 26, 27, 28, 29, 30, 31, 32, 33, 34, 35, 36, 37, 38, 39, 40, 41, 42, 43, 44, 45, 46, 47, 48, 49, 50, 51, 52, 53, 54, 55, 56, 57, 58, 59, 60, 61, 62, 63, 64, 65, 66, 67, 68, 69, 70, 71, 72, 73, 74, 75, 76] (by decide +kernel) (by decide +kernel)
set_option maxRecDepth 20000 in
theorem gX9_about_X9_shape : GoodIn wsX9_about (wsV RX9 171 RX9 yX9_shape wsX9_shape) := goodIn_app (goodIn_of _ (by decide +kernel)) ggX9_about_X9_shape
theorem dX9_about_0 : decode cX9_about 0 = .ok (.iload_n 1, 1) := by decide +kernel
theorem dX9_about_1 : decode cX9_about 1 = .ok (.ifCond .lt 11, 3) := by decide +kernel
theorem dX9_about_4 : decode cX9_about 4 = .ok (.iload_n 1, 1) := by decide +kernel
theorem dX9_about_5 : decode cX9_about 5 = .ok (.aload_n 0, 1) := by decide +kernel
theorem dX9_about_6 : decode cX9_about 6 = .ok (.getfield 151, 3) := by decide +kernel
theorem dX9_about_9 : decode cX9_about 9 = .ok (.if_icmp .lt 5, 3) := by decide +kernel
theorem dX9_about_12 : decode cX9_about 12 = .ok (.iconst (-1), 1) := by decide +kernel
theorem dX9_about_13 : decode cX9_about 13 = .ok (.ireturn, 1) := by decide +kernel
theorem dX9_about_14 : decode cX9_about 14 = .ok (.iload_n 2, 1) := by decide +kernel
theorem dX9_about_15 : decode cX9_about 15 = .ok (.tableswitch 102 0 4 #[33, 40, 47, 89, 96], 33) := by decide +kernel
theorem dX9_about_48 : decode cX9_about 48 = .ok (.aload_n 0, 1) := by decide +kernel
theorem dX9_about_49 : decode cX9_about 49 = .ok (.getfield 21, 3) := by decide +kernel
theorem dX9_about_52 : decode cX9_about 52 = .ok (.iload_n 1, 1) := by decide +kernel
theorem dX9_about_53 : decode cX9_about 53 = .ok (.iaload, 1) := by decide +kernel
theorem dX9_about_54 : decode cX9_about 54 = .ok (.ireturn, 1) := by decide +kernel
theorem dX9_about_55 : decode cX9_about 55 = .ok (.aload_n 0, 1) := by decide +kernel
theorem dX9_about_56 : decode cX9_about 56 = .ok (.getfield 17, 3) := by decide +kernel
theorem dX9_about_59 : decode cX9_about 59 = .ok (.iload_n 1, 1) := by decide +kernel
theorem dX9_about_60 : decode cX9_about 60 = .ok (.iaload, 1) := by decide +kernel
theorem dX9_about_61 : decode cX9_about 61 = .ok (.ireturn, 1) := by decide +kernel
theorem dX9_about_62 : decode cX9_about 62 = .ok (.iconst 0, 1) := by decide +kernel
theorem dX9_about_63 : decode cX9_about 63 = .ok (.istore_n 3, 1) := by decide +kernel
theorem dX9_about_64 : decode cX9_about 64 = .ok (.iconst 0, 1) := by decide +kernel
theorem dX9_about_65 : decode cX9_about 65 = .ok (.istore 4, 2) := by decide +kernel
theorem dX9_about_67 : decode cX9_about 67 = .ok (.iload 4, 2) := by decide +kernel
theorem dX9_about_69 : decode cX9_about 69 = .ok (.aload_n 0, 1) := by decide +kernel
theorem dX9_about_70 : decode cX9_about 70 = .ok (.getfield 17, 3) := by decide +kernel
theorem dX9_about_73 : decode cX9_about 73 = .ok (.iload_n 1, 1) := by decide +kernel
theorem dX9_about_74 : decode cX9_about 74 = .ok (.iaload, 1) := by decide +kernel
theorem dX9_about_75 : decode cX9_about 75 = .ok (.if_icmp .ge 27, 3) := by decide +kernel
theorem dX9_about_78 : decode cX9_about 78 = .ok (.iload_n 3, 1) := by decide +kernel
theorem dX9_about_79 : decode cX9_about 79 = .ok (.aload_n 0, 1) := by decide +kernel
theorem dX9_about_80 : decode cX9_about 80 = .ok (.iload_n 1, 1) := by decide +kernel
theorem dX9_about_81 : decode cX9_about 81 = .ok (.iload 4, 2) := by decide +kernel
theorem dX9_about_83 : decode cX9_about 83 = .ok (.invokevirtual 160, 3) := by decide +kernel
theorem dX9_about_86 : decode cX9_about 86 = .ok (.ifCond .eq 7, 3) := by decide +kernel
theorem dX9_about_89 : decode cX9_about 89 = .ok (.iconst 1, 1) := by decide +kernel
theorem dX9_about_90 : decode cX9_about 90 = .ok (.goto 4, 3) := by decide +kernel
theorem dX9_about_93 : decode cX9_about 93 = .ok (.iconst 0, 1) := by decide +kernel
theorem dX9_about_94 : decode cX9_about 94 = .ok (.iadd, 1) := by decide +kernel
theorem dX9_about_95 : decode cX9_about 95 = .ok (.istore_n 3, 1) := by decide +kernel
theorem dX9_about_96 : decode cX9_about 96 = .ok (.iinc 4 1, 3) := by decide +kernel
theorem dX9_about_99 : decode cX9_about 99 = .ok (.goto (-32), 3) := by decide +kernel
theorem dX9_about_102 : decode cX9_about 102 = .ok (.iload_n 3, 1) := by decide +kernel
theorem dX9_about_103 : decode cX9_about 103 = .ok (.ireturn, 1) := by decide +kernel
theorem dX9_about_104 : decode cX9_about 104 = .ok (.aload_n 0, 1) := by decide +kernel
theorem dX9_about_105 : decode cX9_about 105 = .ok (.getfield 24, 3) := by decide +kernel
theorem dX9_about_108 : decode cX9_about 108 = .ok (.iload_n 1, 1) := by decide +kernel
theorem dX9_about_109 : decode cX9_about 109 = .ok (.iaload, 1) := by decide +kernel
theorem dX9_about_110 : decode cX9_about 110 = .ok (.ireturn, 1) := by decide +kernel
theorem dX9_about_111 : decode cX9_about 111 = .ok (.aload_n 0, 1) := by decide +kernel
theorem dX9_about_112 : decode cX9_about 112 = .ok (.iload_n 1, 1) := by decide +kernel
theorem dX9_about_113 : decode cX9_about 113 = .ok (.invokevirtual 171, 3) := by decide +kernel
theorem dX9_about_116 : decode cX9_about 116 = .ok (.ireturn, 1) := by decide +kernel
theorem dX9_about_117 : decode cX9_about 117 = .ok (.bipush (-2), 2) := by decide +kernel
theorem dX9_about_119 : decode cX9_about 119 = .ok (.ireturn, 1) := by decide +kernel
/-! MixfixDeskModel.about(II)I -/
abbrev rm_X9_about : Room := { frames := 3, cells := 0, slots := 0, locals := 64 }
theorem X9_about_inX9 : ∀ w ∈ wsX90, w ∈ wsX9_about := by exact fun w h => List.mem_cons_of_mem _ (List.mem_append_right _ h)
abbrev RT_X9_about (p : Program) (l : Launch) (e : Env) (s : State) (m : MethodId) (args : Array Value) (below : List Frame) (meth : Method) (c : Code) (Q : State → Prop) (dC : Nat → ClassId) (dI : Nat → Nat → Nat) (cI cJ cB cZ : ClassId) (A : Nat → Prop) (aM : Nat → Nat) (M_nodes : Int32) (M_operators : Int32) (M_textSize : Int32) (M_wordCount : Int32) (M_isParsed : Int32) (M_isTaken : Int32) (M_items : Int32) (M_piled : Int32) (M_outSize : Int32) (M_told : Int32) (M_standing : Int32) (M_elements : Nat → Int64) (M_elementCount : Nat → Int32) (M_nodeOf : Nat → Int32) (M_wayOf : Nat → Int32) (res : Int32) : Prop := ∀ (v : Int32) , some v = some res → ∀ (pc : Nat) (H : Heap) (locs : List Loc) (ls : Array Slot), decode cX9_about pc = .ok (.ireturn, 1) → va_P (dC, dI) vwCl [((aM 0), .inr (9, oX9 aM M_nodes M_operators M_textSize M_wordCount M_isParsed M_isTaken M_items M_piled M_outSize M_told M_standing)), ((aM 4), .inl (cJ, 270, .inr (.inl M_elements))), ((aM 5), .inl (cI, 30, .inl M_elementCount)), ((aM 6), .inl (cI, 30, .inl M_nodeOf)), ((aM 7), .inl (cI, 30, .inl M_wayOf))] H → va_D A [((aM 0), .inr (9, oX9 aM M_nodes M_operators M_textSize M_wordCount M_isParsed M_isTaken M_items M_piled M_outSize M_told M_standing)), ((aM 4), .inl (cJ, 270, .inr (.inl M_elements))), ((aM 5), .inl (cI, 30, .inl M_elementCount)), ((aM 6), .inl (cI, 30, .inl M_nodeOf)), ((aM 7), .inl (cI, 30, .inl M_wayOf))] → va_S A s.heap H locs → W p l e rm_X9_about s m args below meth c H locs 0 0 Q (F0 m pc ls [.int v])
set_option maxHeartbeats 4000000 in
set_option maxRecDepth 100000 in
theorem k_X9_about_94 {p : Program} {l : Launch} {e : Env} {s : State} {m : MethodId} {args : Array Value} {below : List Frame} {meth : Method} {c : Code} {Q : State → Prop} {dC : Nat → ClassId} {dI : Nat → Nat → Nat} {cI cJ cB cZ : ClassId} {A : Nat → Prop} (C0 : Cx p s m meth c args cX9_about 5 (some .int) wsX9_about RX9) (hK : va_K (dC, dI) vwCl [(cI, .int), (cJ, .long), (cB, .byte), (cZ, .boolean)] s) (hN : NW s) (hA : ∀ q, s.heap.size ≤ q → A q) (aM : Nat → Nat) (M_nodes : Int32) (M_operators : Int32) (M_textSize : Int32) (M_wordCount : Int32) (M_isParsed : Int32) (M_isTaken : Int32) (M_items : Int32) (M_piled : Int32) (M_outSize : Int32) (M_told : Int32) (M_standing : Int32) (M_elements : Nat → Int64) (M_elementCount : Nat → Int32) (M_nodeOf : Nat → Int32) (M_wayOf : Nat → Int32) (res : Int32) (RET : RT_X9_about p l e s m args below meth c Q dC dI cI cJ cB cZ A aM M_nodes M_operators M_textSize M_wordCount M_isParsed M_isTaken M_items M_piled M_outSize M_told M_standing M_elements M_elementCount M_nodeOf M_wayOf res) (k67 : Int32 → Int32 → Int32 → Option (Int32)) (hk67 : ∀ (x1 : Int32) (x3 : Int32) (x4 : Int32), k67 x1 x3 x4 = some res → ∀ (H : Heap) (locs : List Loc), va_P (dC, dI) vwCl [((aM 0), .inr (9, oX9 aM M_nodes M_operators M_textSize M_wordCount M_isParsed M_isTaken M_items M_piled M_outSize M_told M_standing)), ((aM 4), .inl (cJ, 270, .inr (.inl M_elements))), ((aM 5), .inl (cI, 30, .inl M_elementCount)), ((aM 6), .inl (cI, 30, .inl M_nodeOf)), ((aM 7), .inl (cI, 30, .inl M_wayOf))] H → va_D A [((aM 0), .inr (9, oX9 aM M_nodes M_operators M_textSize M_wordCount M_isParsed M_isTaken M_items M_piled M_outSize M_told M_standing)), ((aM 4), .inl (cJ, 270, .inr (.inl M_elements))), ((aM 5), .inl (cI, 30, .inl M_elementCount)), ((aM 6), .inl (cI, 30, .inl M_nodeOf)), ((aM 7), .inl (cI, 30, .inl M_wayOf))] → va_S A s.heap H locs → ∀ (ls : Array Slot), lv_has ls 5 [(0, .ref (aM 0)), (1, .int x1), (3, .int x3), (4, .int x4)] → W p l e rm_X9_about s m args below meth c H locs 0 0 Q (F0 m 67 ls [])) : ∀ (x1 : Int32) (x4 : Int32) (y0 : Int32) (y1 : Int32), m_X9_about_94 M_operators M_elements M_elementCount M_nodeOf M_wayOf k67 x1 x4 y0 y1 = some res → ∀ (H : Heap) (locs : List Loc), va_P (dC, dI) vwCl [((aM 0), .inr (9, oX9 aM M_nodes M_operators M_textSize M_wordCount M_isParsed M_isTaken M_items M_piled M_outSize M_told M_standing)), ((aM 4), .inl (cJ, 270, .inr (.inl M_elements))), ((aM 5), .inl (cI, 30, .inl M_elementCount)), ((aM 6), .inl (cI, 30, .inl M_nodeOf)), ((aM 7), .inl (cI, 30, .inl M_wayOf))] H → va_D A [((aM 0), .inr (9, oX9 aM M_nodes M_operators M_textSize M_wordCount M_isParsed M_isTaken M_items M_piled M_outSize M_told M_standing)), ((aM 4), .inl (cJ, 270, .inr (.inl M_elements))), ((aM 5), .inl (cI, 30, .inl M_elementCount)), ((aM 6), .inl (cI, 30, .inl M_nodeOf)), ((aM 7), .inl (cI, 30, .inl M_wayOf))] → va_S A s.heap H locs → ∀ (ls : Array Slot), lv_has ls 5 [(0, .ref (aM 0)), (1, .int x1), (4, .int x4)] → W p l e rm_X9_about s m args below meth c H locs 0 0 Q (F0 m 94 ls [.int y0, .int y1]) := by
  obtain ⟨⟨hx, hb, hml, hown, hts⟩, hr, hlocks⟩ := id C0
  intro x1 x4 y0 y1 hm H locs hP hD hS ls hl
  have hm : (k67 x1 (y1 + y0) (x4 + 1)) = some res := hm
  refine lv_iadd hx hb dX9_about_94 ?_
  refine lv_istore_n (lv' := [(3, .int (y1 + y0)), (0, .ref (aM 0)), (1, .int x1), (4, .int x4)]) hx hb dX9_about_95 rfl hl (by decide) rfl (fun ls hl => ?_)
  refine lv_iinc (v := x4 + 1) (lv' := [(4, .int (x4 + 1)), (3, .int (y1 + y0)), (0, .ref (aM 0)), (1, .int x1)]) hx hb dX9_about_96 hl (k := 3) rfl rfl (by decide) rfl (fun ls hl => ?_)
  refine lv_goto (tgt := 67) hx hb dX9_about_99 (by decide) ?_
  exact hk67 x1 (y1 + y0) (x4 + 1) hm H locs hP hD hS ls (lv_sub hl [2, 3, 1, 0] rfl)
set_option maxHeartbeats 4000000 in
set_option maxRecDepth 100000 in
theorem k_X9_about_67 {p : Program} {l : Launch} {e : Env} {s : State} {m : MethodId} {args : Array Value} {below : List Frame} {meth : Method} {c : Code} {Q : State → Prop} {dC : Nat → ClassId} {dI : Nat → Nat → Nat} {cI cJ cB cZ : ClassId} {A : Nat → Prop} (C0 : Cx p s m meth c args cX9_about 5 (some .int) wsX9_about RX9) (hK : va_K (dC, dI) vwCl [(cI, .int), (cJ, .long), (cB, .byte), (cZ, .boolean)] s) (hN : NW s) (hA : ∀ q, s.heap.size ≤ q → A q) (aM : Nat → Nat) (M_nodes : Int32) (M_operators : Int32) (M_textSize : Int32) (M_wordCount : Int32) (M_isParsed : Int32) (M_isTaken : Int32) (M_items : Int32) (M_piled : Int32) (M_outSize : Int32) (M_told : Int32) (M_standing : Int32) (M_elements : Nat → Int64) (M_elementCount : Nat → Int32) (M_nodeOf : Nat → Int32) (M_wayOf : Nat → Int32) (res : Int32) (RET : RT_X9_about p l e s m args below meth c Q dC dI cI cJ cB cZ A aM M_nodes M_operators M_textSize M_wordCount M_isParsed M_isTaken M_items M_piled M_outSize M_told M_standing M_elements M_elementCount M_nodeOf M_wayOf res)   : ∀ (n : Nat) (x1 : Int32) (x3 : Int32) (x4 : Int32), m_X9_about_67 M_operators M_elements M_elementCount M_nodeOf M_wayOf n x1 x3 x4 = some res → ∀ (H : Heap) (locs : List Loc), va_P (dC, dI) vwCl [((aM 0), .inr (9, oX9 aM M_nodes M_operators M_textSize M_wordCount M_isParsed M_isTaken M_items M_piled M_outSize M_told M_standing)), ((aM 4), .inl (cJ, 270, .inr (.inl M_elements))), ((aM 5), .inl (cI, 30, .inl M_elementCount)), ((aM 6), .inl (cI, 30, .inl M_nodeOf)), ((aM 7), .inl (cI, 30, .inl M_wayOf))] H → va_D A [((aM 0), .inr (9, oX9 aM M_nodes M_operators M_textSize M_wordCount M_isParsed M_isTaken M_items M_piled M_outSize M_told M_standing)), ((aM 4), .inl (cJ, 270, .inr (.inl M_elements))), ((aM 5), .inl (cI, 30, .inl M_elementCount)), ((aM 6), .inl (cI, 30, .inl M_nodeOf)), ((aM 7), .inl (cI, 30, .inl M_wayOf))] → va_S A s.heap H locs → ∀ (ls : Array Slot), lv_has ls 5 [(0, .ref (aM 0)), (1, .int x1), (3, .int x3), (4, .int x4)] → W p l e rm_X9_about s m args below meth c H locs 0 0 Q (F0 m 67 ls []) := by
  obtain ⟨⟨hx, hb, hml, hown, hts⟩, hr, hlocks⟩ := id C0
  intro n
  induction n with
  | zero =>
    intro x1 x3 x4 hm
    exact absurd hm (by intro h; cases h)
  | succ n ih =>
    intro x1 x3 x4 hm H locs hP hD hS ls hl
    have hm : (gd x1 30 (if (M_elementCount x1.toNatClampNeg) ≤ x4 then (some x3) else (Option.bind (m_X9_isHole M_elements x1 x4) (fun r_3 => if r_3 = 0 then (m_X9_about_94 M_operators M_elements M_elementCount M_nodeOf M_wayOf (m_X9_about_67 M_operators M_elements M_elementCount M_nodeOf M_wayOf n) x1 x4 0 x3) else (m_X9_about_94 M_operators M_elements M_elementCount M_nodeOf M_wayOf (m_X9_about_67 M_operators M_elements M_elementCount M_nodeOf M_wayOf n) x1 x4 1 x3))))) = some res := hm
    refine lv_iload hx hb dX9_about_67 (lv_at hl 3 rfl) ?_
    refine lv_aload_n hx hb dX9_about_69 rfl (lv_at hl 0 rfl) ?_
    refine va_get (D := (dC, dI)) (ci := 9) (v := .ref (aM 5)) (C := RX9) (T := TX9) (N := 53) hx hb hts X9_about_inX9 hown hK hP 0 rfl rfl 4 (by decide) (hts (.fieldLink RX9 17 "MixfixDeskModel" "elementCount" "[I") (List.mem_of_getElem? (i := 3) rfl)) (fun _ h9 => h9) rfl dX9_about_70 ?_
    refine lv_iload_n hx hb dX9_about_73 rfl (lv_at hl 1 rfl) ?_
    obtain ⟨hi_1, hm⟩ := gd_some hm
    refine va_iald (D := (dC, dI)) hx hb hK hP 2 0 rfl rfl hi_1 dX9_about_74 ?_
    refine lv_icmp_ge (tgt := 102) hx hb dX9_about_75 (by decide) (fun c_2 => ?_) (fun c_2 => ?_)
    · have hm := it_some c_2 hm
      refine lv_iload_n hx hb dX9_about_102 rfl (lv_at hl 2 rfl) ?_
      exact RET x3 hm _ H locs ls dX9_about_103 hP hD hS
    · have hm := if_some' c_2 hm
      refine lv_iload_n hx hb dX9_about_78 rfl (lv_at hl 2 rfl) ?_
      refine lv_aload_n hx hb dX9_about_79 rfl (lv_at hl 0 rfl) ?_
      refine lv_iload_n hx hb dX9_about_80 rfl (lv_at hl 1 rfl) ?_
      refine lv_iload hx hb dX9_about_81 (lv_at hl 3 rfl) ?_
      obtain ⟨r_3, hc_4, hm⟩ := ob_some hm
      refine cx_i (wr := [((aM 5), .inl (cI, 30, .inl M_elementCount)), ((aM 6), .inl (cI, 30, .inl M_nodeOf)), ((aM 7), .inl (cI, 30, .inl M_wayOf))]) (va_runV (As := [.int x1, .int x4]) (rest := [.int x3]) C0.1 (c_X9_isHole l dC dI cI cJ cB cZ aM H.size M_nodes M_operators M_textSize M_wordCount M_isParsed M_isTaken M_items M_piled M_outSize M_told M_standing M_elements x1 x4 r_3 hc_4) (cwV 2 hts gX9_about_X9_isHole rfl rfl rfl (by decide +kernel) ⟨Nat.le_of_ble_eq_true rfl, Nat.le_of_ble_eq_true rfl⟩) (cP_V (ci := 9) (q0 := 0) hK hN hP hD rfl rfl [0, 1] (by decide) rfl) rfl rfl hl.1 rfl (lv_room (Nat.le_of_ble_eq_true rfl)) dX9_about_83 ⟨Nat.le_of_ble_eq_true rfl, Nat.le_of_ble_eq_true rfl⟩) hP hD hS hA [0, 1] [2, 3, 4] rfl rfl (by decide) (by decide) (fun H locs hP hD hS => ?_)
      have hP : va_P (dC, dI) vwCl [((aM 5), .inl (cI, 30, .inl M_elementCount)), ((aM 6), .inl (cI, 30, .inl M_nodeOf)), ((aM 7), .inl (cI, 30, .inl M_wayOf)), ((aM 0), .inr (9, oX9 aM M_nodes M_operators M_textSize M_wordCount M_isParsed M_isTaken M_items M_piled M_outSize M_told M_standing)), ((aM 4), .inl (cJ, 270, .inr (.inl M_elements)))] H := hP
      have hD : va_D A [((aM 5), .inl (cI, 30, .inl M_elementCount)), ((aM 6), .inl (cI, 30, .inl M_nodeOf)), ((aM 7), .inl (cI, 30, .inl M_wayOf)), ((aM 0), .inr (9, oX9 aM M_nodes M_operators M_textSize M_wordCount M_isParsed M_isTaken M_items M_piled M_outSize M_told M_standing)), ((aM 4), .inl (cJ, 270, .inr (.inl M_elements)))] := hD
      refine lv_if_eq (tgt := 93) hx hb dX9_about_86 (by decide) (fun c_5 => ?_) (fun c_5 => ?_)
      · have hm := it_some c_5 hm
        refine lv_iconst (v := 0) hx hb dX9_about_93 (by decide) ?_
        exact k_X9_about_94 C0 hK hN hA aM M_nodes M_operators M_textSize M_wordCount M_isParsed M_isTaken M_items M_piled M_outSize M_told M_standing M_elements M_elementCount M_nodeOf M_wayOf res RET (m_X9_about_67 M_operators M_elements M_elementCount M_nodeOf M_wayOf n) ih x1 x4 0 x3 hm H locs (P_sub' hP [3, 4, 0, 1, 2] rfl) (hD.sub [3, 4, 0, 1, 2] (by decide) rfl) hS ls (lv_sub hl [0, 1, 3] rfl)
      · have hm := if_some' c_5 hm
        refine lv_iconst (v := 1) hx hb dX9_about_89 (by decide) ?_
        refine lv_goto (tgt := 94) hx hb dX9_about_90 (by decide) ?_
        exact k_X9_about_94 C0 hK hN hA aM M_nodes M_operators M_textSize M_wordCount M_isParsed M_isTaken M_items M_piled M_outSize M_told M_standing M_elements M_elementCount M_nodeOf M_wayOf res RET (m_X9_about_67 M_operators M_elements M_elementCount M_nodeOf M_wayOf n) ih x1 x4 1 x3 hm H locs (P_sub' hP [3, 4, 0, 1, 2] rfl) (hD.sub [3, 4, 0, 1, 2] (by decide) rfl) hS ls (lv_sub hl [0, 1, 3] rfl)
set_option maxHeartbeats 4000000 in
set_option maxRecDepth 100000 in
theorem k_X9_about_E {p : Program} {l : Launch} {e : Env} {s : State} {m : MethodId} {args : Array Value} {below : List Frame} {meth : Method} {c : Code} {Q : State → Prop} {dC : Nat → ClassId} {dI : Nat → Nat → Nat} {cI cJ cB cZ : ClassId} {A : Nat → Prop} (C0 : Cx p s m meth c args cX9_about 5 (some .int) wsX9_about RX9) (hK : va_K (dC, dI) vwCl [(cI, .int), (cJ, .long), (cB, .byte), (cZ, .boolean)] s) (hN : NW s) (hA : ∀ q, s.heap.size ≤ q → A q) (aM : Nat → Nat) (M_nodes : Int32) (M_operators : Int32) (M_textSize : Int32) (M_wordCount : Int32) (M_isParsed : Int32) (M_isTaken : Int32) (M_items : Int32) (M_piled : Int32) (M_outSize : Int32) (M_told : Int32) (M_standing : Int32) (M_elements : Nat → Int64) (M_elementCount : Nat → Int32) (M_nodeOf : Nat → Int32) (M_wayOf : Nat → Int32) (res : Int32) (RET : RT_X9_about p l e s m args below meth c Q dC dI cI cJ cB cZ A aM M_nodes M_operators M_textSize M_wordCount M_isParsed M_isTaken M_items M_piled M_outSize M_told M_standing M_elements M_elementCount M_nodeOf M_wayOf res) : ∀ (p0 : Int32) (p1 : Int32), m_X9_about M_operators M_elements M_elementCount M_nodeOf M_wayOf p0 p1 = some res → ∀ (H : Heap) (locs : List Loc), va_P (dC, dI) vwCl [((aM 0), .inr (9, oX9 aM M_nodes M_operators M_textSize M_wordCount M_isParsed M_isTaken M_items M_piled M_outSize M_told M_standing)), ((aM 4), .inl (cJ, 270, .inr (.inl M_elements))), ((aM 5), .inl (cI, 30, .inl M_elementCount)), ((aM 6), .inl (cI, 30, .inl M_nodeOf)), ((aM 7), .inl (cI, 30, .inl M_wayOf))] H → va_D A [((aM 0), .inr (9, oX9 aM M_nodes M_operators M_textSize M_wordCount M_isParsed M_isTaken M_items M_piled M_outSize M_told M_standing)), ((aM 4), .inl (cJ, 270, .inr (.inl M_elements))), ((aM 5), .inl (cI, 30, .inl M_elementCount)), ((aM 6), .inl (cI, 30, .inl M_nodeOf)), ((aM 7), .inl (cI, 30, .inl M_wayOf))] → va_S A s.heap H locs → ∀ (ls : Array Slot), lv_has ls 5 [(0, .ref (aM 0)), (1, .int p0), (2, .int p1)] → W p l e rm_X9_about s m args below meth c H locs 0 0 Q (F0 m 0 ls []) := by
  obtain ⟨⟨hx, hb, hml, hown, hts⟩, hr, hlocks⟩ := id C0
  intro p0 p1 hm H locs hP hD hS ls hl
  have hm : (if p0 < 0 then (some (-1)) else (if p0 < M_operators then (if p1 = 0 then (gd p0 30 (some (M_nodeOf p0.toNatClampNeg))) else if p1 = 1 then (gd p0 30 (some (M_elementCount p0.toNatClampNeg))) else if p1 = 2 then (m_X9_about_67 M_operators M_elements M_elementCount M_nodeOf M_wayOf FU p0 0 0) else if p1 = 3 then (gd p0 30 (some (M_wayOf p0.toNatClampNeg))) else if p1 = 4 then (Option.bind (m_X9_shape M_elements M_elementCount p0) (fun r_16 => some r_16)) else (some (-2))) else (some (-1)))) = some res := hm
  refine lv_iload_n hx hb dX9_about_0 rfl (lv_at hl 1 rfl) ?_
  refine lv_if_lt (tgt := 12) hx hb dX9_about_1 (by decide) (fun c_6 => ?_) (fun c_6 => ?_)
  · have hm := it_some c_6 hm
    refine lv_iconst (v := (-1)) hx hb dX9_about_12 (by decide) ?_
    exact RET (-1) hm _ H locs ls dX9_about_13 hP hD hS
  · have hm := if_some' c_6 hm
    refine lv_iload_n hx hb dX9_about_4 rfl (lv_at hl 1 rfl) ?_
    refine lv_aload_n hx hb dX9_about_5 rfl (lv_at hl 0 rfl) ?_
    refine va_get (D := (dC, dI)) (ci := 9) (v := .int M_operators) (C := RX9) (T := TX9) (N := 53) hx hb hts X9_about_inX9 hown hK hP 0 rfl rfl 2 (by decide) (hts (.fieldLink RX9 151 "MixfixDeskModel" "operators" "I") (List.mem_of_getElem? (i := 1) rfl)) (fun _ h9 => h9) rfl dX9_about_6 ?_
    refine lv_icmp_lt (tgt := 14) hx hb dX9_about_9 (by decide) (fun c_7 => ?_) (fun c_7 => ?_)
    · have hm := it_some c_7 hm
      refine lv_iload_n hx hb dX9_about_14 rfl (lv_at hl 2 rfl) ?_
      by_cases c_8 : p1 = 0
      · have hm := it_some c_8 hm
        refine lv_tableIn (tgt := 48) hx hb dX9_about_15 (by rw [c_8]; decide) (by rw [c_8]; decide) (by rw [c_8]; rfl) (by decide) ?_
        refine lv_aload_n hx hb dX9_about_48 rfl (lv_at hl 0 rfl) ?_
        refine va_get (D := (dC, dI)) (ci := 9) (v := .ref (aM 6)) (C := RX9) (T := TX9) (N := 53) hx hb hts X9_about_inX9 hown hK hP 0 rfl rfl 5 (by decide) (hts (.fieldLink RX9 21 "MixfixDeskModel" "nodeOf" "[I") (List.mem_of_getElem? (i := 2) rfl)) (fun _ h9 => h9) rfl dX9_about_49 ?_
        refine lv_iload_n hx hb dX9_about_52 rfl (lv_at hl 1 rfl) ?_
        obtain ⟨hi_9, hm⟩ := gd_some hm
        refine va_iald (D := (dC, dI)) hx hb hK hP 3 0 rfl rfl hi_9 dX9_about_53 ?_
        exact RET (M_nodeOf p0.toNatClampNeg) hm _ H locs ls dX9_about_54 hP hD hS
      · have hm := if_some' c_8 hm
        by_cases c_10 : p1 = 1
        · have hm := it_some c_10 hm
          refine lv_tableIn (tgt := 55) hx hb dX9_about_15 (by rw [c_10]; decide) (by rw [c_10]; decide) (by rw [c_10]; rfl) (by decide) ?_
          refine lv_aload_n hx hb dX9_about_55 rfl (lv_at hl 0 rfl) ?_
          refine va_get (D := (dC, dI)) (ci := 9) (v := .ref (aM 5)) (C := RX9) (T := TX9) (N := 53) hx hb hts X9_about_inX9 hown hK hP 0 rfl rfl 4 (by decide) (hts (.fieldLink RX9 17 "MixfixDeskModel" "elementCount" "[I") (List.mem_of_getElem? (i := 3) rfl)) (fun _ h9 => h9) rfl dX9_about_56 ?_
          refine lv_iload_n hx hb dX9_about_59 rfl (lv_at hl 1 rfl) ?_
          obtain ⟨hi_11, hm⟩ := gd_some hm
          refine va_iald (D := (dC, dI)) hx hb hK hP 2 0 rfl rfl hi_11 dX9_about_60 ?_
          exact RET (M_elementCount p0.toNatClampNeg) hm _ H locs ls dX9_about_61 hP hD hS
        · have hm := if_some' c_10 hm
          by_cases c_12 : p1 = 2
          · have hm := it_some c_12 hm
            refine lv_tableIn (tgt := 62) hx hb dX9_about_15 (by rw [c_12]; decide) (by rw [c_12]; decide) (by rw [c_12]; rfl) (by decide) ?_
            refine lv_iconst (v := 0) hx hb dX9_about_62 (by decide) ?_
            refine lv_istore_n (lv' := [(3, .int 0), (0, .ref (aM 0)), (1, .int p0), (2, .int p1)]) hx hb dX9_about_63 rfl hl (by decide) rfl (fun ls hl => ?_)
            refine lv_iconst (v := 0) hx hb dX9_about_64 (by decide) ?_
            refine lv_istore (lv' := [(4, .int 0), (3, .int 0), (0, .ref (aM 0)), (1, .int p0), (2, .int p1)]) hx hb dX9_about_65 hl (by decide) rfl (fun ls hl => ?_)
            exact k_X9_about_67 C0 hK hN hA aM M_nodes M_operators M_textSize M_wordCount M_isParsed M_isTaken M_items M_piled M_outSize M_told M_standing M_elements M_elementCount M_nodeOf M_wayOf res RET FU p0 0 0 hm H locs hP hD hS ls (lv_sub hl [2, 3, 1, 0] rfl)
          · have hm := if_some' c_12 hm
            by_cases c_13 : p1 = 3
            · have hm := it_some c_13 hm
              refine lv_tableIn (tgt := 104) hx hb dX9_about_15 (by rw [c_13]; decide) (by rw [c_13]; decide) (by rw [c_13]; rfl) (by decide) ?_
              refine lv_aload_n hx hb dX9_about_104 rfl (lv_at hl 0 rfl) ?_
              refine va_get (D := (dC, dI)) (ci := 9) (v := .ref (aM 7)) (C := RX9) (T := TX9) (N := 53) hx hb hts X9_about_inX9 hown hK hP 0 rfl rfl 6 (by decide) (hts (.fieldLink RX9 24 "MixfixDeskModel" "wayOf" "[I") (List.mem_of_getElem? (i := 4) rfl)) (fun _ h9 => h9) rfl dX9_about_105 ?_
              refine lv_iload_n hx hb dX9_about_108 rfl (lv_at hl 1 rfl) ?_
              obtain ⟨hi_14, hm⟩ := gd_some hm
              refine va_iald (D := (dC, dI)) hx hb hK hP 4 0 rfl rfl hi_14 dX9_about_109 ?_
              exact RET (M_wayOf p0.toNatClampNeg) hm _ H locs ls dX9_about_110 hP hD hS
            · have hm := if_some' c_13 hm
              by_cases c_15 : p1 = 4
              · have hm := it_some c_15 hm
                refine lv_tableIn (tgt := 111) hx hb dX9_about_15 (by rw [c_15]; decide) (by rw [c_15]; decide) (by rw [c_15]; rfl) (by decide) ?_
                refine lv_aload_n hx hb dX9_about_111 rfl (lv_at hl 0 rfl) ?_
                refine lv_iload_n hx hb dX9_about_112 rfl (lv_at hl 1 rfl) ?_
                obtain ⟨r_16, hc_17, hm⟩ := ob_some hm
                refine cx_i (wr := [((aM 6), .inl (cI, 30, .inl M_nodeOf)), ((aM 7), .inl (cI, 30, .inl M_wayOf))]) (va_runV (As := [.int p0]) (rest := []) C0.1 (c_X9_shape l dC dI cI cJ cB cZ aM H.size M_nodes M_operators M_textSize M_wordCount M_isParsed M_isTaken M_items M_piled M_outSize M_told M_standing M_elements M_elementCount p0 r_16 hc_17) (cwV 1 hts gX9_about_X9_shape rfl rfl rfl (by decide +kernel) ⟨Nat.le_of_ble_eq_true rfl, Nat.le_of_ble_eq_true rfl⟩) (cP_V (ci := 9) (q0 := 0) hK hN hP hD rfl rfl [0, 1, 2] (by decide) rfl) rfl rfl hl.1 rfl (lv_room (Nat.le_of_ble_eq_true rfl)) dX9_about_113 ⟨Nat.le_of_ble_eq_true rfl, Nat.le_of_ble_eq_true rfl⟩) hP hD hS hA [0, 1, 2] [3, 4] rfl rfl (by decide) (by decide) (fun H locs hP hD hS => ?_)
                have hP : va_P (dC, dI) vwCl [((aM 6), .inl (cI, 30, .inl M_nodeOf)), ((aM 7), .inl (cI, 30, .inl M_wayOf)), ((aM 0), .inr (9, oX9 aM M_nodes M_operators M_textSize M_wordCount M_isParsed M_isTaken M_items M_piled M_outSize M_told M_standing)), ((aM 4), .inl (cJ, 270, .inr (.inl M_elements))), ((aM 5), .inl (cI, 30, .inl M_elementCount))] H := hP
                have hD : va_D A [((aM 6), .inl (cI, 30, .inl M_nodeOf)), ((aM 7), .inl (cI, 30, .inl M_wayOf)), ((aM 0), .inr (9, oX9 aM M_nodes M_operators M_textSize M_wordCount M_isParsed M_isTaken M_items M_piled M_outSize M_told M_standing)), ((aM 4), .inl (cJ, 270, .inr (.inl M_elements))), ((aM 5), .inl (cI, 30, .inl M_elementCount))] := hD
                exact RET r_16 hm _ H locs ls dX9_about_116 (P_sub' hP [2, 3, 4, 0, 1] rfl) (hD.sub [2, 3, 4, 0, 1] (by decide) rfl) hS
              · have hm := if_some' c_15 hm
                refine lv_tableOut (tgt := 117) hx hb dX9_about_15 (by have := sw_ne (k := 0) (0) (by decide) c_8; have := sw_ne (k := 1) (1) (by decide) c_10; have := sw_ne (k := 2) (2) (by decide) c_12; have := sw_ne (k := 3) (3) (by decide) c_13; have := sw_ne (k := 4) (4) (by decide) c_15; omega) (by decide) ?_
                refine lv_bipush (v := (-2)) hx hb dX9_about_117 (by decide) ?_
                exact RET (-2) hm _ H locs ls dX9_about_119 hP hD hS
    · have hm := if_some' c_7 hm
      refine lv_iconst (v := (-1)) hx hb dX9_about_12 (by decide) ?_
      exact RET (-1) hm _ H locs ls dX9_about_13 hP hD hS
set_option maxHeartbeats 4000000 in
set_option maxRecDepth 100000 in
theorem c_X9_about (l : Launch) (dC : Nat → ClassId) (dI : Nat → Nat → Nat) (cI cJ cB cZ : ClassId) (aM : Nat → Nat) (sz : Nat) (M_nodes : Int32) (M_operators : Int32) (M_textSize : Int32) (M_wordCount : Int32) (M_isParsed : Int32) (M_isTaken : Int32) (M_items : Int32) (M_piled : Int32) (M_outSize : Int32) (M_told : Int32) (M_standing : Int32) (M_elements : Nat → Int64) (M_elementCount : Nat → Int32) (M_nodeOf : Nat → Int32) (M_wayOf : Nat → Int32) (p0 : Int32) (p1 : Int32) (res : Int32) (hm : m_X9_about M_operators M_elements M_elementCount M_nodeOf M_wayOf p0 p1 = some res) : Met l yX9_about wsX9_about rm_X9_about (cP (dC, dI) vwCl [(cI, .int), (cJ, .long), (cB, .byte), (cZ, .boolean)] [.ref (aM 0), .int p0, .int p1] [((aM 0), .inr (9, oX9 aM M_nodes M_operators M_textSize M_wordCount M_isParsed M_isTaken M_items M_piled M_outSize M_told M_standing)), ((aM 4), .inl (cJ, 270, .inr (.inl M_elements))), ((aM 5), .inl (cI, 30, .inl M_elementCount)), ((aM 6), .inl (cI, 30, .inl M_nodeOf)), ((aM 7), .inl (cI, 30, .inl M_wayOf))] sz) (cQi res (dC, dI) vwCl [((aM 0), .inr (9, oX9 aM M_nodes M_operators M_textSize M_wordCount M_isParsed M_isTaken M_items M_piled M_outSize M_told M_standing)), ((aM 4), .inl (cJ, 270, .inr (.inl M_elements))), ((aM 5), .inl (cI, 30, .inl M_elementCount)), ((aM 6), .inl (cI, 30, .inl M_nodeOf)), ((aM 7), .inl (cI, 30, .inl M_wayOf))] [((aM 0), .inr (9, oX9 aM M_nodes M_operators M_textSize M_wordCount M_isParsed M_isTaken M_items M_piled M_outSize M_told M_standing)), ((aM 4), .inl (cJ, 270, .inr (.inl M_elements))), ((aM 5), .inl (cI, 30, .inl M_elementCount)), ((aM 6), .inl (cI, 30, .inl M_nodeOf)), ((aM 7), .inl (cI, 30, .inl M_wayOf))] sz) 0 0 (va_A [((aM 0), .inr (9, oX9 aM M_nodes M_operators M_textSize M_wordCount M_isParsed M_isTaken M_items M_piled M_outSize M_told M_standing)), ((aM 4), .inl (cJ, 270, .inr (.inl M_elements))), ((aM 5), .inl (cI, 30, .inl M_elementCount)), ((aM 6), .inl (cI, 30, .inl M_nodeOf)), ((aM 7), .inl (cI, 30, .inl M_wayOf))] sz) := by
  refine cx_of (cc := cX9_about) (maxL := 5) (ret := (some .int)) (own := RX9) (by decide) rfl rfl (Nat.le_of_ble_eq_true rfl) ?_
  intro p e s m below meth c A C0 hinN hK hN hsz hAe hA hP hD hS ls hl
  refine k_X9_about_E C0 hK hN hA aM M_nodes M_operators M_textSize M_wordCount M_isParsed M_isTaken M_items M_piled M_outSize M_told M_standing M_elements M_elementCount M_nodeOf M_wayOf res ?_ p0 p1 hm _ _ hP hD hS ls hl
  intro v he pc H locs ls hdg hP hD hS
  have he := Option.some.inj he
  subst he
  exact cx_reti C0 hsz hAe hdg hP hD hS

set_option maxRecDepth 20000 in
theorem ggX9_clear_X9_gone : GoodIn wsX9_clear wsX9_gone := goodIn_r _ [8, 9, 10, 11, 12, 13, 14, 15, 16, 17, 18, 19, 20, 21, 22, 23, 24, 25, 26, 27, 28, 29, 30, 31, 32, 33, 34, 35, 36, 37, 38, 39, 40, 41, 42, 43, 44, 45, 46, 47, 48, 49, 50, 51, 52, 53, 54, 55, 56, 57, 58, 59, 60, 61, 62, 63] (by decide +kernel) (by decide +kernel)
set_option maxRecDepth 20000 in
theorem gX9_clear_X9_gone : GoodIn wsX9_clear (wsV RX9 228 RX9 yX9_gone wsX9_gone) := goodIn_app (goodIn_of _ (by decide +kernel)) ggX9_clear_X9_gone
theorem dX9_clear_0 : decode cX9_clear 0 = .ok (.aload_n 0, 1) := by decide +kernel
theorem dX9_clear_1 : decode cX9_clear 1 = .ok (.getfield 151, 3) := by decide +kernel
theorem dX9_clear_4 : decode cX9_clear 4 = .ok (.istore_n 1, 1) := by decide +kernel
theorem dX9_clear_5 : decode cX9_clear 5 = .ok (.aload_n 0, 1) := by decide +kernel
theorem dX9_clear_6 : decode cX9_clear 6 = .ok (.iconst 0, 1) := by decide +kernel
theorem dX9_clear_7 : decode cX9_clear 7 = .ok (.putfield 151, 3) := by decide +kernel
theorem dX9_clear_10 : decode cX9_clear 10 = .ok (.aload_n 0, 1) := by decide +kernel
theorem dX9_clear_11 : decode cX9_clear 11 = .ok (.iconst 0, 1) := by decide +kernel
theorem dX9_clear_12 : decode cX9_clear 12 = .ok (.putfield 141, 3) := by decide +kernel
theorem dX9_clear_15 : decode cX9_clear 15 = .ok (.iconst 0, 1) := by decide +kernel
theorem dX9_clear_16 : decode cX9_clear 16 = .ok (.istore_n 2, 1) := by decide +kernel
theorem dX9_clear_17 : decode cX9_clear 17 = .ok (.iload_n 2, 1) := by decide +kernel
theorem dX9_clear_18 : decode cX9_clear 18 = .ok (.sipush 256, 3) := by decide +kernel
theorem dX9_clear_21 : decode cX9_clear 21 = .ok (.if_icmp .ge 16, 3) := by decide +kernel
theorem dX9_clear_24 : decode cX9_clear 24 = .ok (.aload_n 0, 1) := by decide +kernel
theorem dX9_clear_25 : decode cX9_clear 25 = .ok (.getfield 7, 3) := by decide +kernel
theorem dX9_clear_28 : decode cX9_clear 28 = .ok (.iload_n 2, 1) := by decide +kernel
theorem dX9_clear_29 : decode cX9_clear 29 = .ok (.iconst 0, 1) := by decide +kernel
theorem dX9_clear_30 : decode cX9_clear 30 = .ok (.bastore, 1) := by decide +kernel
theorem dX9_clear_31 : decode cX9_clear 31 = .ok (.iinc 2 1, 3) := by decide +kernel
theorem dX9_clear_34 : decode cX9_clear 34 = .ok (.goto (-17), 3) := by decide +kernel
theorem dX9_clear_37 : decode cX9_clear 37 = .ok (.aload_n 0, 1) := by decide +kernel
theorem dX9_clear_38 : decode cX9_clear 38 = .ok (.invokevirtual 228, 3) := by decide +kernel
theorem dX9_clear_41 : decode cX9_clear 41 = .ok (.iload_n 1, 1) := by decide +kernel
theorem dX9_clear_42 : decode cX9_clear 42 = .ok (.ireturn, 1) := by decide +kernel
/-! MixfixDeskModel.clear()I -/
abbrev rm_X9_clear : Room := { frames := 1, cells := 0, slots := 0, locals := 20 }
theorem X9_clear_inX9 : ∀ w ∈ wsX90, w ∈ wsX9_clear := by exact fun w h => List.mem_cons_of_mem _ (List.mem_append_right _ h)
abbrev RT_X9_clear (p : Program) (l : Launch) (e : Env) (s : State) (m : MethodId) (args : Array Value) (below : List Frame) (meth : Method) (c : Code) (Q : State → Prop) (dC : Nat → ClassId) (dI : Nat → Nat → Nat) (cI cJ cB cZ : ClassId) (A : Nat → Prop) (aM : Nat → Nat) (M_textSize : Int32) (M_wordCount : Int32) (M_items : Int32) (M_piled : Int32) (M_outSize : Int32) (M_told : Int32) (M_standing : Int32) (res : Int32 × Int32 × (Nat → Int32) × Int32 × Int32 × Int32) : Prop := ∀ (v : Int32) (M_nodes : Int32) (M_isTighter : Nat → Int32) (M_operators : Int32) (M_isParsed : Int32) (M_isTaken : Int32), some (v, M_nodes, M_isTighter, M_operators, M_isParsed, M_isTaken) = some res → ∀ (pc : Nat) (H : Heap) (locs : List Loc) (ls : Array Slot), decode cX9_clear pc = .ok (.ireturn, 1) → va_P (dC, dI) vwCl [((aM 0), .inr (9, oX9 aM M_nodes M_operators M_textSize M_wordCount M_isParsed M_isTaken M_items M_piled M_outSize M_told M_standing)), ((aM 2), .inl (cZ, 256, .inl M_isTighter))] H → va_D A [((aM 0), .inr (9, oX9 aM M_nodes M_operators M_textSize M_wordCount M_isParsed M_isTaken M_items M_piled M_outSize M_told M_standing)), ((aM 2), .inl (cZ, 256, .inl M_isTighter))] → va_S A s.heap H locs → W p l e rm_X9_clear s m args below meth c H locs 0 0 Q (F0 m pc ls [.int v])
set_option maxHeartbeats 4000000 in
set_option maxRecDepth 100000 in
theorem k_X9_clear_17 {p : Program} {l : Launch} {e : Env} {s : State} {m : MethodId} {args : Array Value} {below : List Frame} {meth : Method} {c : Code} {Q : State → Prop} {dC : Nat → ClassId} {dI : Nat → Nat → Nat} {cI cJ cB cZ : ClassId} {A : Nat → Prop} (C0 : Cx p s m meth c args cX9_clear 3 (some .int) wsX9_clear RX9) (hK : va_K (dC, dI) vwCl [(cI, .int), (cJ, .long), (cB, .byte), (cZ, .boolean)] s) (hN : NW s) (hA : ∀ q, s.heap.size ≤ q → A q) (aM : Nat → Nat) (M_textSize : Int32) (M_wordCount : Int32) (M_items : Int32) (M_piled : Int32) (M_outSize : Int32) (M_told : Int32) (M_standing : Int32) (res : Int32 × Int32 × (Nat → Int32) × Int32 × Int32 × Int32) (RET : RT_X9_clear p l e s m args below meth c Q dC dI cI cJ cB cZ A aM M_textSize M_wordCount M_items M_piled M_outSize M_told M_standing res)   : ∀ (n : Nat) (M_nodes : Int32) (M_isTighter : Nat → Int32) (M_operators : Int32) (M_isParsed : Int32) (M_isTaken : Int32) (x1 : Int32) (x2 : Int32), m_X9_clear_17 n M_nodes M_isTighter M_operators M_isParsed M_isTaken x1 x2 = some res → ∀ (H : Heap) (locs : List Loc), va_P (dC, dI) vwCl [((aM 0), .inr (9, oX9 aM M_nodes M_operators M_textSize M_wordCount M_isParsed M_isTaken M_items M_piled M_outSize M_told M_standing)), ((aM 2), .inl (cZ, 256, .inl M_isTighter))] H → va_D A [((aM 0), .inr (9, oX9 aM M_nodes M_operators M_textSize M_wordCount M_isParsed M_isTaken M_items M_piled M_outSize M_told M_standing)), ((aM 2), .inl (cZ, 256, .inl M_isTighter))] → va_S A s.heap H locs → ∀ (ls : Array Slot), lv_has ls 3 [(0, .ref (aM 0)), (1, .int x1), (2, .int x2)] → W p l e rm_X9_clear s m args below meth c H locs 0 0 Q (F0 m 17 ls []) := by
  obtain ⟨⟨hx, hb, hml, hown, hts⟩, hr, hlocks⟩ := id C0
  intro n
  induction n with
  | zero =>
    intro M_nodes M_isTighter M_operators M_isParsed M_isTaken x1 x2 hm
    exact absurd hm (by intro h; cases h)
  | succ n ih =>
    intro M_nodes M_isTighter M_operators M_isParsed M_isTaken x1 x2 hm H locs hP hD hS ls hl
    have hm : (if 256 ≤ x2 then (Option.bind (m_X9_gone M_isParsed M_isTaken) (fun r_2 => some (x1, M_nodes, M_isTighter, M_operators, r_2.1, r_2.2))) else (gd x2 256 (m_X9_clear_17 n M_nodes (upd M_isTighter x2.toNatClampNeg (vp_nar .boolean 0)) M_operators M_isParsed M_isTaken x1 (x2 + 1)))) = some res := hm
    refine lv_iload_n hx hb dX9_clear_17 rfl (lv_at hl 2 rfl) ?_
    refine lv_sipush (v := 256) hx hb dX9_clear_18 (by decide) ?_
    refine lv_icmp_ge (tgt := 37) hx hb dX9_clear_21 (by decide) (fun c_1 => ?_) (fun c_1 => ?_)
    · have hm := it_some c_1 hm
      refine lv_aload_n hx hb dX9_clear_37 rfl (lv_at hl 0 rfl) ?_
      obtain ⟨r_2, hc_3, hm⟩ := ob_some hm
      refine cx_v (wr := [((aM 2), .inl (cZ, 256, .inl M_isTighter))]) (va_runV (As := []) (rest := []) C0.1 (c_X9_gone l dC dI cI cJ cB cZ aM H.size M_nodes M_operators M_textSize M_wordCount M_isParsed M_isTaken M_items M_piled M_outSize M_told M_standing r_2 hc_3) (cwV 0 hts gX9_clear_X9_gone rfl rfl rfl (by decide +kernel) ⟨Nat.le_of_ble_eq_true rfl, Nat.le_of_ble_eq_true rfl⟩) (cP_V (ci := 9) (q0 := 0) hK hN hP hD rfl rfl [0] (by decide) rfl) rfl rfl hl.1 rfl (lv_room (Nat.le_of_ble_eq_true rfl)) dX9_clear_38 ⟨Nat.le_of_ble_eq_true rfl, Nat.le_of_ble_eq_true rfl⟩) hP hD hS hA [0] [1] rfl rfl (by decide) (by decide) (fun H locs hP hD hS => ?_)
      have hP : va_P (dC, dI) vwCl [((aM 2), .inl (cZ, 256, .inl M_isTighter)), ((aM 0), .inr (9, oX9 aM M_nodes M_operators M_textSize M_wordCount r_2.1 r_2.2 M_items M_piled M_outSize M_told M_standing))] H := hP
      have hD : va_D A [((aM 2), .inl (cZ, 256, .inl M_isTighter)), ((aM 0), .inr (9, oX9 aM M_nodes M_operators M_textSize M_wordCount r_2.1 r_2.2 M_items M_piled M_outSize M_told M_standing))] := hD
      refine lv_iload_n hx hb dX9_clear_41 rfl (lv_at hl 1 rfl) ?_
      exact RET x1 M_nodes M_isTighter M_operators r_2.1 r_2.2 hm _ H locs ls dX9_clear_42 (P_sub' hP [1, 0] rfl) (hD.sub [1, 0] (by decide) rfl) hS
    · have hm := if_some' c_1 hm
      refine lv_aload_n hx hb dX9_clear_24 rfl (lv_at hl 0 rfl) ?_
      refine va_get (D := (dC, dI)) (ci := 9) (v := .ref (aM 2)) (C := RX9) (T := TX9) (N := 53) hx hb hts X9_clear_inX9 hown hK hP 0 rfl rfl 1 (by decide) (hts (.fieldLink RX9 7 "MixfixDeskModel" "isTighter" "[Z") (List.mem_of_getElem? (i := 3) rfl)) (fun _ h9 => h9) rfl dX9_clear_25 ?_
      refine lv_iload_n hx hb dX9_clear_28 rfl (lv_at hl 2 rfl) ?_
      refine lv_iconst (v := 0) hx hb dX9_clear_29 (by decide) ?_
      obtain ⟨hi_4, hm⟩ := gd_some hm
      refine va_zast (D := (dC, dI)) hx hb hK hP hD hS 1 3 rfl rfl hi_4 dX9_clear_30 (fun H locs hP hD hS => ?_)
      have hP : va_P (dC, dI) vwCl [((aM 0), .inr (9, oX9 aM M_nodes M_operators M_textSize M_wordCount M_isParsed M_isTaken M_items M_piled M_outSize M_told M_standing)), ((aM 2), .inl (cZ, 256, .inl (upd M_isTighter x2.toNatClampNeg (vp_nar .boolean 0))))] H := hP
      have hD : va_D A [((aM 0), .inr (9, oX9 aM M_nodes M_operators M_textSize M_wordCount M_isParsed M_isTaken M_items M_piled M_outSize M_told M_standing)), ((aM 2), .inl (cZ, 256, .inl (upd M_isTighter x2.toNatClampNeg (vp_nar .boolean 0))))] := hD
      refine lv_iinc (v := x2 + 1) (lv' := [(2, .int (x2 + 1)), (0, .ref (aM 0)), (1, .int x1)]) hx hb dX9_clear_31 hl (k := 2) rfl rfl (by decide) rfl (fun ls hl => ?_)
      refine lv_goto (tgt := 17) hx hb dX9_clear_34 (by decide) ?_
      exact ih M_nodes (upd M_isTighter x2.toNatClampNeg (vp_nar .boolean 0)) M_operators M_isParsed M_isTaken x1 (x2 + 1) hm H locs hP hD hS ls (lv_sub hl [1, 2, 0] rfl)
set_option maxHeartbeats 4000000 in
set_option maxRecDepth 100000 in
theorem k_X9_clear_E {p : Program} {l : Launch} {e : Env} {s : State} {m : MethodId} {args : Array Value} {below : List Frame} {meth : Method} {c : Code} {Q : State → Prop} {dC : Nat → ClassId} {dI : Nat → Nat → Nat} {cI cJ cB cZ : ClassId} {A : Nat → Prop} (C0 : Cx p s m meth c args cX9_clear 3 (some .int) wsX9_clear RX9) (hK : va_K (dC, dI) vwCl [(cI, .int), (cJ, .long), (cB, .byte), (cZ, .boolean)] s) (hN : NW s) (hA : ∀ q, s.heap.size ≤ q → A q) (aM : Nat → Nat) (M_textSize : Int32) (M_wordCount : Int32) (M_items : Int32) (M_piled : Int32) (M_outSize : Int32) (M_told : Int32) (M_standing : Int32) (res : Int32 × Int32 × (Nat → Int32) × Int32 × Int32 × Int32) (RET : RT_X9_clear p l e s m args below meth c Q dC dI cI cJ cB cZ A aM M_textSize M_wordCount M_items M_piled M_outSize M_told M_standing res) : ∀ (M_nodes : Int32) (M_isTighter : Nat → Int32) (M_operators : Int32) (M_isParsed : Int32) (M_isTaken : Int32), m_X9_clear M_nodes M_isTighter M_operators M_isParsed M_isTaken = some res → ∀ (H : Heap) (locs : List Loc), va_P (dC, dI) vwCl [((aM 0), .inr (9, oX9 aM M_nodes M_operators M_textSize M_wordCount M_isParsed M_isTaken M_items M_piled M_outSize M_told M_standing)), ((aM 2), .inl (cZ, 256, .inl M_isTighter))] H → va_D A [((aM 0), .inr (9, oX9 aM M_nodes M_operators M_textSize M_wordCount M_isParsed M_isTaken M_items M_piled M_outSize M_told M_standing)), ((aM 2), .inl (cZ, 256, .inl M_isTighter))] → va_S A s.heap H locs → ∀ (ls : Array Slot), lv_has ls 3 [(0, .ref (aM 0))] → W p l e rm_X9_clear s m args below meth c H locs 0 0 Q (F0 m 0 ls []) := by
  obtain ⟨⟨hx, hb, hml, hown, hts⟩, hr, hlocks⟩ := id C0
  intro M_nodes M_isTighter M_operators M_isParsed M_isTaken hm H locs hP hD hS ls hl
  have hm : (m_X9_clear_17 FU 0 M_isTighter 0 M_isParsed M_isTaken M_operators 0) = some res := hm
  refine lv_aload_n hx hb dX9_clear_0 rfl (lv_at hl 0 rfl) ?_
  refine va_get (D := (dC, dI)) (ci := 9) (v := .int M_operators) (C := RX9) (T := TX9) (N := 53) hx hb hts X9_clear_inX9 hown hK hP 0 rfl rfl 2 (by decide) (hts (.fieldLink RX9 151 "MixfixDeskModel" "operators" "I") (List.mem_of_getElem? (i := 1) rfl)) (fun _ h9 => h9) rfl dX9_clear_1 ?_
  refine lv_istore_n (lv' := [(1, .int M_operators), (0, .ref (aM 0))]) hx hb dX9_clear_4 rfl hl (by decide) rfl (fun ls hl => ?_)
  refine lv_aload_n hx hb dX9_clear_5 rfl (lv_at hl 1 rfl) ?_
  refine lv_iconst (v := 0) hx hb dX9_clear_6 (by decide) ?_
  refine va_put (D := (dC, dI)) (ci := 9) (v := .int 0) (ty := .int) (C := RX9) (T := TX9) (N := 53) hx hb hts X9_clear_inX9 tyX9 tyX9_ok nmX9 hown hK hP hD hS 0 rfl rfl 2 (by decide) (hts (.fieldLink RX9 151 "MixfixDeskModel" "operators" "I") (List.mem_of_getElem? (i := 1) rfl)) (fun _ h9 => h9) rfl (by decide +kernel) rfl rfl (Nat.le_of_ble_eq_true rfl) dX9_clear_7 (fun H locs hP hD hS => ?_)
  have hP : va_P (dC, dI) vwCl [((aM 0), .inr (9, oX9 aM M_nodes 0 M_textSize M_wordCount M_isParsed M_isTaken M_items M_piled M_outSize M_told M_standing)), ((aM 2), .inl (cZ, 256, .inl M_isTighter))] H := hP
  have hD : va_D A [((aM 0), .inr (9, oX9 aM M_nodes 0 M_textSize M_wordCount M_isParsed M_isTaken M_items M_piled M_outSize M_told M_standing)), ((aM 2), .inl (cZ, 256, .inl M_isTighter))] := hD
  refine lv_aload_n hx hb dX9_clear_10 rfl (lv_at hl 1 rfl) ?_
  refine lv_iconst (v := 0) hx hb dX9_clear_11 (by decide) ?_
  refine va_put (D := (dC, dI)) (ci := 9) (v := .int 0) (ty := .int) (C := RX9) (T := TX9) (N := 53) hx hb hts X9_clear_inX9 tyX9 tyX9_ok nmX9 hown hK hP hD hS 0 rfl rfl 0 (by decide) (hts (.fieldLink RX9 141 "MixfixDeskModel" "nodes" "I") (List.mem_of_getElem? (i := 2) rfl)) (fun _ h9 => h9) rfl (by decide +kernel) rfl rfl (Nat.le_of_ble_eq_true rfl) dX9_clear_12 (fun H locs hP hD hS => ?_)
  have hP : va_P (dC, dI) vwCl [((aM 0), .inr (9, oX9 aM 0 0 M_textSize M_wordCount M_isParsed M_isTaken M_items M_piled M_outSize M_told M_standing)), ((aM 2), .inl (cZ, 256, .inl M_isTighter))] H := hP
  have hD : va_D A [((aM 0), .inr (9, oX9 aM 0 0 M_textSize M_wordCount M_isParsed M_isTaken M_items M_piled M_outSize M_told M_standing)), ((aM 2), .inl (cZ, 256, .inl M_isTighter))] := hD
  refine lv_iconst (v := 0) hx hb dX9_clear_15 (by decide) ?_
  refine lv_istore_n (lv' := [(2, .int 0), (1, .int M_operators), (0, .ref (aM 0))]) hx hb dX9_clear_16 rfl hl (by decide) rfl (fun ls hl => ?_)
  exact k_X9_clear_17 C0 hK hN hA aM M_textSize M_wordCount M_items M_piled M_outSize M_told M_standing res RET FU 0 M_isTighter 0 M_isParsed M_isTaken M_operators 0 hm H locs hP hD hS ls (lv_sub hl [2, 1, 0] rfl)
set_option maxHeartbeats 4000000 in
set_option maxRecDepth 100000 in
theorem c_X9_clear (l : Launch) (dC : Nat → ClassId) (dI : Nat → Nat → Nat) (cI cJ cB cZ : ClassId) (aM : Nat → Nat) (sz : Nat) (M_nodes : Int32) (M_operators : Int32) (M_textSize : Int32) (M_wordCount : Int32) (M_isParsed : Int32) (M_isTaken : Int32) (M_items : Int32) (M_piled : Int32) (M_outSize : Int32) (M_told : Int32) (M_standing : Int32) (M_isTighter : Nat → Int32) (res : Int32 × Int32 × (Nat → Int32) × Int32 × Int32 × Int32) (hm : m_X9_clear M_nodes M_isTighter M_operators M_isParsed M_isTaken = some res) : Met l yX9_clear wsX9_clear rm_X9_clear (cP (dC, dI) vwCl [(cI, .int), (cJ, .long), (cB, .byte), (cZ, .boolean)] [.ref (aM 0)] [((aM 0), .inr (9, oX9 aM M_nodes M_operators M_textSize M_wordCount M_isParsed M_isTaken M_items M_piled M_outSize M_told M_standing)), ((aM 2), .inl (cZ, 256, .inl M_isTighter))] sz) (cQi res.1 (dC, dI) vwCl [((aM 0), .inr (9, oX9 aM res.2.1 res.2.2.2.1 M_textSize M_wordCount res.2.2.2.2.1 res.2.2.2.2.2 M_items M_piled M_outSize M_told M_standing)), ((aM 2), .inl (cZ, 256, .inl res.2.2.1))] [((aM 0), .inr (9, oX9 aM M_nodes M_operators M_textSize M_wordCount M_isParsed M_isTaken M_items M_piled M_outSize M_told M_standing)), ((aM 2), .inl (cZ, 256, .inl M_isTighter))] sz) 0 0 (va_A [((aM 0), .inr (9, oX9 aM M_nodes M_operators M_textSize M_wordCount M_isParsed M_isTaken M_items M_piled M_outSize M_told M_standing)), ((aM 2), .inl (cZ, 256, .inl M_isTighter))] sz) := by
  refine cx_of (cc := cX9_clear) (maxL := 3) (ret := (some .int)) (own := RX9) (by decide) rfl rfl (Nat.le_of_ble_eq_true rfl) ?_
  intro p e s m below meth c A C0 hinN hK hN hsz hAe hA hP hD hS ls hl
  refine k_X9_clear_E C0 hK hN hA aM M_textSize M_wordCount M_items M_piled M_outSize M_told M_standing res ?_ M_nodes M_isTighter M_operators M_isParsed M_isTaken hm _ _ hP hD hS ls hl
  intro v M_nodes M_isTighter M_operators M_isParsed M_isTaken he pc H locs ls hdg hP hD hS
  have he := Option.some.inj he
  subst he
  exact cx_reti C0 hsz hAe hdg hP hD hS

set_option maxRecDepth 20000 in
theorem ggX9_parse_X9_findWords : GoodIn wsX9_parse wsX9_findWords := goodIn_r _ [10, 1, 11, 12, 3, 95, 96, 97, 98, 99, 100, 101, 102, 103, 104, 105, 106, 107, 108, 109, 110, 111, 112, 113, 114, 115, 116, 117, 118, 119, 120, 121, 122, 123, 124, 125, 126, 127, 128, 129, 130, 131, 132, 133, 134, 135, 136, 137, 138, 139, 140, 141, 142, 143, 144, 145, 146, 147] (by decide +kernel) (by decide +kernel)
set_option maxRecDepth 20000 in
theorem gX9_parse_X9_findWords : GoodIn wsX9_parse (wsV RX9 231 RX9 yX9_findWords wsX9_findWords) := goodIn_app (goodIn_of _ (by decide +kernel)) ggX9_parse_X9_findWords
set_option maxRecDepth 20000 in
theorem ggX9_parse_X9_findTakes : GoodIn wsX9_parse wsX9_findTakes := goodIn_r _ [16, 17, 18, 19, 20, 21, 22, 23, 9, 24, 25, 26, 27, 28, 29, 30, 31, 32, 33, 34, 35, 36, 37, 38, 39, 40, 41, 42, 43, 44, 45, 46, 47, 48, 95, 96, 97, 98, 99, 100, 101, 102, 103, 104, 105, 106, 107, 108, 109, 110, 111, 112, 113, 114, 115, 116, 117, 118, 119, 120, 121, 122, 123, 124, 125, 126, 127, 128, 129, 130, 131, 132, 133, 134, 135, 136, 137, 138, 139, 140, 141, 142, 143, 144, 145, 146, 147] (by decide +kernel) (by decide +kernel)
set_option maxRecDepth 20000 in
theorem gX9_parse_X9_findTakes : GoodIn wsX9_parse (wsV RX9 241 RX9 yX9_findTakes wsX9_findTakes) := goodIn_app (goodIn_of _ (by decide +kernel)) ggX9_parse_X9_findTakes
set_option maxRecDepth 20000 in
theorem ggX9_parse_X9_findChart : GoodIn wsX9_parse wsX9_findChart := goodIn_r _ [52, 53, 54, 55, 56, 9, 57, 18, 58, 29, 59, 60, 36, 37, 38, 39, 30, 31, 32, 33, 34, 35, 61, 62, 63, 64, 2, 65, 66, 67, 68, 69, 70, 71, 72, 73, 74, 75, 76, 77, 78, 79, 80, 81, 82, 17, 83, 84, 85, 86, 87, 88, 89, 90, 91, 92, 93, 94, 95, 96, 97, 98, 99, 100, 101, 102, 103, 104, 105, 106, 107, 108, 109, 110, 111, 112, 113, 114, 115, 116, 117, 118, 119, 120, 121, 122, 123, 124, 125, 126, 127, 128, 129, 130, 131, 132, 133, 134, 135, 136, 137, 138, 139, 140, 141, 142, 143, 144, 145, 146, 147] (by decide +kernel) (by decide +kernel)
set_option maxRecDepth 20000 in
theorem gX9_parse_X9_findChart : GoodIn wsX9_parse (wsV RX9 244 RX9 yX9_findChart wsX9_findChart) := goodIn_app (goodIn_of _ (by decide +kernel)) ggX9_parse_X9_findChart
set_option maxRecDepth 20000 in
theorem ggX9_parse_X9_holeAt : GoodIn wsX9_parse wsX9_holeAt := goodIn_r _ [72, 73, 74, 95, 96, 97, 98, 99, 100, 101, 102, 103, 104, 105, 106, 107, 108, 109, 110, 111, 112, 113, 114, 115, 116, 117, 118, 119, 120, 121, 122, 123, 124, 125, 126, 127, 128, 129, 130, 131, 132, 133, 134, 135, 136, 137, 138, 139, 140, 141, 142, 143, 144, 145, 146, 147] (by decide +kernel) (by decide +kernel)
set_option maxRecDepth 20000 in
theorem gX9_parse_X9_holeAt : GoodIn wsX9_parse (wsV RX9 193 RX9 yX9_holeAt wsX9_holeAt) := goodIn_app (goodIn_of _ (by decide +kernel)) ggX9_parse_X9_holeAt
theorem dX9_parse_0 : decode cX9_parse 0 = .ok (.aload_n 0, 1) := by decide +kernel
theorem dX9_parse_1 : decode cX9_parse 1 = .ok (.invokevirtual 231, 3) := by decide +kernel
theorem dX9_parse_4 : decode cX9_parse 4 = .ok (.ifCond .ne 6, 3) := by decide +kernel
theorem dX9_parse_7 : decode cX9_parse 7 = .ok (.bipush (-5), 2) := by decide +kernel
theorem dX9_parse_9 : decode cX9_parse 9 = .ok (.ireturn, 1) := by decide +kernel
theorem dX9_parse_10 : decode cX9_parse 10 = .ok (.aload_n 0, 1) := by decide +kernel
theorem dX9_parse_11 : decode cX9_parse 11 = .ok (.getfield 145, 3) := by decide +kernel
theorem dX9_parse_14 : decode cX9_parse 14 = .ok (.bipush 40, 2) := by decide +kernel
theorem dX9_parse_16 : decode cX9_parse 16 = .ok (.if_icmp .le 6, 3) := by decide +kernel
theorem dX9_parse_19 : decode cX9_parse 19 = .ok (.bipush (-4), 2) := by decide +kernel
theorem dX9_parse_21 : decode cX9_parse 21 = .ok (.ireturn, 1) := by decide +kernel
theorem dX9_parse_22 : decode cX9_parse 22 = .ok (.aload_n 0, 1) := by decide +kernel
theorem dX9_parse_23 : decode cX9_parse 23 = .ok (.getfield 145, 3) := by decide +kernel
theorem dX9_parse_26 : decode cX9_parse 26 = .ok (.ifCond .ne 6, 3) := by decide +kernel
theorem dX9_parse_29 : decode cX9_parse 29 = .ok (.bipush (-2), 2) := by decide +kernel
theorem dX9_parse_31 : decode cX9_parse 31 = .ok (.ireturn, 1) := by decide +kernel
theorem dX9_parse_32 : decode cX9_parse 32 = .ok (.iconst 0, 1) := by decide +kernel
theorem dX9_parse_33 : decode cX9_parse 33 = .ok (.istore_n 1, 1) := by decide +kernel
theorem dX9_parse_34 : decode cX9_parse 34 = .ok (.iload_n 1, 1) := by decide +kernel
theorem dX9_parse_35 : decode cX9_parse 35 = .ok (.aload_n 0, 1) := by decide +kernel
theorem dX9_parse_36 : decode cX9_parse 36 = .ok (.getfield 145, 3) := by decide +kernel
theorem dX9_parse_39 : decode cX9_parse 39 = .ok (.if_icmp .ge 21, 3) := by decide +kernel
theorem dX9_parse_42 : decode cX9_parse 42 = .ok (.aload_n 0, 1) := by decide +kernel
theorem dX9_parse_43 : decode cX9_parse 43 = .ok (.getfield 36, 3) := by decide +kernel
theorem dX9_parse_46 : decode cX9_parse 46 = .ok (.iload_n 1, 1) := by decide +kernel
theorem dX9_parse_47 : decode cX9_parse 47 = .ok (.aload_n 0, 1) := by decide +kernel
theorem dX9_parse_48 : decode cX9_parse 48 = .ok (.getfield 33, 3) := by decide +kernel
theorem dX9_parse_51 : decode cX9_parse 51 = .ok (.iload_n 1, 1) := by decide +kernel
theorem dX9_parse_52 : decode cX9_parse 52 = .ok (.laload, 1) := by decide +kernel
theorem dX9_parse_53 : decode cX9_parse 53 = .ok (.lastore, 1) := by decide +kernel
theorem dX9_parse_54 : decode cX9_parse 54 = .ok (.iinc 1 1, 3) := by decide +kernel
theorem dX9_parse_57 : decode cX9_parse 57 = .ok (.goto (-23), 3) := by decide +kernel
theorem dX9_parse_60 : decode cX9_parse 60 = .ok (.aload_n 0, 1) := by decide +kernel
theorem dX9_parse_61 : decode cX9_parse 61 = .ok (.invokevirtual 241, 3) := by decide +kernel
theorem dX9_parse_64 : decode cX9_parse 64 = .ok (.aload_n 0, 1) := by decide +kernel
theorem dX9_parse_65 : decode cX9_parse 65 = .ok (.iconst 0, 1) := by decide +kernel
theorem dX9_parse_66 : decode cX9_parse 66 = .ok (.aload_n 0, 1) := by decide +kernel
theorem dX9_parse_67 : decode cX9_parse 67 = .ok (.getfield 145, 3) := by decide +kernel
theorem dX9_parse_70 : decode cX9_parse 70 = .ok (.invokevirtual 244, 3) := by decide +kernel
theorem dX9_parse_73 : decode cX9_parse 73 = .ok (.aload_n 0, 1) := by decide +kernel
theorem dX9_parse_74 : decode cX9_parse 74 = .ok (.iconst 1, 1) := by decide +kernel
theorem dX9_parse_75 : decode cX9_parse 75 = .ok (.putfield 215, 3) := by decide +kernel
theorem dX9_parse_78 : decode cX9_parse 78 = .ok (.aload_n 0, 1) := by decide +kernel
theorem dX9_parse_79 : decode cX9_parse 79 = .ok (.iconst 0, 1) := by decide +kernel
theorem dX9_parse_80 : decode cX9_parse 80 = .ok (.putfield 219, 3) := by decide +kernel
theorem dX9_parse_83 : decode cX9_parse 83 = .ok (.aload_n 0, 1) := by decide +kernel
theorem dX9_parse_84 : decode cX9_parse 84 = .ok (.iconst 0, 1) := by decide +kernel
theorem dX9_parse_85 : decode cX9_parse 85 = .ok (.iconst 0, 1) := by decide +kernel
theorem dX9_parse_86 : decode cX9_parse 86 = .ok (.iconst 0, 1) := by decide +kernel
theorem dX9_parse_87 : decode cX9_parse 87 = .ok (.aload_n 0, 1) := by decide +kernel
theorem dX9_parse_88 : decode cX9_parse 88 = .ok (.getfield 145, 3) := by decide +kernel
theorem dX9_parse_91 : decode cX9_parse 91 = .ok (.invokevirtual 193, 3) := by decide +kernel
theorem dX9_parse_94 : decode cX9_parse 94 = .ok (.ireturn, 1) := by decide +kernel
/-! MixfixDeskModel.parse()I -/
abbrev rm_X9_parse : Room := { frames := 5, cells := 0, slots := 0, locals := 125 }
theorem X9_parse_inX9 : ∀ w ∈ wsX90, w ∈ wsX9_parse := by exact fun w h => List.mem_cons_of_mem _ (List.mem_append_right _ h)
abbrev RT_X9_parse (p : Program) (l : Launch) (e : Env) (s : State) (m : MethodId) (args : Array Value) (below : List Frame) (meth : Method) (c : Code) (Q : State → Prop) (dC : Nat → ClassId) (dI : Nat → Nat → Nat) (cI cJ cB cZ : ClassId) (A : Nat → Prop) (aM : Nat → Nat) (M_nodes : Int32) (M_operators : Int32) (M_textSize : Int32) (M_items : Int32) (M_piled : Int32) (M_outSize : Int32) (M_told : Int32) (M_standing : Int32) (M_isTighter : Nat → Int32) (M_elements : Nat → Int64) (M_elementCount : Nat → Int32) (M_nodeOf : Nat → Int32) (M_wayOf : Nat → Int32) (M_text : Nat → Int32) (res : Int32 × (Nat → Int32) × (Nat → Int64) × Int32 × (Nat → Int64) × (Nat → Int32) × (Nat → Int32) × (Nat → Int32) × Int32 × (Nat → Int64) × Int32) : Prop := ∀ (v : Int32) (M_takes : Nat → Int32) (M_word : Nat → Int64) (M_wordCount : Int32) (M_chartWord : Nat → Int64) (M_chartSize : Nat → Int32) (M_withOperator : Nat → Int32) (M_inHole : Nat → Int32) (M_isParsed : Int32) (M_ways : Nat → Int64) (M_isTaken : Int32), some (v, M_takes, M_word, M_wordCount, M_chartWord, M_chartSize, M_withOperator, M_inHole, M_isParsed, M_ways, M_isTaken) = some res → ∀ (pc : Nat) (H : Heap) (locs : List Loc) (ls : Array Slot), decode cX9_parse pc = .ok (.ireturn, 1) → va_P (dC, dI) vwCl [((aM 0), .inr (9, oX9 aM M_nodes M_operators M_textSize M_wordCount M_isParsed M_isTaken M_items M_piled M_outSize M_told M_standing)), ((aM 2), .inl (cZ, 256, .inl M_isTighter)), ((aM 4), .inl (cJ, 270, .inr (.inl M_elements))), ((aM 5), .inl (cI, 30, .inl M_elementCount)), ((aM 6), .inl (cI, 30, .inl M_nodeOf)), ((aM 7), .inl (cI, 30, .inl M_wayOf)), ((aM 8), .inl (cI, 61, .inl M_takes)), ((aM 9), .inl (cI, 1500, .inl M_text)), ((aM 11), .inl (cJ, 760, .inr (.inl M_word))), ((aM 13), .inl (cJ, 80, .inr (.inl M_chartWord))), ((aM 14), .inl (cI, 2, .inl M_chartSize)), ((aM 15), .inl (cI, 100860, .inl M_withOperator)), ((aM 16), .inl (cI, 205082, .inl M_inHole)), ((aM 18), .inl (cJ, 12600, .inr (.inl M_ways)))] H → va_D A [((aM 0), .inr (9, oX9 aM M_nodes M_operators M_textSize M_wordCount M_isParsed M_isTaken M_items M_piled M_outSize M_told M_standing)), ((aM 2), .inl (cZ, 256, .inl M_isTighter)), ((aM 4), .inl (cJ, 270, .inr (.inl M_elements))), ((aM 5), .inl (cI, 30, .inl M_elementCount)), ((aM 6), .inl (cI, 30, .inl M_nodeOf)), ((aM 7), .inl (cI, 30, .inl M_wayOf)), ((aM 8), .inl (cI, 61, .inl M_takes)), ((aM 9), .inl (cI, 1500, .inl M_text)), ((aM 11), .inl (cJ, 760, .inr (.inl M_word))), ((aM 13), .inl (cJ, 80, .inr (.inl M_chartWord))), ((aM 14), .inl (cI, 2, .inl M_chartSize)), ((aM 15), .inl (cI, 100860, .inl M_withOperator)), ((aM 16), .inl (cI, 205082, .inl M_inHole)), ((aM 18), .inl (cJ, 12600, .inr (.inl M_ways)))] → va_S A s.heap H locs → W p l e rm_X9_parse s m args below meth c H locs 0 0 Q (F0 m pc ls [.int v])
set_option maxHeartbeats 4000000 in
set_option maxRecDepth 100000 in
theorem k_X9_parse_34 {p : Program} {l : Launch} {e : Env} {s : State} {m : MethodId} {args : Array Value} {below : List Frame} {meth : Method} {c : Code} {Q : State → Prop} {dC : Nat → ClassId} {dI : Nat → Nat → Nat} {cI cJ cB cZ : ClassId} {A : Nat → Prop} (C0 : Cx p s m meth c args cX9_parse 2 (some .int) wsX9_parse RX9) (hK : va_K (dC, dI) vwCl [(cI, .int), (cJ, .long), (cB, .byte), (cZ, .boolean)] s) (hN : NW s) (hA : ∀ q, s.heap.size ≤ q → A q) (aM : Nat → Nat) (M_nodes : Int32) (M_operators : Int32) (M_textSize : Int32) (M_items : Int32) (M_piled : Int32) (M_outSize : Int32) (M_told : Int32) (M_standing : Int32) (M_isTighter : Nat → Int32) (M_elements : Nat → Int64) (M_elementCount : Nat → Int32) (M_nodeOf : Nat → Int32) (M_wayOf : Nat → Int32) (M_text : Nat → Int32) (res : Int32 × (Nat → Int32) × (Nat → Int64) × Int32 × (Nat → Int64) × (Nat → Int32) × (Nat → Int32) × (Nat → Int32) × Int32 × (Nat → Int64) × Int32) (RET : RT_X9_parse p l e s m args below meth c Q dC dI cI cJ cB cZ A aM M_nodes M_operators M_textSize M_items M_piled M_outSize M_told M_standing M_isTighter M_elements M_elementCount M_nodeOf M_wayOf M_text res)   : ∀ (n : Nat) (M_takes : Nat → Int32) (M_word : Nat → Int64) (M_wordCount : Int32) (M_chartWord : Nat → Int64) (M_chartSize : Nat → Int32) (M_withOperator : Nat → Int32) (M_inHole : Nat → Int32) (M_isParsed : Int32) (M_ways : Nat → Int64) (M_isTaken : Int32) (x1 : Int32), m_X9_parse_34 M_operators M_textSize M_isTighter M_elements M_elementCount M_nodeOf M_wayOf M_text n M_takes M_word M_wordCount M_chartWord M_chartSize M_withOperator M_inHole M_isParsed M_ways M_isTaken x1 = some res → ∀ (H : Heap) (locs : List Loc), va_P (dC, dI) vwCl [((aM 0), .inr (9, oX9 aM M_nodes M_operators M_textSize M_wordCount M_isParsed M_isTaken M_items M_piled M_outSize M_told M_standing)), ((aM 2), .inl (cZ, 256, .inl M_isTighter)), ((aM 4), .inl (cJ, 270, .inr (.inl M_elements))), ((aM 5), .inl (cI, 30, .inl M_elementCount)), ((aM 6), .inl (cI, 30, .inl M_nodeOf)), ((aM 7), .inl (cI, 30, .inl M_wayOf)), ((aM 8), .inl (cI, 61, .inl M_takes)), ((aM 9), .inl (cI, 1500, .inl M_text)), ((aM 11), .inl (cJ, 760, .inr (.inl M_word))), ((aM 13), .inl (cJ, 80, .inr (.inl M_chartWord))), ((aM 14), .inl (cI, 2, .inl M_chartSize)), ((aM 15), .inl (cI, 100860, .inl M_withOperator)), ((aM 16), .inl (cI, 205082, .inl M_inHole)), ((aM 18), .inl (cJ, 12600, .inr (.inl M_ways)))] H → va_D A [((aM 0), .inr (9, oX9 aM M_nodes M_operators M_textSize M_wordCount M_isParsed M_isTaken M_items M_piled M_outSize M_told M_standing)), ((aM 2), .inl (cZ, 256, .inl M_isTighter)), ((aM 4), .inl (cJ, 270, .inr (.inl M_elements))), ((aM 5), .inl (cI, 30, .inl M_elementCount)), ((aM 6), .inl (cI, 30, .inl M_nodeOf)), ((aM 7), .inl (cI, 30, .inl M_wayOf)), ((aM 8), .inl (cI, 61, .inl M_takes)), ((aM 9), .inl (cI, 1500, .inl M_text)), ((aM 11), .inl (cJ, 760, .inr (.inl M_word))), ((aM 13), .inl (cJ, 80, .inr (.inl M_chartWord))), ((aM 14), .inl (cI, 2, .inl M_chartSize)), ((aM 15), .inl (cI, 100860, .inl M_withOperator)), ((aM 16), .inl (cI, 205082, .inl M_inHole)), ((aM 18), .inl (cJ, 12600, .inr (.inl M_ways)))] → va_S A s.heap H locs → ∀ (ls : Array Slot), lv_has ls 2 [(0, .ref (aM 0)), (1, .int x1)] → W p l e rm_X9_parse s m args below meth c H locs 0 0 Q (F0 m 34 ls []) := by
  obtain ⟨⟨hx, hb, hml, hown, hts⟩, hr, hlocks⟩ := id C0
  intro n
  induction n with
  | zero =>
    intro M_takes M_word M_wordCount M_chartWord M_chartSize M_withOperator M_inHole M_isParsed M_ways M_isTaken x1 hm
    exact absurd hm (by intro h; cases h)
  | succ n ih =>
    intro M_takes M_word M_wordCount M_chartWord M_chartSize M_withOperator M_inHole M_isParsed M_ways M_isTaken x1 hm H locs hP hD hS ls hl
    have hm : (if M_wordCount ≤ x1 then (Option.bind (m_X9_findTakes M_isTighter M_operators M_elements M_elementCount M_nodeOf M_wayOf M_takes) (fun r_2 => Option.bind (m_X9_findChart M_operators M_elements M_elementCount r_2 M_chartWord M_chartSize M_withOperator M_inHole M_ways 0 M_wordCount) (fun r_4 => Option.bind (m_X9_holeAt r_4.2.2.1 0 0 0 M_wordCount) (fun r_6 => some (r_6, r_2, M_word, M_wordCount, M_chartWord, r_4.1, r_4.2.1, r_4.2.2.1, 1, r_4.2.2.2, 0))))) else (gd x1 760 (gd x1 80 (m_X9_parse_34 M_operators M_textSize M_isTighter M_elements M_elementCount M_nodeOf M_wayOf M_text n M_takes M_word M_wordCount (vp_updL M_chartWord x1.toNatClampNeg (M_word x1.toNatClampNeg)) M_chartSize M_withOperator M_inHole M_isParsed M_ways M_isTaken (x1 + 1))))) = some res := hm
    refine lv_iload_n hx hb dX9_parse_34 rfl (lv_at hl 1 rfl) ?_
    refine lv_aload_n hx hb dX9_parse_35 rfl (lv_at hl 0 rfl) ?_
    refine va_get (D := (dC, dI)) (ci := 9) (v := .int M_wordCount) (C := RX9) (T := TX9) (N := 53) hx hb hts X9_parse_inX9 hown hK hP 0 rfl rfl 11 (by decide) (hts (.fieldLink RX9 145 "MixfixDeskModel" "wordCount" "I") (List.mem_of_getElem? (i := 1) rfl)) (fun _ h9 => h9) rfl dX9_parse_36 ?_
    refine lv_icmp_ge (tgt := 60) hx hb dX9_parse_39 (by decide) (fun c_1 => ?_) (fun c_1 => ?_)
    · have hm := it_some c_1 hm
      refine lv_aload_n hx hb dX9_parse_60 rfl (lv_at hl 0 rfl) ?_
      obtain ⟨r_2, hc_3, hm⟩ := ob_some hm
      refine cx_v (wr := [((aM 9), .inl (cI, 1500, .inl M_text)), ((aM 11), .inl (cJ, 760, .inr (.inl M_word))), ((aM 13), .inl (cJ, 80, .inr (.inl M_chartWord))), ((aM 14), .inl (cI, 2, .inl M_chartSize)), ((aM 15), .inl (cI, 100860, .inl M_withOperator)), ((aM 16), .inl (cI, 205082, .inl M_inHole)), ((aM 18), .inl (cJ, 12600, .inr (.inl M_ways)))]) (va_runV (As := []) (rest := []) C0.1 (c_X9_findTakes l dC dI cI cJ cB cZ aM H.size M_nodes M_operators M_textSize M_wordCount M_isParsed M_isTaken M_items M_piled M_outSize M_told M_standing M_isTighter M_elements M_elementCount M_nodeOf M_wayOf M_takes r_2 hc_3) (cwV 0 hts gX9_parse_X9_findTakes rfl rfl rfl (by decide +kernel) ⟨Nat.le_of_ble_eq_true rfl, Nat.le_of_ble_eq_true rfl⟩) (cP_V (ci := 9) (q0 := 0) hK hN hP hD rfl rfl [0, 1, 2, 3, 4, 5, 6] (by decide) rfl) rfl rfl hl.1 rfl (lv_room (Nat.le_of_ble_eq_true rfl)) dX9_parse_61 ⟨Nat.le_of_ble_eq_true rfl, Nat.le_of_ble_eq_true rfl⟩) hP hD hS hA [0, 1, 2, 3, 4, 5, 6] [7, 8, 9, 10, 11, 12, 13] rfl rfl (by decide) (by decide) (fun H locs hP hD hS => ?_)
      have hP : va_P (dC, dI) vwCl [((aM 9), .inl (cI, 1500, .inl M_text)), ((aM 11), .inl (cJ, 760, .inr (.inl M_word))), ((aM 13), .inl (cJ, 80, .inr (.inl M_chartWord))), ((aM 14), .inl (cI, 2, .inl M_chartSize)), ((aM 15), .inl (cI, 100860, .inl M_withOperator)), ((aM 16), .inl (cI, 205082, .inl M_inHole)), ((aM 18), .inl (cJ, 12600, .inr (.inl M_ways))), ((aM 0), .inr (9, oX9 aM M_nodes M_operators M_textSize M_wordCount M_isParsed M_isTaken M_items M_piled M_outSize M_told M_standing)), ((aM 2), .inl (cZ, 256, .inl M_isTighter)), ((aM 4), .inl (cJ, 270, .inr (.inl M_elements))), ((aM 5), .inl (cI, 30, .inl M_elementCount)), ((aM 6), .inl (cI, 30, .inl M_nodeOf)), ((aM 7), .inl (cI, 30, .inl M_wayOf)), ((aM 8), .inl (cI, 61, .inl r_2))] H := hP
      have hD : va_D A [((aM 9), .inl (cI, 1500, .inl M_text)), ((aM 11), .inl (cJ, 760, .inr (.inl M_word))), ((aM 13), .inl (cJ, 80, .inr (.inl M_chartWord))), ((aM 14), .inl (cI, 2, .inl M_chartSize)), ((aM 15), .inl (cI, 100860, .inl M_withOperator)), ((aM 16), .inl (cI, 205082, .inl M_inHole)), ((aM 18), .inl (cJ, 12600, .inr (.inl M_ways))), ((aM 0), .inr (9, oX9 aM M_nodes M_operators M_textSize M_wordCount M_isParsed M_isTaken M_items M_piled M_outSize M_told M_standing)), ((aM 2), .inl (cZ, 256, .inl M_isTighter)), ((aM 4), .inl (cJ, 270, .inr (.inl M_elements))), ((aM 5), .inl (cI, 30, .inl M_elementCount)), ((aM 6), .inl (cI, 30, .inl M_nodeOf)), ((aM 7), .inl (cI, 30, .inl M_wayOf)), ((aM 8), .inl (cI, 61, .inl r_2))] := hD
      refine lv_aload_n hx hb dX9_parse_64 rfl (lv_at hl 0 rfl) ?_
      refine lv_iconst (v := 0) hx hb dX9_parse_65 (by decide) ?_
      refine lv_aload_n hx hb dX9_parse_66 rfl (lv_at hl 0 rfl) ?_
      refine va_get (D := (dC, dI)) (ci := 9) (v := .int M_wordCount) (C := RX9) (T := TX9) (N := 53) hx hb hts X9_parse_inX9 hown hK hP 7 rfl rfl 11 (by decide) (hts (.fieldLink RX9 145 "MixfixDeskModel" "wordCount" "I") (List.mem_of_getElem? (i := 1) rfl)) (fun _ h9 => h9) rfl dX9_parse_67 ?_
      obtain ⟨r_4, hc_5, hm⟩ := ob_some hm
      refine cx_v (wr := [((aM 9), .inl (cI, 1500, .inl M_text)), ((aM 11), .inl (cJ, 760, .inr (.inl M_word))), ((aM 2), .inl (cZ, 256, .inl M_isTighter)), ((aM 6), .inl (cI, 30, .inl M_nodeOf)), ((aM 7), .inl (cI, 30, .inl M_wayOf))]) (va_runV (As := [.int 0, .int M_wordCount]) (rest := []) C0.1 (c_X9_findChart l dC dI cI cJ cB cZ aM H.size M_nodes M_operators M_textSize M_wordCount M_isParsed M_isTaken M_items M_piled M_outSize M_told M_standing M_elements M_elementCount r_2 M_chartWord M_chartSize M_withOperator M_inHole M_ways 0 M_wordCount r_4 hc_5) (cwV 2 hts gX9_parse_X9_findChart rfl rfl rfl (by decide +kernel) ⟨Nat.le_of_ble_eq_true rfl, Nat.le_of_ble_eq_true rfl⟩) (cP_V (ci := 9) (q0 := 7) hK hN hP hD rfl rfl [7, 9, 10, 13, 2, 3, 4, 5, 6] (by decide) rfl) rfl rfl hl.1 rfl (lv_room (Nat.le_of_ble_eq_true rfl)) dX9_parse_70 ⟨Nat.le_of_ble_eq_true rfl, Nat.le_of_ble_eq_true rfl⟩) hP hD hS hA [7, 9, 10, 13, 2, 3, 4, 5, 6] [0, 1, 8, 11, 12] rfl rfl (by decide) (by decide) (fun H locs hP hD hS => ?_)
      have hP : va_P (dC, dI) vwCl [((aM 9), .inl (cI, 1500, .inl M_text)), ((aM 11), .inl (cJ, 760, .inr (.inl M_word))), ((aM 2), .inl (cZ, 256, .inl M_isTighter)), ((aM 6), .inl (cI, 30, .inl M_nodeOf)), ((aM 7), .inl (cI, 30, .inl M_wayOf)), ((aM 0), .inr (9, oX9 aM M_nodes M_operators M_textSize M_wordCount M_isParsed M_isTaken M_items M_piled M_outSize M_told M_standing)), ((aM 4), .inl (cJ, 270, .inr (.inl M_elements))), ((aM 5), .inl (cI, 30, .inl M_elementCount)), ((aM 8), .inl (cI, 61, .inl r_2)), ((aM 13), .inl (cJ, 80, .inr (.inl M_chartWord))), ((aM 14), .inl (cI, 2, .inl r_4.1)), ((aM 15), .inl (cI, 100860, .inl r_4.2.1)), ((aM 16), .inl (cI, 205082, .inl r_4.2.2.1)), ((aM 18), .inl (cJ, 12600, .inr (.inl r_4.2.2.2)))] H := hP
      have hD : va_D A [((aM 9), .inl (cI, 1500, .inl M_text)), ((aM 11), .inl (cJ, 760, .inr (.inl M_word))), ((aM 2), .inl (cZ, 256, .inl M_isTighter)), ((aM 6), .inl (cI, 30, .inl M_nodeOf)), ((aM 7), .inl (cI, 30, .inl M_wayOf)), ((aM 0), .inr (9, oX9 aM M_nodes M_operators M_textSize M_wordCount M_isParsed M_isTaken M_items M_piled M_outSize M_told M_standing)), ((aM 4), .inl (cJ, 270, .inr (.inl M_elements))), ((aM 5), .inl (cI, 30, .inl M_elementCount)), ((aM 8), .inl (cI, 61, .inl r_2)), ((aM 13), .inl (cJ, 80, .inr (.inl M_chartWord))), ((aM 14), .inl (cI, 2, .inl r_4.1)), ((aM 15), .inl (cI, 100860, .inl r_4.2.1)), ((aM 16), .inl (cI, 205082, .inl r_4.2.2.1)), ((aM 18), .inl (cJ, 12600, .inr (.inl r_4.2.2.2)))] := hD
      refine lv_aload_n hx hb dX9_parse_73 rfl (lv_at hl 0 rfl) ?_
      refine lv_iconst (v := 1) hx hb dX9_parse_74 (by decide) ?_
      refine va_put (D := (dC, dI)) (ci := 9) (v := .int 1) (ty := .boolean) (C := RX9) (T := TX9) (N := 53) hx hb hts X9_parse_inX9 tyX9 tyX9_ok nmX9 hown hK hP hD hS 5 rfl rfl 16 (by decide) (hts (.fieldLink RX9 215 "MixfixDeskModel" "isParsed" "Z") (List.mem_of_getElem? (i := 4) rfl)) (fun _ h9 => h9) rfl (by decide +kernel) rfl rfl (Nat.le_of_ble_eq_true rfl) dX9_parse_75 (fun H locs hP hD hS => ?_)
      have hP : va_P (dC, dI) vwCl [((aM 9), .inl (cI, 1500, .inl M_text)), ((aM 11), .inl (cJ, 760, .inr (.inl M_word))), ((aM 2), .inl (cZ, 256, .inl M_isTighter)), ((aM 6), .inl (cI, 30, .inl M_nodeOf)), ((aM 7), .inl (cI, 30, .inl M_wayOf)), ((aM 0), .inr (9, oX9 aM M_nodes M_operators M_textSize M_wordCount 1 M_isTaken M_items M_piled M_outSize M_told M_standing)), ((aM 4), .inl (cJ, 270, .inr (.inl M_elements))), ((aM 5), .inl (cI, 30, .inl M_elementCount)), ((aM 8), .inl (cI, 61, .inl r_2)), ((aM 13), .inl (cJ, 80, .inr (.inl M_chartWord))), ((aM 14), .inl (cI, 2, .inl r_4.1)), ((aM 15), .inl (cI, 100860, .inl r_4.2.1)), ((aM 16), .inl (cI, 205082, .inl r_4.2.2.1)), ((aM 18), .inl (cJ, 12600, .inr (.inl r_4.2.2.2)))] H := hP
      have hD : va_D A [((aM 9), .inl (cI, 1500, .inl M_text)), ((aM 11), .inl (cJ, 760, .inr (.inl M_word))), ((aM 2), .inl (cZ, 256, .inl M_isTighter)), ((aM 6), .inl (cI, 30, .inl M_nodeOf)), ((aM 7), .inl (cI, 30, .inl M_wayOf)), ((aM 0), .inr (9, oX9 aM M_nodes M_operators M_textSize M_wordCount 1 M_isTaken M_items M_piled M_outSize M_told M_standing)), ((aM 4), .inl (cJ, 270, .inr (.inl M_elements))), ((aM 5), .inl (cI, 30, .inl M_elementCount)), ((aM 8), .inl (cI, 61, .inl r_2)), ((aM 13), .inl (cJ, 80, .inr (.inl M_chartWord))), ((aM 14), .inl (cI, 2, .inl r_4.1)), ((aM 15), .inl (cI, 100860, .inl r_4.2.1)), ((aM 16), .inl (cI, 205082, .inl r_4.2.2.1)), ((aM 18), .inl (cJ, 12600, .inr (.inl r_4.2.2.2)))] := hD
      refine lv_aload_n hx hb dX9_parse_78 rfl (lv_at hl 0 rfl) ?_
      refine lv_iconst (v := 0) hx hb dX9_parse_79 (by decide) ?_
      refine va_put (D := (dC, dI)) (ci := 9) (v := .int 0) (ty := .boolean) (C := RX9) (T := TX9) (N := 53) hx hb hts X9_parse_inX9 tyX9 tyX9_ok nmX9 hown hK hP hD hS 5 rfl rfl 19 (by decide) (hts (.fieldLink RX9 219 "MixfixDeskModel" "isTaken" "Z") (List.mem_of_getElem? (i := 5) rfl)) (fun _ h9 => h9) rfl (by decide +kernel) rfl rfl (Nat.le_of_ble_eq_true rfl) dX9_parse_80 (fun H locs hP hD hS => ?_)
      have hP : va_P (dC, dI) vwCl [((aM 9), .inl (cI, 1500, .inl M_text)), ((aM 11), .inl (cJ, 760, .inr (.inl M_word))), ((aM 2), .inl (cZ, 256, .inl M_isTighter)), ((aM 6), .inl (cI, 30, .inl M_nodeOf)), ((aM 7), .inl (cI, 30, .inl M_wayOf)), ((aM 0), .inr (9, oX9 aM M_nodes M_operators M_textSize M_wordCount 1 0 M_items M_piled M_outSize M_told M_standing)), ((aM 4), .inl (cJ, 270, .inr (.inl M_elements))), ((aM 5), .inl (cI, 30, .inl M_elementCount)), ((aM 8), .inl (cI, 61, .inl r_2)), ((aM 13), .inl (cJ, 80, .inr (.inl M_chartWord))), ((aM 14), .inl (cI, 2, .inl r_4.1)), ((aM 15), .inl (cI, 100860, .inl r_4.2.1)), ((aM 16), .inl (cI, 205082, .inl r_4.2.2.1)), ((aM 18), .inl (cJ, 12600, .inr (.inl r_4.2.2.2)))] H := hP
      have hD : va_D A [((aM 9), .inl (cI, 1500, .inl M_text)), ((aM 11), .inl (cJ, 760, .inr (.inl M_word))), ((aM 2), .inl (cZ, 256, .inl M_isTighter)), ((aM 6), .inl (cI, 30, .inl M_nodeOf)), ((aM 7), .inl (cI, 30, .inl M_wayOf)), ((aM 0), .inr (9, oX9 aM M_nodes M_operators M_textSize M_wordCount 1 0 M_items M_piled M_outSize M_told M_standing)), ((aM 4), .inl (cJ, 270, .inr (.inl M_elements))), ((aM 5), .inl (cI, 30, .inl M_elementCount)), ((aM 8), .inl (cI, 61, .inl r_2)), ((aM 13), .inl (cJ, 80, .inr (.inl M_chartWord))), ((aM 14), .inl (cI, 2, .inl r_4.1)), ((aM 15), .inl (cI, 100860, .inl r_4.2.1)), ((aM 16), .inl (cI, 205082, .inl r_4.2.2.1)), ((aM 18), .inl (cJ, 12600, .inr (.inl r_4.2.2.2)))] := hD
      refine lv_aload_n hx hb dX9_parse_83 rfl (lv_at hl 0 rfl) ?_
      refine lv_iconst (v := 0) hx hb dX9_parse_84 (by decide) ?_
      refine lv_iconst (v := 0) hx hb dX9_parse_85 (by decide) ?_
      refine lv_iconst (v := 0) hx hb dX9_parse_86 (by decide) ?_
      refine lv_aload_n hx hb dX9_parse_87 rfl (lv_at hl 0 rfl) ?_
      refine va_get (D := (dC, dI)) (ci := 9) (v := .int M_wordCount) (C := RX9) (T := TX9) (N := 53) hx hb hts X9_parse_inX9 hown hK hP 5 rfl rfl 11 (by decide) (hts (.fieldLink RX9 145 "MixfixDeskModel" "wordCount" "I") (List.mem_of_getElem? (i := 1) rfl)) (fun _ h9 => h9) rfl dX9_parse_88 ?_
      obtain ⟨r_6, hc_7, hm⟩ := ob_some hm
      refine cx_i (wr := [((aM 9), .inl (cI, 1500, .inl M_text)), ((aM 11), .inl (cJ, 760, .inr (.inl M_word))), ((aM 2), .inl (cZ, 256, .inl M_isTighter)), ((aM 6), .inl (cI, 30, .inl M_nodeOf)), ((aM 7), .inl (cI, 30, .inl M_wayOf)), ((aM 4), .inl (cJ, 270, .inr (.inl M_elements))), ((aM 5), .inl (cI, 30, .inl M_elementCount)), ((aM 8), .inl (cI, 61, .inl r_2)), ((aM 13), .inl (cJ, 80, .inr (.inl M_chartWord))), ((aM 14), .inl (cI, 2, .inl r_4.1)), ((aM 15), .inl (cI, 100860, .inl r_4.2.1)), ((aM 18), .inl (cJ, 12600, .inr (.inl r_4.2.2.2)))]) (va_runV (As := [.int 0, .int 0, .int 0, .int M_wordCount]) (rest := []) C0.1 (c_X9_holeAt l dC dI cI cJ cB cZ aM H.size M_nodes M_operators M_textSize M_wordCount 1 0 M_items M_piled M_outSize M_told M_standing r_4.2.2.1 0 0 0 M_wordCount r_6 hc_7) (cwV 4 hts gX9_parse_X9_holeAt rfl rfl rfl (by decide +kernel) ⟨Nat.le_of_ble_eq_true rfl, Nat.le_of_ble_eq_true rfl⟩) (cP_V (ci := 9) (q0 := 5) hK hN hP hD rfl rfl [5, 12] (by decide) rfl) rfl rfl hl.1 rfl (lv_room (Nat.le_of_ble_eq_true rfl)) dX9_parse_91 ⟨Nat.le_of_ble_eq_true rfl, Nat.le_of_ble_eq_true rfl⟩) hP hD hS hA [5, 12] [0, 1, 2, 3, 4, 6, 7, 8, 9, 10, 11, 13] rfl rfl (by decide) (by decide) (fun H locs hP hD hS => ?_)
      have hP : va_P (dC, dI) vwCl [((aM 9), .inl (cI, 1500, .inl M_text)), ((aM 11), .inl (cJ, 760, .inr (.inl M_word))), ((aM 2), .inl (cZ, 256, .inl M_isTighter)), ((aM 6), .inl (cI, 30, .inl M_nodeOf)), ((aM 7), .inl (cI, 30, .inl M_wayOf)), ((aM 4), .inl (cJ, 270, .inr (.inl M_elements))), ((aM 5), .inl (cI, 30, .inl M_elementCount)), ((aM 8), .inl (cI, 61, .inl r_2)), ((aM 13), .inl (cJ, 80, .inr (.inl M_chartWord))), ((aM 14), .inl (cI, 2, .inl r_4.1)), ((aM 15), .inl (cI, 100860, .inl r_4.2.1)), ((aM 18), .inl (cJ, 12600, .inr (.inl r_4.2.2.2))), ((aM 0), .inr (9, oX9 aM M_nodes M_operators M_textSize M_wordCount 1 0 M_items M_piled M_outSize M_told M_standing)), ((aM 16), .inl (cI, 205082, .inl r_4.2.2.1))] H := hP
      have hD : va_D A [((aM 9), .inl (cI, 1500, .inl M_text)), ((aM 11), .inl (cJ, 760, .inr (.inl M_word))), ((aM 2), .inl (cZ, 256, .inl M_isTighter)), ((aM 6), .inl (cI, 30, .inl M_nodeOf)), ((aM 7), .inl (cI, 30, .inl M_wayOf)), ((aM 4), .inl (cJ, 270, .inr (.inl M_elements))), ((aM 5), .inl (cI, 30, .inl M_elementCount)), ((aM 8), .inl (cI, 61, .inl r_2)), ((aM 13), .inl (cJ, 80, .inr (.inl M_chartWord))), ((aM 14), .inl (cI, 2, .inl r_4.1)), ((aM 15), .inl (cI, 100860, .inl r_4.2.1)), ((aM 18), .inl (cJ, 12600, .inr (.inl r_4.2.2.2))), ((aM 0), .inr (9, oX9 aM M_nodes M_operators M_textSize M_wordCount 1 0 M_items M_piled M_outSize M_told M_standing)), ((aM 16), .inl (cI, 205082, .inl r_4.2.2.1))] := hD
      exact RET r_6 r_2 M_word M_wordCount M_chartWord r_4.1 r_4.2.1 r_4.2.2.1 1 r_4.2.2.2 0 hm _ H locs ls dX9_parse_94 (P_sub' hP [12, 2, 5, 6, 3, 4, 7, 0, 1, 8, 9, 10, 13, 11] rfl) (hD.sub [12, 2, 5, 6, 3, 4, 7, 0, 1, 8, 9, 10, 13, 11] (by decide) rfl) hS
    · have hm := if_some' c_1 hm
      refine lv_aload_n hx hb dX9_parse_42 rfl (lv_at hl 0 rfl) ?_
      refine va_get (D := (dC, dI)) (ci := 9) (v := .ref (aM 13)) (C := RX9) (T := TX9) (N := 53) hx hb hts X9_parse_inX9 hown hK hP 0 rfl rfl 12 (by decide) (hts (.fieldLink RX9 36 "MixfixDeskModel" "chartWord" "[J") (List.mem_of_getElem? (i := 2) rfl)) (fun _ h9 => h9) rfl dX9_parse_43 ?_
      refine lv_iload_n hx hb dX9_parse_46 rfl (lv_at hl 1 rfl) ?_
      refine lv_aload_n hx hb dX9_parse_47 rfl (lv_at hl 0 rfl) ?_
      refine va_get (D := (dC, dI)) (ci := 9) (v := .ref (aM 11)) (C := RX9) (T := TX9) (N := 53) hx hb hts X9_parse_inX9 hown hK hP 0 rfl rfl 10 (by decide) (hts (.fieldLink RX9 33 "MixfixDeskModel" "word" "[J") (List.mem_of_getElem? (i := 3) rfl)) (fun _ h9 => h9) rfl dX9_parse_48 ?_
      refine lv_iload_n hx hb dX9_parse_51 rfl (lv_at hl 1 rfl) ?_
      obtain ⟨hi_8, hm⟩ := gd_some hm
      refine va_lald (D := (dC, dI)) hx hb hK hP 8 1 rfl rfl hi_8 dX9_parse_52 ?_
      obtain ⟨hi_9, hm⟩ := gd_some hm
      refine va_last (D := (dC, dI)) hx hb hK hP hD hS 9 1 rfl rfl hi_9 dX9_parse_53 (fun H locs hP hD hS => ?_)
      have hP : va_P (dC, dI) vwCl [((aM 0), .inr (9, oX9 aM M_nodes M_operators M_textSize M_wordCount M_isParsed M_isTaken M_items M_piled M_outSize M_told M_standing)), ((aM 2), .inl (cZ, 256, .inl M_isTighter)), ((aM 4), .inl (cJ, 270, .inr (.inl M_elements))), ((aM 5), .inl (cI, 30, .inl M_elementCount)), ((aM 6), .inl (cI, 30, .inl M_nodeOf)), ((aM 7), .inl (cI, 30, .inl M_wayOf)), ((aM 8), .inl (cI, 61, .inl M_takes)), ((aM 9), .inl (cI, 1500, .inl M_text)), ((aM 11), .inl (cJ, 760, .inr (.inl M_word))), ((aM 13), .inl (cJ, 80, .inr (.inl (vp_updL M_chartWord x1.toNatClampNeg (M_word x1.toNatClampNeg))))), ((aM 14), .inl (cI, 2, .inl M_chartSize)), ((aM 15), .inl (cI, 100860, .inl M_withOperator)), ((aM 16), .inl (cI, 205082, .inl M_inHole)), ((aM 18), .inl (cJ, 12600, .inr (.inl M_ways)))] H := hP
      have hD : va_D A [((aM 0), .inr (9, oX9 aM M_nodes M_operators M_textSize M_wordCount M_isParsed M_isTaken M_items M_piled M_outSize M_told M_standing)), ((aM 2), .inl (cZ, 256, .inl M_isTighter)), ((aM 4), .inl (cJ, 270, .inr (.inl M_elements))), ((aM 5), .inl (cI, 30, .inl M_elementCount)), ((aM 6), .inl (cI, 30, .inl M_nodeOf)), ((aM 7), .inl (cI, 30, .inl M_wayOf)), ((aM 8), .inl (cI, 61, .inl M_takes)), ((aM 9), .inl (cI, 1500, .inl M_text)), ((aM 11), .inl (cJ, 760, .inr (.inl M_word))), ((aM 13), .inl (cJ, 80, .inr (.inl (vp_updL M_chartWord x1.toNatClampNeg (M_word x1.toNatClampNeg))))), ((aM 14), .inl (cI, 2, .inl M_chartSize)), ((aM 15), .inl (cI, 100860, .inl M_withOperator)), ((aM 16), .inl (cI, 205082, .inl M_inHole)), ((aM 18), .inl (cJ, 12600, .inr (.inl M_ways)))] := hD
      refine lv_iinc (v := x1 + 1) (lv' := [(1, .int (x1 + 1)), (0, .ref (aM 0))]) hx hb dX9_parse_54 hl (k := 1) rfl rfl (by decide) rfl (fun ls hl => ?_)
      refine lv_goto (tgt := 34) hx hb dX9_parse_57 (by decide) ?_
      exact ih M_takes M_word M_wordCount (vp_updL M_chartWord x1.toNatClampNeg (M_word x1.toNatClampNeg)) M_chartSize M_withOperator M_inHole M_isParsed M_ways M_isTaken (x1 + 1) hm H locs hP hD hS ls (lv_sub hl [1, 0] rfl)
set_option maxHeartbeats 4000000 in
set_option maxRecDepth 100000 in
theorem k_X9_parse_E {p : Program} {l : Launch} {e : Env} {s : State} {m : MethodId} {args : Array Value} {below : List Frame} {meth : Method} {c : Code} {Q : State → Prop} {dC : Nat → ClassId} {dI : Nat → Nat → Nat} {cI cJ cB cZ : ClassId} {A : Nat → Prop} (C0 : Cx p s m meth c args cX9_parse 2 (some .int) wsX9_parse RX9) (hK : va_K (dC, dI) vwCl [(cI, .int), (cJ, .long), (cB, .byte), (cZ, .boolean)] s) (hN : NW s) (hA : ∀ q, s.heap.size ≤ q → A q) (aM : Nat → Nat) (M_nodes : Int32) (M_operators : Int32) (M_textSize : Int32) (M_items : Int32) (M_piled : Int32) (M_outSize : Int32) (M_told : Int32) (M_standing : Int32) (M_isTighter : Nat → Int32) (M_elements : Nat → Int64) (M_elementCount : Nat → Int32) (M_nodeOf : Nat → Int32) (M_wayOf : Nat → Int32) (M_text : Nat → Int32) (res : Int32 × (Nat → Int32) × (Nat → Int64) × Int32 × (Nat → Int64) × (Nat → Int32) × (Nat → Int32) × (Nat → Int32) × Int32 × (Nat → Int64) × Int32) (RET : RT_X9_parse p l e s m args below meth c Q dC dI cI cJ cB cZ A aM M_nodes M_operators M_textSize M_items M_piled M_outSize M_told M_standing M_isTighter M_elements M_elementCount M_nodeOf M_wayOf M_text res) : ∀ (M_takes : Nat → Int32) (M_word : Nat → Int64) (M_wordCount : Int32) (M_chartWord : Nat → Int64) (M_chartSize : Nat → Int32) (M_withOperator : Nat → Int32) (M_inHole : Nat → Int32) (M_isParsed : Int32) (M_ways : Nat → Int64) (M_isTaken : Int32), m_X9_parse M_isTighter M_operators M_elements M_elementCount M_nodeOf M_wayOf M_takes M_text M_textSize M_word M_wordCount M_chartWord M_chartSize M_withOperator M_inHole M_isParsed M_ways M_isTaken = some res → ∀ (H : Heap) (locs : List Loc), va_P (dC, dI) vwCl [((aM 0), .inr (9, oX9 aM M_nodes M_operators M_textSize M_wordCount M_isParsed M_isTaken M_items M_piled M_outSize M_told M_standing)), ((aM 2), .inl (cZ, 256, .inl M_isTighter)), ((aM 4), .inl (cJ, 270, .inr (.inl M_elements))), ((aM 5), .inl (cI, 30, .inl M_elementCount)), ((aM 6), .inl (cI, 30, .inl M_nodeOf)), ((aM 7), .inl (cI, 30, .inl M_wayOf)), ((aM 8), .inl (cI, 61, .inl M_takes)), ((aM 9), .inl (cI, 1500, .inl M_text)), ((aM 11), .inl (cJ, 760, .inr (.inl M_word))), ((aM 13), .inl (cJ, 80, .inr (.inl M_chartWord))), ((aM 14), .inl (cI, 2, .inl M_chartSize)), ((aM 15), .inl (cI, 100860, .inl M_withOperator)), ((aM 16), .inl (cI, 205082, .inl M_inHole)), ((aM 18), .inl (cJ, 12600, .inr (.inl M_ways)))] H → va_D A [((aM 0), .inr (9, oX9 aM M_nodes M_operators M_textSize M_wordCount M_isParsed M_isTaken M_items M_piled M_outSize M_told M_standing)), ((aM 2), .inl (cZ, 256, .inl M_isTighter)), ((aM 4), .inl (cJ, 270, .inr (.inl M_elements))), ((aM 5), .inl (cI, 30, .inl M_elementCount)), ((aM 6), .inl (cI, 30, .inl M_nodeOf)), ((aM 7), .inl (cI, 30, .inl M_wayOf)), ((aM 8), .inl (cI, 61, .inl M_takes)), ((aM 9), .inl (cI, 1500, .inl M_text)), ((aM 11), .inl (cJ, 760, .inr (.inl M_word))), ((aM 13), .inl (cJ, 80, .inr (.inl M_chartWord))), ((aM 14), .inl (cI, 2, .inl M_chartSize)), ((aM 15), .inl (cI, 100860, .inl M_withOperator)), ((aM 16), .inl (cI, 205082, .inl M_inHole)), ((aM 18), .inl (cJ, 12600, .inr (.inl M_ways)))] → va_S A s.heap H locs → ∀ (ls : Array Slot), lv_has ls 2 [(0, .ref (aM 0))] → W p l e rm_X9_parse s m args below meth c H locs 0 0 Q (F0 m 0 ls []) := by
  obtain ⟨⟨hx, hb, hml, hown, hts⟩, hr, hlocks⟩ := id C0
  intro M_takes M_word M_wordCount M_chartWord M_chartSize M_withOperator M_inHole M_isParsed M_ways M_isTaken hm H locs hP hD hS ls hl
  have hm : (Option.bind (m_X9_findWords M_text M_textSize M_word M_wordCount) (fun r_10 => if r_10.1 = 0 then (some ((-5), M_takes, r_10.2.1, r_10.2.2, M_chartWord, M_chartSize, M_withOperator, M_inHole, M_isParsed, M_ways, M_isTaken)) else (if r_10.2.2 ≤ 40 then (if r_10.2.2 = 0 then (some ((-2), M_takes, r_10.2.1, r_10.2.2, M_chartWord, M_chartSize, M_withOperator, M_inHole, M_isParsed, M_ways, M_isTaken)) else (m_X9_parse_34 M_operators M_textSize M_isTighter M_elements M_elementCount M_nodeOf M_wayOf M_text FU M_takes r_10.2.1 r_10.2.2 M_chartWord M_chartSize M_withOperator M_inHole M_isParsed M_ways M_isTaken 0)) else (some ((-4), M_takes, r_10.2.1, r_10.2.2, M_chartWord, M_chartSize, M_withOperator, M_inHole, M_isParsed, M_ways, M_isTaken))))) = some res := hm
  refine lv_aload_n hx hb dX9_parse_0 rfl (lv_at hl 0 rfl) ?_
  obtain ⟨r_10, hc_11, hm⟩ := ob_some hm
  refine cx_i (wr := [((aM 2), .inl (cZ, 256, .inl M_isTighter)), ((aM 4), .inl (cJ, 270, .inr (.inl M_elements))), ((aM 5), .inl (cI, 30, .inl M_elementCount)), ((aM 6), .inl (cI, 30, .inl M_nodeOf)), ((aM 7), .inl (cI, 30, .inl M_wayOf)), ((aM 8), .inl (cI, 61, .inl M_takes)), ((aM 13), .inl (cJ, 80, .inr (.inl M_chartWord))), ((aM 14), .inl (cI, 2, .inl M_chartSize)), ((aM 15), .inl (cI, 100860, .inl M_withOperator)), ((aM 16), .inl (cI, 205082, .inl M_inHole)), ((aM 18), .inl (cJ, 12600, .inr (.inl M_ways)))]) (va_runV (As := []) (rest := []) C0.1 (c_X9_findWords l dC dI cI cJ cB cZ aM H.size M_nodes M_operators M_textSize M_wordCount M_isParsed M_isTaken M_items M_piled M_outSize M_told M_standing M_text M_word r_10 hc_11) (cwV 0 hts gX9_parse_X9_findWords rfl rfl rfl (by decide +kernel) ⟨Nat.le_of_ble_eq_true rfl, Nat.le_of_ble_eq_true rfl⟩) (cP_V (ci := 9) (q0 := 0) hK hN hP hD rfl rfl [0, 7, 8] (by decide) rfl) rfl rfl hl.1 rfl (lv_room (Nat.le_of_ble_eq_true rfl)) dX9_parse_1 ⟨Nat.le_of_ble_eq_true rfl, Nat.le_of_ble_eq_true rfl⟩) hP hD hS hA [0, 7, 8] [1, 2, 3, 4, 5, 6, 9, 10, 11, 12, 13] rfl rfl (by decide) (by decide) (fun H locs hP hD hS => ?_)
  have hP : va_P (dC, dI) vwCl [((aM 2), .inl (cZ, 256, .inl M_isTighter)), ((aM 4), .inl (cJ, 270, .inr (.inl M_elements))), ((aM 5), .inl (cI, 30, .inl M_elementCount)), ((aM 6), .inl (cI, 30, .inl M_nodeOf)), ((aM 7), .inl (cI, 30, .inl M_wayOf)), ((aM 8), .inl (cI, 61, .inl M_takes)), ((aM 13), .inl (cJ, 80, .inr (.inl M_chartWord))), ((aM 14), .inl (cI, 2, .inl M_chartSize)), ((aM 15), .inl (cI, 100860, .inl M_withOperator)), ((aM 16), .inl (cI, 205082, .inl M_inHole)), ((aM 18), .inl (cJ, 12600, .inr (.inl M_ways))), ((aM 0), .inr (9, oX9 aM M_nodes M_operators M_textSize r_10.2.2 M_isParsed M_isTaken M_items M_piled M_outSize M_told M_standing)), ((aM 9), .inl (cI, 1500, .inl M_text)), ((aM 11), .inl (cJ, 760, .inr (.inl r_10.2.1)))] H := hP
  have hD : va_D A [((aM 2), .inl (cZ, 256, .inl M_isTighter)), ((aM 4), .inl (cJ, 270, .inr (.inl M_elements))), ((aM 5), .inl (cI, 30, .inl M_elementCount)), ((aM 6), .inl (cI, 30, .inl M_nodeOf)), ((aM 7), .inl (cI, 30, .inl M_wayOf)), ((aM 8), .inl (cI, 61, .inl M_takes)), ((aM 13), .inl (cJ, 80, .inr (.inl M_chartWord))), ((aM 14), .inl (cI, 2, .inl M_chartSize)), ((aM 15), .inl (cI, 100860, .inl M_withOperator)), ((aM 16), .inl (cI, 205082, .inl M_inHole)), ((aM 18), .inl (cJ, 12600, .inr (.inl M_ways))), ((aM 0), .inr (9, oX9 aM M_nodes M_operators M_textSize r_10.2.2 M_isParsed M_isTaken M_items M_piled M_outSize M_told M_standing)), ((aM 9), .inl (cI, 1500, .inl M_text)), ((aM 11), .inl (cJ, 760, .inr (.inl r_10.2.1)))] := hD
  refine lv_if_ne (tgt := 10) hx hb dX9_parse_4 (by decide) (fun c_12 => ?_) (fun c_12 => ?_)
  · have hm := if_some' c_12 hm
    refine lv_aload_n hx hb dX9_parse_10 rfl (lv_at hl 0 rfl) ?_
    refine va_get (D := (dC, dI)) (ci := 9) (v := .int r_10.2.2) (C := RX9) (T := TX9) (N := 53) hx hb hts X9_parse_inX9 hown hK hP 11 rfl rfl 11 (by decide) (hts (.fieldLink RX9 145 "MixfixDeskModel" "wordCount" "I") (List.mem_of_getElem? (i := 1) rfl)) (fun _ h9 => h9) rfl dX9_parse_11 ?_
    refine lv_bipush (v := 40) hx hb dX9_parse_14 (by decide) ?_
    refine lv_icmp_le (tgt := 22) hx hb dX9_parse_16 (by decide) (fun c_13 => ?_) (fun c_13 => ?_)
    · have hm := it_some c_13 hm
      refine lv_aload_n hx hb dX9_parse_22 rfl (lv_at hl 0 rfl) ?_
      refine va_get (D := (dC, dI)) (ci := 9) (v := .int r_10.2.2) (C := RX9) (T := TX9) (N := 53) hx hb hts X9_parse_inX9 hown hK hP 11 rfl rfl 11 (by decide) (hts (.fieldLink RX9 145 "MixfixDeskModel" "wordCount" "I") (List.mem_of_getElem? (i := 1) rfl)) (fun _ h9 => h9) rfl dX9_parse_23 ?_
      refine lv_if_ne (tgt := 32) hx hb dX9_parse_26 (by decide) (fun c_14 => ?_) (fun c_14 => ?_)
      · have hm := if_some' c_14 hm
        refine lv_iconst (v := 0) hx hb dX9_parse_32 (by decide) ?_
        refine lv_istore_n (lv' := [(1, .int 0), (0, .ref (aM 0))]) hx hb dX9_parse_33 rfl hl (by decide) rfl (fun ls hl => ?_)
        exact k_X9_parse_34 C0 hK hN hA aM M_nodes M_operators M_textSize M_items M_piled M_outSize M_told M_standing M_isTighter M_elements M_elementCount M_nodeOf M_wayOf M_text res RET FU M_takes r_10.2.1 r_10.2.2 M_chartWord M_chartSize M_withOperator M_inHole M_isParsed M_ways M_isTaken 0 hm H locs (P_sub' hP [11, 0, 1, 2, 3, 4, 5, 12, 13, 6, 7, 8, 9, 10] rfl) (hD.sub [11, 0, 1, 2, 3, 4, 5, 12, 13, 6, 7, 8, 9, 10] (by decide) rfl) hS ls (lv_sub hl [1, 0] rfl)
      · have hm := it_some c_14 hm
        refine lv_bipush (v := (-2)) hx hb dX9_parse_29 (by decide) ?_
        exact RET (-2) M_takes r_10.2.1 r_10.2.2 M_chartWord M_chartSize M_withOperator M_inHole M_isParsed M_ways M_isTaken hm _ H locs ls dX9_parse_31 (P_sub' hP [11, 0, 1, 2, 3, 4, 5, 12, 13, 6, 7, 8, 9, 10] rfl) (hD.sub [11, 0, 1, 2, 3, 4, 5, 12, 13, 6, 7, 8, 9, 10] (by decide) rfl) hS
    · have hm := if_some' c_13 hm
      refine lv_bipush (v := (-4)) hx hb dX9_parse_19 (by decide) ?_
      exact RET (-4) M_takes r_10.2.1 r_10.2.2 M_chartWord M_chartSize M_withOperator M_inHole M_isParsed M_ways M_isTaken hm _ H locs ls dX9_parse_21 (P_sub' hP [11, 0, 1, 2, 3, 4, 5, 12, 13, 6, 7, 8, 9, 10] rfl) (hD.sub [11, 0, 1, 2, 3, 4, 5, 12, 13, 6, 7, 8, 9, 10] (by decide) rfl) hS
  · have hm := it_some c_12 hm
    refine lv_bipush (v := (-5)) hx hb dX9_parse_7 (by decide) ?_
    exact RET (-5) M_takes r_10.2.1 r_10.2.2 M_chartWord M_chartSize M_withOperator M_inHole M_isParsed M_ways M_isTaken hm _ H locs ls dX9_parse_9 (P_sub' hP [11, 0, 1, 2, 3, 4, 5, 12, 13, 6, 7, 8, 9, 10] rfl) (hD.sub [11, 0, 1, 2, 3, 4, 5, 12, 13, 6, 7, 8, 9, 10] (by decide) rfl) hS
set_option maxHeartbeats 4000000 in
set_option maxRecDepth 100000 in
theorem c_X9_parse (l : Launch) (dC : Nat → ClassId) (dI : Nat → Nat → Nat) (cI cJ cB cZ : ClassId) (aM : Nat → Nat) (sz : Nat) (M_nodes : Int32) (M_operators : Int32) (M_textSize : Int32) (M_wordCount : Int32) (M_isParsed : Int32) (M_isTaken : Int32) (M_items : Int32) (M_piled : Int32) (M_outSize : Int32) (M_told : Int32) (M_standing : Int32) (M_isTighter : Nat → Int32) (M_elements : Nat → Int64) (M_elementCount : Nat → Int32) (M_nodeOf : Nat → Int32) (M_wayOf : Nat → Int32) (M_takes : Nat → Int32) (M_text : Nat → Int32) (M_word : Nat → Int64) (M_chartWord : Nat → Int64) (M_chartSize : Nat → Int32) (M_withOperator : Nat → Int32) (M_inHole : Nat → Int32) (M_ways : Nat → Int64) (res : Int32 × (Nat → Int32) × (Nat → Int64) × Int32 × (Nat → Int64) × (Nat → Int32) × (Nat → Int32) × (Nat → Int32) × Int32 × (Nat → Int64) × Int32) (hm : m_X9_parse M_isTighter M_operators M_elements M_elementCount M_nodeOf M_wayOf M_takes M_text M_textSize M_word M_wordCount M_chartWord M_chartSize M_withOperator M_inHole M_isParsed M_ways M_isTaken = some res) : Met l yX9_parse wsX9_parse rm_X9_parse (cP (dC, dI) vwCl [(cI, .int), (cJ, .long), (cB, .byte), (cZ, .boolean)] [.ref (aM 0)] [((aM 0), .inr (9, oX9 aM M_nodes M_operators M_textSize M_wordCount M_isParsed M_isTaken M_items M_piled M_outSize M_told M_standing)), ((aM 2), .inl (cZ, 256, .inl M_isTighter)), ((aM 4), .inl (cJ, 270, .inr (.inl M_elements))), ((aM 5), .inl (cI, 30, .inl M_elementCount)), ((aM 6), .inl (cI, 30, .inl M_nodeOf)), ((aM 7), .inl (cI, 30, .inl M_wayOf)), ((aM 8), .inl (cI, 61, .inl M_takes)), ((aM 9), .inl (cI, 1500, .inl M_text)), ((aM 11), .inl (cJ, 760, .inr (.inl M_word))), ((aM 13), .inl (cJ, 80, .inr (.inl M_chartWord))), ((aM 14), .inl (cI, 2, .inl M_chartSize)), ((aM 15), .inl (cI, 100860, .inl M_withOperator)), ((aM 16), .inl (cI, 205082, .inl M_inHole)), ((aM 18), .inl (cJ, 12600, .inr (.inl M_ways)))] sz) (cQi res.1 (dC, dI) vwCl [((aM 0), .inr (9, oX9 aM M_nodes M_operators M_textSize res.2.2.2.1 res.2.2.2.2.2.2.2.2.1 res.2.2.2.2.2.2.2.2.2.2 M_items M_piled M_outSize M_told M_standing)), ((aM 2), .inl (cZ, 256, .inl M_isTighter)), ((aM 4), .inl (cJ, 270, .inr (.inl M_elements))), ((aM 5), .inl (cI, 30, .inl M_elementCount)), ((aM 6), .inl (cI, 30, .inl M_nodeOf)), ((aM 7), .inl (cI, 30, .inl M_wayOf)), ((aM 8), .inl (cI, 61, .inl res.2.1)), ((aM 9), .inl (cI, 1500, .inl M_text)), ((aM 11), .inl (cJ, 760, .inr (.inl res.2.2.1))), ((aM 13), .inl (cJ, 80, .inr (.inl res.2.2.2.2.1))), ((aM 14), .inl (cI, 2, .inl res.2.2.2.2.2.1)), ((aM 15), .inl (cI, 100860, .inl res.2.2.2.2.2.2.1)), ((aM 16), .inl (cI, 205082, .inl res.2.2.2.2.2.2.2.1)), ((aM 18), .inl (cJ, 12600, .inr (.inl res.2.2.2.2.2.2.2.2.2.1)))] [((aM 0), .inr (9, oX9 aM M_nodes M_operators M_textSize M_wordCount M_isParsed M_isTaken M_items M_piled M_outSize M_told M_standing)), ((aM 2), .inl (cZ, 256, .inl M_isTighter)), ((aM 4), .inl (cJ, 270, .inr (.inl M_elements))), ((aM 5), .inl (cI, 30, .inl M_elementCount)), ((aM 6), .inl (cI, 30, .inl M_nodeOf)), ((aM 7), .inl (cI, 30, .inl M_wayOf)), ((aM 8), .inl (cI, 61, .inl M_takes)), ((aM 9), .inl (cI, 1500, .inl M_text)), ((aM 11), .inl (cJ, 760, .inr (.inl M_word))), ((aM 13), .inl (cJ, 80, .inr (.inl M_chartWord))), ((aM 14), .inl (cI, 2, .inl M_chartSize)), ((aM 15), .inl (cI, 100860, .inl M_withOperator)), ((aM 16), .inl (cI, 205082, .inl M_inHole)), ((aM 18), .inl (cJ, 12600, .inr (.inl M_ways)))] sz) 0 0 (va_A [((aM 0), .inr (9, oX9 aM M_nodes M_operators M_textSize M_wordCount M_isParsed M_isTaken M_items M_piled M_outSize M_told M_standing)), ((aM 2), .inl (cZ, 256, .inl M_isTighter)), ((aM 4), .inl (cJ, 270, .inr (.inl M_elements))), ((aM 5), .inl (cI, 30, .inl M_elementCount)), ((aM 6), .inl (cI, 30, .inl M_nodeOf)), ((aM 7), .inl (cI, 30, .inl M_wayOf)), ((aM 8), .inl (cI, 61, .inl M_takes)), ((aM 9), .inl (cI, 1500, .inl M_text)), ((aM 11), .inl (cJ, 760, .inr (.inl M_word))), ((aM 13), .inl (cJ, 80, .inr (.inl M_chartWord))), ((aM 14), .inl (cI, 2, .inl M_chartSize)), ((aM 15), .inl (cI, 100860, .inl M_withOperator)), ((aM 16), .inl (cI, 205082, .inl M_inHole)), ((aM 18), .inl (cJ, 12600, .inr (.inl M_ways)))] sz) := by
  refine cx_of (cc := cX9_parse) (maxL := 2) (ret := (some .int)) (own := RX9) (by decide) rfl rfl (Nat.le_of_ble_eq_true rfl) ?_
  intro p e s m below meth c A C0 hinN hK hN hsz hAe hA hP hD hS ls hl
  refine k_X9_parse_E C0 hK hN hA aM M_nodes M_operators M_textSize M_items M_piled M_outSize M_told M_standing M_isTighter M_elements M_elementCount M_nodeOf M_wayOf M_text res ?_ M_takes M_word M_wordCount M_chartWord M_chartSize M_withOperator M_inHole M_isParsed M_ways M_isTaken hm _ _ hP hD hS ls hl
  intro v M_takes M_word M_wordCount M_chartWord M_chartSize M_withOperator M_inHole M_isParsed M_ways M_isTaken he pc H locs ls hdg hP hD hS
  have he := Option.some.inj he
  subst he
  exact cx_reti C0 hsz hAe hdg hP hD hS

