theorem dX9_isLike_0 : decode cX9_isLike 0 = .ok (.aload_n 0, 1) := by decide +kernel
theorem dX9_isLike_1 : decode cX9_isLike 1 = .ok (.getfield 17, 3) := by decide +kernel
theorem dX9_isLike_4 : decode cX9_isLike 4 = .ok (.iload_n 1, 1) := by decide +kernel
theorem dX9_isLike_5 : decode cX9_isLike 5 = .ok (.iaload, 1) := by decide +kernel
theorem dX9_isLike_6 : decode cX9_isLike 6 = .ok (.aload_n 0, 1) := by decide +kernel
theorem dX9_isLike_7 : decode cX9_isLike 7 = .ok (.getfield 145, 3) := by decide +kernel
theorem dX9_isLike_10 : decode cX9_isLike 10 = .ok (.if_icmp .ne 7, 3) := by decide +kernel
theorem dX9_isLike_13 : decode cX9_isLike 13 = .ok (.iconst 1, 1) := by decide +kernel
theorem dX9_isLike_14 : decode cX9_isLike 14 = .ok (.goto 4, 3) := by decide +kernel
theorem dX9_isLike_17 : decode cX9_isLike 17 = .ok (.iconst 0, 1) := by decide +kernel
theorem dX9_isLike_18 : decode cX9_isLike 18 = .ok (.istore_n 2, 1) := by decide +kernel
theorem dX9_isLike_19 : decode cX9_isLike 19 = .ok (.iconst 0, 1) := by decide +kernel
theorem dX9_isLike_20 : decode cX9_isLike 20 = .ok (.istore_n 3, 1) := by decide +kernel
theorem dX9_isLike_21 : decode cX9_isLike 21 = .ok (.iload_n 3, 1) := by decide +kernel
theorem dX9_isLike_22 : decode cX9_isLike 22 = .ok (.aload_n 0, 1) := by decide +kernel
theorem dX9_isLike_23 : decode cX9_isLike 23 = .ok (.getfield 145, 3) := by decide +kernel
theorem dX9_isLike_26 : decode cX9_isLike 26 = .ok (.if_icmp .ge 40, 3) := by decide +kernel
theorem dX9_isLike_29 : decode cX9_isLike 29 = .ok (.iload_n 2, 1) := by decide +kernel
theorem dX9_isLike_30 : decode cX9_isLike 30 = .ok (.ifCond .eq 36, 3) := by decide +kernel
theorem dX9_isLike_33 : decode cX9_isLike 33 = .ok (.aload_n 0, 1) := by decide +kernel
theorem dX9_isLike_34 : decode cX9_isLike 34 = .ok (.getfield 13, 3) := by decide +kernel
theorem dX9_isLike_37 : decode cX9_isLike 37 = .ok (.bipush 9, 2) := by decide +kernel
theorem dX9_isLike_39 : decode cX9_isLike 39 = .ok (.iload_n 1, 1) := by decide +kernel
theorem dX9_isLike_40 : decode cX9_isLike 40 = .ok (.imul, 1) := by decide +kernel
theorem dX9_isLike_41 : decode cX9_isLike 41 = .ok (.iload_n 3, 1) := by decide +kernel
theorem dX9_isLike_42 : decode cX9_isLike 42 = .ok (.iadd, 1) := by decide +kernel
theorem dX9_isLike_43 : decode cX9_isLike 43 = .ok (.laload, 1) := by decide +kernel
theorem dX9_isLike_44 : decode cX9_isLike 44 = .ok (.aload_n 0, 1) := by decide +kernel
theorem dX9_isLike_45 : decode cX9_isLike 45 = .ok (.getfield 33, 3) := by decide +kernel
theorem dX9_isLike_48 : decode cX9_isLike 48 = .ok (.iload_n 3, 1) := by decide +kernel
theorem dX9_isLike_49 : decode cX9_isLike 49 = .ok (.laload, 1) := by decide +kernel
theorem dX9_isLike_50 : decode cX9_isLike 50 = .ok (.lcmp, 1) := by decide +kernel
theorem dX9_isLike_51 : decode cX9_isLike 51 = .ok (.ifCond .ne 7, 3) := by decide +kernel
theorem dX9_isLike_54 : decode cX9_isLike 54 = .ok (.iconst 1, 1) := by decide +kernel
theorem dX9_isLike_55 : decode cX9_isLike 55 = .ok (.goto 4, 3) := by decide +kernel
theorem dX9_isLike_58 : decode cX9_isLike 58 = .ok (.iconst 0, 1) := by decide +kernel
theorem dX9_isLike_59 : decode cX9_isLike 59 = .ok (.istore_n 2, 1) := by decide +kernel
theorem dX9_isLike_60 : decode cX9_isLike 60 = .ok (.iinc 3 1, 3) := by decide +kernel
theorem dX9_isLike_63 : decode cX9_isLike 63 = .ok (.goto (-42), 3) := by decide +kernel
theorem dX9_isLike_66 : decode cX9_isLike 66 = .ok (.iload_n 2, 1) := by decide +kernel
theorem dX9_isLike_67 : decode cX9_isLike 67 = .ok (.ireturn, 1) := by decide +kernel
/-! MixfixDeskModel.isLike(I)Z -/
abbrev rm_X9_isLike : Room := { frames := 0, cells := 0, slots := 0, locals := 0 }
theorem X9_isLike_inX9 : ∀ w ∈ wsX90, w ∈ wsX9_isLike := by exact fun w h => List.mem_cons_of_mem _ (List.mem_append_right _ h)
abbrev RT_X9_isLike (p : Program) (l : Launch) (e : Env) (s : State) (m : MethodId) (args : Array Value) (below : List Frame) (meth : Method) (c : Code) (Q : State → Prop) (dC : Nat → ClassId) (dI : Nat → Nat → Nat) (cI cJ cB cZ : ClassId) (A : Nat → Prop) (aM : Nat → Nat) (M_nodes : Int32) (M_operators : Int32) (M_textSize : Int32) (M_wordCount : Int32) (M_isParsed : Int32) (M_isTaken : Int32) (M_items : Int32) (M_piled : Int32) (M_outSize : Int32) (M_told : Int32) (M_standing : Int32) (M_elements : Nat → Int64) (M_elementCount : Nat → Int32) (M_word : Nat → Int64) (res : Int32) : Prop := ∀ (v : Int32) , some v = some res → narrow .boolean (.int v) = .int v → ∀ (pc : Nat) (H : Heap) (locs : List Loc) (ls : Array Slot), decode cX9_isLike pc = .ok (.ireturn, 1) → va_P (dC, dI) vwCl [((aM 0), .inr (9, oX9 aM M_nodes M_operators M_textSize M_wordCount M_isParsed M_isTaken M_items M_piled M_outSize M_told M_standing)), ((aM 4), .inl (cJ, 270, .inr (.inl M_elements))), ((aM 5), .inl (cI, 30, .inl M_elementCount)), ((aM 11), .inl (cJ, 760, .inr (.inl M_word)))] H → va_D A [((aM 0), .inr (9, oX9 aM M_nodes M_operators M_textSize M_wordCount M_isParsed M_isTaken M_items M_piled M_outSize M_told M_standing)), ((aM 4), .inl (cJ, 270, .inr (.inl M_elements))), ((aM 5), .inl (cI, 30, .inl M_elementCount)), ((aM 11), .inl (cJ, 760, .inr (.inl M_word)))] → va_S A s.heap H locs → W p l e rm_X9_isLike s m args below meth c H locs 0 0 Q (F0 m pc ls [.int v])
set_option maxHeartbeats 4000000 in
set_option maxRecDepth 100000 in
theorem k_X9_isLike_59 {p : Program} {l : Launch} {e : Env} {s : State} {m : MethodId} {args : Array Value} {below : List Frame} {meth : Method} {c : Code} {Q : State → Prop} {dC : Nat → ClassId} {dI : Nat → Nat → Nat} {cI cJ cB cZ : ClassId} {A : Nat → Prop} (C0 : Cx p s m meth c args cX9_isLike 4 (some .boolean) wsX9_isLike RX9) (hK : va_K (dC, dI) vwCl [(cI, .int), (cJ, .long), (cB, .byte), (cZ, .boolean)] s) (hN : NW s) (hA : ∀ q, s.heap.size ≤ q → A q) (aM : Nat → Nat) (M_nodes : Int32) (M_operators : Int32) (M_textSize : Int32) (M_wordCount : Int32) (M_isParsed : Int32) (M_isTaken : Int32) (M_items : Int32) (M_piled : Int32) (M_outSize : Int32) (M_told : Int32) (M_standing : Int32) (M_elements : Nat → Int64) (M_elementCount : Nat → Int32) (M_word : Nat → Int64) (res : Int32) (RET : RT_X9_isLike p l e s m args below meth c Q dC dI cI cJ cB cZ A aM M_nodes M_operators M_textSize M_wordCount M_isParsed M_isTaken M_items M_piled M_outSize M_told M_standing M_elements M_elementCount M_word res) (k21 : Int32 → Int32 → Int32 → Option (Int32)) (hk21 : ∀ (x1 : Int32) (x2 : Int32) (x3 : Int32), k21 x1 x2 x3 = some res → ∀ (H : Heap) (locs : List Loc), va_P (dC, dI) vwCl [((aM 0), .inr (9, oX9 aM M_nodes M_operators M_textSize M_wordCount M_isParsed M_isTaken M_items M_piled M_outSize M_told M_standing)), ((aM 4), .inl (cJ, 270, .inr (.inl M_elements))), ((aM 5), .inl (cI, 30, .inl M_elementCount)), ((aM 11), .inl (cJ, 760, .inr (.inl M_word)))] H → va_D A [((aM 0), .inr (9, oX9 aM M_nodes M_operators M_textSize M_wordCount M_isParsed M_isTaken M_items M_piled M_outSize M_told M_standing)), ((aM 4), .inl (cJ, 270, .inr (.inl M_elements))), ((aM 5), .inl (cI, 30, .inl M_elementCount)), ((aM 11), .inl (cJ, 760, .inr (.inl M_word)))] → va_S A s.heap H locs → ∀ (ls : Array Slot), lv_has ls 4 [(0, .ref (aM 0)), (1, .int x1), (2, .int x2), (3, .int x3)] → W p l e rm_X9_isLike s m args below meth c H locs 0 0 Q (F0 m 21 ls [])) : ∀ (x1 : Int32) (x3 : Int32) (y0 : Int32), m_X9_isLike_59 M_wordCount M_elements M_elementCount M_word k21 x1 x3 y0 = some res → ∀ (H : Heap) (locs : List Loc), va_P (dC, dI) vwCl [((aM 0), .inr (9, oX9 aM M_nodes M_operators M_textSize M_wordCount M_isParsed M_isTaken M_items M_piled M_outSize M_told M_standing)), ((aM 4), .inl (cJ, 270, .inr (.inl M_elements))), ((aM 5), .inl (cI, 30, .inl M_elementCount)), ((aM 11), .inl (cJ, 760, .inr (.inl M_word)))] H → va_D A [((aM 0), .inr (9, oX9 aM M_nodes M_operators M_textSize M_wordCount M_isParsed M_isTaken M_items M_piled M_outSize M_told M_standing)), ((aM 4), .inl (cJ, 270, .inr (.inl M_elements))), ((aM 5), .inl (cI, 30, .inl M_elementCount)), ((aM 11), .inl (cJ, 760, .inr (.inl M_word)))] → va_S A s.heap H locs → ∀ (ls : Array Slot), lv_has ls 4 [(0, .ref (aM 0)), (1, .int x1), (3, .int x3)] → W p l e rm_X9_isLike s m args below meth c H locs 0 0 Q (F0 m 59 ls [.int y0]) := by
  obtain ⟨⟨hx, hb, hml, hown, hts⟩, hr, hlocks⟩ := id C0
  intro x1 x3 y0 hm H locs hP hD hS ls hl
  have hm : (k21 x1 y0 (x3 + 1)) = some res := hm
  refine lv_istore_n (lv' := [(2, .int y0), (0, .ref (aM 0)), (1, .int x1), (3, .int x3)]) hx hb dX9_isLike_59 rfl hl (by decide) rfl (fun ls hl => ?_)
  refine lv_iinc (v := x3 + 1) (lv' := [(3, .int (x3 + 1)), (2, .int y0), (0, .ref (aM 0)), (1, .int x1)]) hx hb dX9_isLike_60 hl (k := 3) rfl rfl (by decide) rfl (fun ls hl => ?_)
  refine lv_goto (tgt := 21) hx hb dX9_isLike_63 (by decide) ?_
  exact hk21 x1 y0 (x3 + 1) hm H locs hP hD hS ls (lv_sub hl [2, 3, 1, 0] rfl)
set_option maxHeartbeats 4000000 in
set_option maxRecDepth 100000 in
theorem k_X9_isLike_21 {p : Program} {l : Launch} {e : Env} {s : State} {m : MethodId} {args : Array Value} {below : List Frame} {meth : Method} {c : Code} {Q : State → Prop} {dC : Nat → ClassId} {dI : Nat → Nat → Nat} {cI cJ cB cZ : ClassId} {A : Nat → Prop} (C0 : Cx p s m meth c args cX9_isLike 4 (some .boolean) wsX9_isLike RX9) (hK : va_K (dC, dI) vwCl [(cI, .int), (cJ, .long), (cB, .byte), (cZ, .boolean)] s) (hN : NW s) (hA : ∀ q, s.heap.size ≤ q → A q) (aM : Nat → Nat) (M_nodes : Int32) (M_operators : Int32) (M_textSize : Int32) (M_wordCount : Int32) (M_isParsed : Int32) (M_isTaken : Int32) (M_items : Int32) (M_piled : Int32) (M_outSize : Int32) (M_told : Int32) (M_standing : Int32) (M_elements : Nat → Int64) (M_elementCount : Nat → Int32) (M_word : Nat → Int64) (res : Int32) (RET : RT_X9_isLike p l e s m args below meth c Q dC dI cI cJ cB cZ A aM M_nodes M_operators M_textSize M_wordCount M_isParsed M_isTaken M_items M_piled M_outSize M_told M_standing M_elements M_elementCount M_word res)   : ∀ (n : Nat) (x1 : Int32) (x2 : Int32) (x3 : Int32), m_X9_isLike_21 M_wordCount M_elements M_elementCount M_word n x1 x2 x3 = some res → ∀ (H : Heap) (locs : List Loc), va_P (dC, dI) vwCl [((aM 0), .inr (9, oX9 aM M_nodes M_operators M_textSize M_wordCount M_isParsed M_isTaken M_items M_piled M_outSize M_told M_standing)), ((aM 4), .inl (cJ, 270, .inr (.inl M_elements))), ((aM 5), .inl (cI, 30, .inl M_elementCount)), ((aM 11), .inl (cJ, 760, .inr (.inl M_word)))] H → va_D A [((aM 0), .inr (9, oX9 aM M_nodes M_operators M_textSize M_wordCount M_isParsed M_isTaken M_items M_piled M_outSize M_told M_standing)), ((aM 4), .inl (cJ, 270, .inr (.inl M_elements))), ((aM 5), .inl (cI, 30, .inl M_elementCount)), ((aM 11), .inl (cJ, 760, .inr (.inl M_word)))] → va_S A s.heap H locs → ∀ (ls : Array Slot), lv_has ls 4 [(0, .ref (aM 0)), (1, .int x1), (2, .int x2), (3, .int x3)] → W p l e rm_X9_isLike s m args below meth c H locs 0 0 Q (F0 m 21 ls []) := by
  obtain ⟨⟨hx, hb, hml, hown, hts⟩, hr, hlocks⟩ := id C0
  intro n
  induction n with
  | zero =>
    intro x1 x2 x3 hm
    exact absurd hm (by intro h; cases h)
  | succ n ih =>
    intro x1 x2 x3 hm H locs hP hD hS ls hl
    have hm : (if M_wordCount ≤ x3 then (gb x2 (some x2)) else (if x2 = 0 then (gb x2 (some x2)) else (gd ((9 * x1) + x3) 270 (gd x3 760 (if (lg_cmp (M_elements ((9 * x1) + x3).toNatClampNeg) (M_word x3.toNatClampNeg)) = 0 then (m_X9_isLike_59 M_wordCount M_elements M_elementCount M_word (m_X9_isLike_21 M_wordCount M_elements M_elementCount M_word n) x1 x3 1) else (m_X9_isLike_59 M_wordCount M_elements M_elementCount M_word (m_X9_isLike_21 M_wordCount M_elements M_elementCount M_word n) x1 x3 0)))))) = some res := hm
    refine lv_iload_n hx hb dX9_isLike_21 rfl (lv_at hl 3 rfl) ?_
    refine lv_aload_n hx hb dX9_isLike_22 rfl (lv_at hl 0 rfl) ?_
    refine va_get (D := (dC, dI)) (ci := 9) (v := .int M_wordCount) (C := RX9) (T := TX9) (N := 53) hx hb hts X9_isLike_inX9 hown hK hP 0 rfl rfl 11 (by decide) (hts (.fieldLink RX9 145 "MixfixDeskModel" "wordCount" "I") (List.mem_of_getElem? (i := 2) rfl)) (fun _ h9 => h9) rfl dX9_isLike_23 ?_
    refine lv_icmp_ge (tgt := 66) hx hb dX9_isLike_26 (by decide) (fun c_1 => ?_) (fun c_1 => ?_)
    · have hm := it_some c_1 hm
      refine lv_iload_n hx hb dX9_isLike_66 rfl (lv_at hl 2 rfl) ?_
      obtain ⟨hg_2, hm⟩ := gb_some hm
      exact RET x2 hm hg_2 _ H locs ls dX9_isLike_67 hP hD hS
    · have hm := if_some' c_1 hm
      refine lv_iload_n hx hb dX9_isLike_29 rfl (lv_at hl 2 rfl) ?_
      refine lv_if_eq (tgt := 66) hx hb dX9_isLike_30 (by decide) (fun c_3 => ?_) (fun c_3 => ?_)
      · have hm := it_some c_3 hm
        refine lv_iload_n hx hb dX9_isLike_66 rfl (lv_at hl 2 rfl) ?_
        obtain ⟨hg_4, hm⟩ := gb_some hm
        exact RET x2 hm hg_4 _ H locs ls dX9_isLike_67 hP hD hS
      · have hm := if_some' c_3 hm
        refine lv_aload_n hx hb dX9_isLike_33 rfl (lv_at hl 0 rfl) ?_
        refine va_get (D := (dC, dI)) (ci := 9) (v := .ref (aM 4)) (C := RX9) (T := TX9) (N := 53) hx hb hts X9_isLike_inX9 hown hK hP 0 rfl rfl 3 (by decide) (hts (.fieldLink RX9 13 "MixfixDeskModel" "elements" "[J") (List.mem_of_getElem? (i := 3) rfl)) (fun _ h9 => h9) rfl dX9_isLike_34 ?_
        refine lv_bipush (v := 9) hx hb dX9_isLike_37 (by decide) ?_
        refine lv_iload_n hx hb dX9_isLike_39 rfl (lv_at hl 1 rfl) ?_
        refine lv_imul hx hb dX9_isLike_40 ?_
        refine lv_iload_n hx hb dX9_isLike_41 rfl (lv_at hl 3 rfl) ?_
        refine lv_iadd hx hb dX9_isLike_42 ?_
        obtain ⟨hi_5, hm⟩ := gd_some hm
        refine va_lald (D := (dC, dI)) hx hb hK hP 1 1 rfl rfl hi_5 dX9_isLike_43 ?_
        refine lv_aload_n hx hb dX9_isLike_44 rfl (lv_at hl 0 rfl) ?_
        refine va_get (D := (dC, dI)) (ci := 9) (v := .ref (aM 11)) (C := RX9) (T := TX9) (N := 53) hx hb hts X9_isLike_inX9 hown hK hP 0 rfl rfl 10 (by decide) (hts (.fieldLink RX9 33 "MixfixDeskModel" "word" "[J") (List.mem_of_getElem? (i := 4) rfl)) (fun _ h9 => h9) rfl dX9_isLike_45 ?_
        refine lv_iload_n hx hb dX9_isLike_48 rfl (lv_at hl 3 rfl) ?_
        obtain ⟨hi_6, hm⟩ := gd_some hm
        refine va_lald (D := (dC, dI)) hx hb hK hP 3 1 rfl rfl hi_6 dX9_isLike_49 ?_
        refine W.lcmp hx hb dX9_isLike_50 ?_
        refine lv_if_ne (tgt := 58) hx hb dX9_isLike_51 (by decide) (fun c_7 => ?_) (fun c_7 => ?_)
        · have hm := if_some' c_7 hm
          refine lv_iconst (v := 0) hx hb dX9_isLike_58 (by decide) ?_
          exact k_X9_isLike_59 C0 hK hN hA aM M_nodes M_operators M_textSize M_wordCount M_isParsed M_isTaken M_items M_piled M_outSize M_told M_standing M_elements M_elementCount M_word res RET (m_X9_isLike_21 M_wordCount M_elements M_elementCount M_word n) ih x1 x3 0 hm H locs hP hD hS ls (lv_sub hl [0, 1, 3] rfl)
        · have hm := it_some c_7 hm
          refine lv_iconst (v := 1) hx hb dX9_isLike_54 (by decide) ?_
          refine lv_goto (tgt := 59) hx hb dX9_isLike_55 (by decide) ?_
          exact k_X9_isLike_59 C0 hK hN hA aM M_nodes M_operators M_textSize M_wordCount M_isParsed M_isTaken M_items M_piled M_outSize M_told M_standing M_elements M_elementCount M_word res RET (m_X9_isLike_21 M_wordCount M_elements M_elementCount M_word n) ih x1 x3 1 hm H locs hP hD hS ls (lv_sub hl [0, 1, 3] rfl)
set_option maxHeartbeats 4000000 in
set_option maxRecDepth 100000 in
theorem k_X9_isLike_18 {p : Program} {l : Launch} {e : Env} {s : State} {m : MethodId} {args : Array Value} {below : List Frame} {meth : Method} {c : Code} {Q : State → Prop} {dC : Nat → ClassId} {dI : Nat → Nat → Nat} {cI cJ cB cZ : ClassId} {A : Nat → Prop} (C0 : Cx p s m meth c args cX9_isLike 4 (some .boolean) wsX9_isLike RX9) (hK : va_K (dC, dI) vwCl [(cI, .int), (cJ, .long), (cB, .byte), (cZ, .boolean)] s) (hN : NW s) (hA : ∀ q, s.heap.size ≤ q → A q) (aM : Nat → Nat) (M_nodes : Int32) (M_operators : Int32) (M_textSize : Int32) (M_wordCount : Int32) (M_isParsed : Int32) (M_isTaken : Int32) (M_items : Int32) (M_piled : Int32) (M_outSize : Int32) (M_told : Int32) (M_standing : Int32) (M_elements : Nat → Int64) (M_elementCount : Nat → Int32) (M_word : Nat → Int64) (res : Int32) (RET : RT_X9_isLike p l e s m args below meth c Q dC dI cI cJ cB cZ A aM M_nodes M_operators M_textSize M_wordCount M_isParsed M_isTaken M_items M_piled M_outSize M_told M_standing M_elements M_elementCount M_word res)   : ∀ (x1 : Int32) (y0 : Int32), m_X9_isLike_18 M_wordCount M_elements M_elementCount M_word x1 y0 = some res → ∀ (H : Heap) (locs : List Loc), va_P (dC, dI) vwCl [((aM 0), .inr (9, oX9 aM M_nodes M_operators M_textSize M_wordCount M_isParsed M_isTaken M_items M_piled M_outSize M_told M_standing)), ((aM 4), .inl (cJ, 270, .inr (.inl M_elements))), ((aM 5), .inl (cI, 30, .inl M_elementCount)), ((aM 11), .inl (cJ, 760, .inr (.inl M_word)))] H → va_D A [((aM 0), .inr (9, oX9 aM M_nodes M_operators M_textSize M_wordCount M_isParsed M_isTaken M_items M_piled M_outSize M_told M_standing)), ((aM 4), .inl (cJ, 270, .inr (.inl M_elements))), ((aM 5), .inl (cI, 30, .inl M_elementCount)), ((aM 11), .inl (cJ, 760, .inr (.inl M_word)))] → va_S A s.heap H locs → ∀ (ls : Array Slot), lv_has ls 4 [(0, .ref (aM 0)), (1, .int x1)] → W p l e rm_X9_isLike s m args below meth c H locs 0 0 Q (F0 m 18 ls [.int y0]) := by
  obtain ⟨⟨hx, hb, hml, hown, hts⟩, hr, hlocks⟩ := id C0
  intro x1 y0 hm H locs hP hD hS ls hl
  have hm : (m_X9_isLike_21 M_wordCount M_elements M_elementCount M_word FU x1 y0 0) = some res := hm
  refine lv_istore_n (lv' := [(2, .int y0), (0, .ref (aM 0)), (1, .int x1)]) hx hb dX9_isLike_18 rfl hl (by decide) rfl (fun ls hl => ?_)
  refine lv_iconst (v := 0) hx hb dX9_isLike_19 (by decide) ?_
  refine lv_istore_n (lv' := [(3, .int 0), (2, .int y0), (0, .ref (aM 0)), (1, .int x1)]) hx hb dX9_isLike_20 rfl hl (by decide) rfl (fun ls hl => ?_)
  exact k_X9_isLike_21 C0 hK hN hA aM M_nodes M_operators M_textSize M_wordCount M_isParsed M_isTaken M_items M_piled M_outSize M_told M_standing M_elements M_elementCount M_word res RET FU x1 y0 0 hm H locs hP hD hS ls (lv_sub hl [2, 3, 1, 0] rfl)
set_option maxHeartbeats 4000000 in
set_option maxRecDepth 100000 in
theorem k_X9_isLike_E {p : Program} {l : Launch} {e : Env} {s : State} {m : MethodId} {args : Array Value} {below : List Frame} {meth : Method} {c : Code} {Q : State → Prop} {dC : Nat → ClassId} {dI : Nat → Nat → Nat} {cI cJ cB cZ : ClassId} {A : Nat → Prop} (C0 : Cx p s m meth c args cX9_isLike 4 (some .boolean) wsX9_isLike RX9) (hK : va_K (dC, dI) vwCl [(cI, .int), (cJ, .long), (cB, .byte), (cZ, .boolean)] s) (hN : NW s) (hA : ∀ q, s.heap.size ≤ q → A q) (aM : Nat → Nat) (M_nodes : Int32) (M_operators : Int32) (M_textSize : Int32) (M_wordCount : Int32) (M_isParsed : Int32) (M_isTaken : Int32) (M_items : Int32) (M_piled : Int32) (M_outSize : Int32) (M_told : Int32) (M_standing : Int32) (M_elements : Nat → Int64) (M_elementCount : Nat → Int32) (M_word : Nat → Int64) (res : Int32) (RET : RT_X9_isLike p l e s m args below meth c Q dC dI cI cJ cB cZ A aM M_nodes M_operators M_textSize M_wordCount M_isParsed M_isTaken M_items M_piled M_outSize M_told M_standing M_elements M_elementCount M_word res) : ∀ (p0 : Int32), m_X9_isLike M_elements M_elementCount M_word M_wordCount p0 = some res → ∀ (H : Heap) (locs : List Loc), va_P (dC, dI) vwCl [((aM 0), .inr (9, oX9 aM M_nodes M_operators M_textSize M_wordCount M_isParsed M_isTaken M_items M_piled M_outSize M_told M_standing)), ((aM 4), .inl (cJ, 270, .inr (.inl M_elements))), ((aM 5), .inl (cI, 30, .inl M_elementCount)), ((aM 11), .inl (cJ, 760, .inr (.inl M_word)))] H → va_D A [((aM 0), .inr (9, oX9 aM M_nodes M_operators M_textSize M_wordCount M_isParsed M_isTaken M_items M_piled M_outSize M_told M_standing)), ((aM 4), .inl (cJ, 270, .inr (.inl M_elements))), ((aM 5), .inl (cI, 30, .inl M_elementCount)), ((aM 11), .inl (cJ, 760, .inr (.inl M_word)))] → va_S A s.heap H locs → ∀ (ls : Array Slot), lv_has ls 4 [(0, .ref (aM 0)), (1, .int p0)] → W p l e rm_X9_isLike s m args below meth c H locs 0 0 Q (F0 m 0 ls []) := by
  obtain ⟨⟨hx, hb, hml, hown, hts⟩, hr, hlocks⟩ := id C0
  intro p0 hm H locs hP hD hS ls hl
  have hm : (gd p0 30 (if (M_elementCount p0.toNatClampNeg) = M_wordCount then (m_X9_isLike_18 M_wordCount M_elements M_elementCount M_word p0 1) else (m_X9_isLike_18 M_wordCount M_elements M_elementCount M_word p0 0))) = some res := hm
  refine lv_aload_n hx hb dX9_isLike_0 rfl (lv_at hl 0 rfl) ?_
  refine va_get (D := (dC, dI)) (ci := 9) (v := .ref (aM 5)) (C := RX9) (T := TX9) (N := 53) hx hb hts X9_isLike_inX9 hown hK hP 0 rfl rfl 4 (by decide) (hts (.fieldLink RX9 17 "MixfixDeskModel" "elementCount" "[I") (List.mem_of_getElem? (i := 1) rfl)) (fun _ h9 => h9) rfl dX9_isLike_1 ?_
  refine lv_iload_n hx hb dX9_isLike_4 rfl (lv_at hl 1 rfl) ?_
  obtain ⟨hi_8, hm⟩ := gd_some hm
  refine va_iald (D := (dC, dI)) hx hb hK hP 2 0 rfl rfl hi_8 dX9_isLike_5 ?_
  refine lv_aload_n hx hb dX9_isLike_6 rfl (lv_at hl 0 rfl) ?_
  refine va_get (D := (dC, dI)) (ci := 9) (v := .int M_wordCount) (C := RX9) (T := TX9) (N := 53) hx hb hts X9_isLike_inX9 hown hK hP 0 rfl rfl 11 (by decide) (hts (.fieldLink RX9 145 "MixfixDeskModel" "wordCount" "I") (List.mem_of_getElem? (i := 2) rfl)) (fun _ h9 => h9) rfl dX9_isLike_7 ?_
  refine lv_icmp_ne (tgt := 17) hx hb dX9_isLike_10 (by decide) (fun c_9 => ?_) (fun c_9 => ?_)
  · have hm := if_some' c_9 hm
    refine lv_iconst (v := 0) hx hb dX9_isLike_17 (by decide) ?_
    exact k_X9_isLike_18 C0 hK hN hA aM M_nodes M_operators M_textSize M_wordCount M_isParsed M_isTaken M_items M_piled M_outSize M_told M_standing M_elements M_elementCount M_word res RET p0 0 hm H locs hP hD hS ls hl
  · have hm := it_some c_9 hm
    refine lv_iconst (v := 1) hx hb dX9_isLike_13 (by decide) ?_
    refine lv_goto (tgt := 18) hx hb dX9_isLike_14 (by decide) ?_
    exact k_X9_isLike_18 C0 hK hN hA aM M_nodes M_operators M_textSize M_wordCount M_isParsed M_isTaken M_items M_piled M_outSize M_told M_standing M_elements M_elementCount M_word res RET p0 1 hm H locs hP hD hS ls hl
set_option maxHeartbeats 4000000 in
set_option maxRecDepth 100000 in
theorem c_X9_isLike (l : Launch) (dC : Nat → ClassId) (dI : Nat → Nat → Nat) (cI cJ cB cZ : ClassId) (aM : Nat → Nat) (sz : Nat) (M_nodes : Int32) (M_operators : Int32) (M_textSize : Int32) (M_wordCount : Int32) (M_isParsed : Int32) (M_isTaken : Int32) (M_items : Int32) (M_piled : Int32) (M_outSize : Int32) (M_told : Int32) (M_standing : Int32) (M_elements : Nat → Int64) (M_elementCount : Nat → Int32) (M_word : Nat → Int64) (p0 : Int32) (res : Int32) (hm : m_X9_isLike M_elements M_elementCount M_word M_wordCount p0 = some res) : Met l yX9_isLike wsX9_isLike rm_X9_isLike (cP (dC, dI) vwCl [(cI, .int), (cJ, .long), (cB, .byte), (cZ, .boolean)] [.ref (aM 0), .int p0] [((aM 0), .inr (9, oX9 aM M_nodes M_operators M_textSize M_wordCount M_isParsed M_isTaken M_items M_piled M_outSize M_told M_standing)), ((aM 4), .inl (cJ, 270, .inr (.inl M_elements))), ((aM 5), .inl (cI, 30, .inl M_elementCount)), ((aM 11), .inl (cJ, 760, .inr (.inl M_word)))] sz) (cQi res (dC, dI) vwCl [((aM 0), .inr (9, oX9 aM M_nodes M_operators M_textSize M_wordCount M_isParsed M_isTaken M_items M_piled M_outSize M_told M_standing)), ((aM 4), .inl (cJ, 270, .inr (.inl M_elements))), ((aM 5), .inl (cI, 30, .inl M_elementCount)), ((aM 11), .inl (cJ, 760, .inr (.inl M_word)))] [((aM 0), .inr (9, oX9 aM M_nodes M_operators M_textSize M_wordCount M_isParsed M_isTaken M_items M_piled M_outSize M_told M_standing)), ((aM 4), .inl (cJ, 270, .inr (.inl M_elements))), ((aM 5), .inl (cI, 30, .inl M_elementCount)), ((aM 11), .inl (cJ, 760, .inr (.inl M_word)))] sz) 0 0 (va_A [((aM 0), .inr (9, oX9 aM M_nodes M_operators M_textSize M_wordCount M_isParsed M_isTaken M_items M_piled M_outSize M_told M_standing)), ((aM 4), .inl (cJ, 270, .inr (.inl M_elements))), ((aM 5), .inl (cI, 30, .inl M_elementCount)), ((aM 11), .inl (cJ, 760, .inr (.inl M_word)))] sz) := by
  refine cx_of (cc := cX9_isLike) (maxL := 4) (ret := (some .boolean)) (own := RX9) (by decide) rfl rfl (Nat.le_of_ble_eq_true rfl) ?_
  intro p e s m below meth c A C0 hinN hK hN hsz hAe hA hP hD hS ls hl
  refine k_X9_isLike_E C0 hK hN hA aM M_nodes M_operators M_textSize M_wordCount M_isParsed M_isTaken M_items M_piled M_outSize M_told M_standing M_elements M_elementCount M_word res ?_ p0 hm _ _ hP hD hS ls hl
  intro v he hn pc H locs ls hdg hP hD hS
  have he := Option.some.inj he
  subst he
  exact cx_retz C0 hn hsz hAe hdg hP hD hS

set_option maxRecDepth 20000 in
theorem ggX9_operator_X9_isNode : GoodIn wsX9_operator wsX9_isNode := goodIn_r _ [12, 13, 35, 36, 37, 38, 39, 40, 41, 42, 43, 44, 45, 46, 47, 48, 49, 50, 51, 52, 53, 54, 55, 56, 57, 58, 59, 60, 61, 62, 63, 64, 65, 66, 67, 68, 69, 70, 71, 72, 73, 74, 75, 76, 77, 78, 79, 80, 81, 82, 83, 84, 85, 86, 87] (by decide +kernel) (by decide +kernel)
set_option maxRecDepth 20000 in
theorem gX9_operator_X9_isNode : GoodIn wsX9_operator (wsV RX9 222 RX9 yX9_isNode wsX9_isNode) := goodIn_app (goodIn_of _ (by decide +kernel)) ggX9_operator_X9_isNode
set_option maxRecDepth 20000 in
theorem ggX9_operator_X9_findWords : GoodIn wsX9_operator wsX9_findWords := goodIn_r _ [17, 2, 18, 19, 4, 35, 36, 37, 38, 39, 40, 41, 42, 43, 44, 45, 46, 47, 48, 49, 50, 51, 52, 53, 54, 55, 56, 57, 58, 59, 60, 61, 62, 63, 64, 65, 66, 67, 68, 69, 70, 71, 72, 73, 74, 75, 76, 77, 78, 79, 80, 81, 82, 83, 84, 85, 86, 87] (by decide +kernel) (by decide +kernel)
set_option maxRecDepth 20000 in
theorem gX9_operator_X9_findWords : GoodIn wsX9_operator (wsV RX9 231 RX9 yX9_findWords wsX9_findWords) := goodIn_app (goodIn_of _ (by decide +kernel)) ggX9_operator_X9_findWords
set_option maxRecDepth 20000 in
theorem ggX9_operator_X9_isRow : GoodIn wsX9_operator wsX9_isRow := goodIn_r _ [23, 2, 4, 24, 35, 36, 37, 38, 39, 40, 41, 42, 43, 44, 45, 46, 47, 48, 49, 50, 51, 52, 53, 54, 55, 56, 57, 58, 59, 60, 61, 62, 63, 64, 65, 66, 67, 68, 69, 70, 71, 72, 73, 74, 75, 76, 77, 78, 79, 80, 81, 82, 83, 84, 85, 86, 87] (by decide +kernel) (by decide +kernel)
set_option maxRecDepth 20000 in
theorem gX9_operator_X9_isRow : GoodIn wsX9_operator (wsV RX9 235 RX9 yX9_isRow wsX9_isRow) := goodIn_app (goodIn_of _ (by decide +kernel)) ggX9_operator_X9_isRow
set_option maxRecDepth 20000 in
theorem ggX9_operator_X9_isLike : GoodIn wsX9_operator wsX9_isLike := goodIn_r _ [28, 5, 2, 3, 4, 35, 36, 37, 38, 39, 40, 41, 42, 43, 44, 45, 46, 47, 48, 49, 50, 51, 52, 53, 54, 55, 56, 57, 58, 59, 60, 61, 62, 63, 64, 65, 66, 67, 68, 69, 70, 71, 72, 73, 74, 75, 76, 77, 78, 79, 80, 81, 82, 83, 84, 85, 86, 87] (by decide +kernel) (by decide +kernel)
set_option maxRecDepth 20000 in
theorem gX9_operator_X9_isLike : GoodIn wsX9_operator (wsV RX9 238 RX9 yX9_isLike wsX9_isLike) := goodIn_app (goodIn_of _ (by decide +kernel)) ggX9_operator_X9_isLike
set_option maxRecDepth 20000 in
theorem ggX9_operator_X9_gone : GoodIn wsX9_operator wsX9_gone := goodIn_r _ [32, 33, 34, 35, 36, 37, 38, 39, 40, 41, 42, 43, 44, 45, 46, 47, 48, 49, 50, 51, 52, 53, 54, 55, 56, 57, 58, 59, 60, 61, 62, 63, 64, 65, 66, 67, 68, 69, 70, 71, 72, 73, 74, 75, 76, 77, 78, 79, 80, 81, 82, 83, 84, 85, 86, 87] (by decide +kernel) (by decide +kernel)
set_option maxRecDepth 20000 in
theorem gX9_operator_X9_gone : GoodIn wsX9_operator (wsV RX9 228 RX9 yX9_gone wsX9_gone) := goodIn_app (goodIn_of _ (by decide +kernel)) ggX9_operator_X9_gone
theorem dX9_operator_0 : decode cX9_operator 0 = .ok (.aload_n 0, 1) := by decide +kernel
theorem dX9_operator_1 : decode cX9_operator 1 = .ok (.iload_n 1, 1) := by decide +kernel
theorem dX9_operator_2 : decode cX9_operator 2 = .ok (.invokevirtual 222, 3) := by decide +kernel
theorem dX9_operator_5 : decode cX9_operator 5 = .ok (.ifCond .ne 5, 3) := by decide +kernel
theorem dX9_operator_8 : decode cX9_operator 8 = .ok (.iconst (-1), 1) := by decide +kernel
theorem dX9_operator_9 : decode cX9_operator 9 = .ok (.ireturn, 1) := by decide +kernel
theorem dX9_operator_10 : decode cX9_operator 10 = .ok (.iload_n 2, 1) := by decide +kernel
theorem dX9_operator_11 : decode cX9_operator 11 = .ok (.ifCond .lt 8, 3) := by decide +kernel
theorem dX9_operator_14 : decode cX9_operator 14 = .ok (.iload_n 2, 1) := by decide +kernel
theorem dX9_operator_15 : decode cX9_operator 15 = .ok (.iconst 2, 1) := by decide +kernel
theorem dX9_operator_16 : decode cX9_operator 16 = .ok (.if_icmp .le 6, 3) := by decide +kernel
theorem dX9_operator_19 : decode cX9_operator 19 = .ok (.bipush (-2), 2) := by decide +kernel
theorem dX9_operator_21 : decode cX9_operator 21 = .ok (.ireturn, 1) := by decide +kernel
theorem dX9_operator_22 : decode cX9_operator 22 = .ok (.aload_n 0, 1) := by decide +kernel
theorem dX9_operator_23 : decode cX9_operator 23 = .ok (.invokevirtual 231, 3) := by decide +kernel
theorem dX9_operator_26 : decode cX9_operator 26 = .ok (.ifCond .eq 10, 3) := by decide +kernel
theorem dX9_operator_29 : decode cX9_operator 29 = .ok (.aload_n 0, 1) := by decide +kernel
theorem dX9_operator_30 : decode cX9_operator 30 = .ok (.invokevirtual 235, 3) := by decide +kernel
theorem dX9_operator_33 : decode cX9_operator 33 = .ok (.ifCond .ne 6, 3) := by decide +kernel
theorem dX9_operator_36 : decode cX9_operator 36 = .ok (.bipush (-5), 2) := by decide +kernel
theorem dX9_operator_38 : decode cX9_operator 38 = .ok (.ireturn, 1) := by decide +kernel
theorem dX9_operator_39 : decode cX9_operator 39 = .ok (.iconst 0, 1) := by decide +kernel
theorem dX9_operator_40 : decode cX9_operator 40 = .ok (.istore_n 3, 1) := by decide +kernel
theorem dX9_operator_41 : decode cX9_operator 41 = .ok (.iload_n 3, 1) := by decide +kernel
theorem dX9_operator_42 : decode cX9_operator 42 = .ok (.aload_n 0, 1) := by decide +kernel
theorem dX9_operator_43 : decode cX9_operator 43 = .ok (.getfield 151, 3) := by decide +kernel
theorem dX9_operator_46 : decode cX9_operator 46 = .ok (.if_icmp .ge 20, 3) := by decide +kernel
theorem dX9_operator_49 : decode cX9_operator 49 = .ok (.aload_n 0, 1) := by decide +kernel
theorem dX9_operator_50 : decode cX9_operator 50 = .ok (.iload_n 3, 1) := by decide +kernel
theorem dX9_operator_51 : decode cX9_operator 51 = .ok (.invokevirtual 238, 3) := by decide +kernel
theorem dX9_operator_54 : decode cX9_operator 54 = .ok (.ifCond .eq 6, 3) := by decide +kernel
theorem dX9_operator_57 : decode cX9_operator 57 = .ok (.bipush (-6), 2) := by decide +kernel
theorem dX9_operator_59 : decode cX9_operator 59 = .ok (.ireturn, 1) := by decide +kernel
theorem dX9_operator_60 : decode cX9_operator 60 = .ok (.iinc 3 1, 3) := by decide +kernel
theorem dX9_operator_63 : decode cX9_operator 63 = .ok (.goto (-22), 3) := by decide +kernel
theorem dX9_operator_66 : decode cX9_operator 66 = .ok (.aload_n 0, 1) := by decide +kernel
theorem dX9_operator_67 : decode cX9_operator 67 = .ok (.getfield 151, 3) := by decide +kernel
theorem dX9_operator_70 : decode cX9_operator 70 = .ok (.bipush 30, 2) := by decide +kernel
theorem dX9_operator_72 : decode cX9_operator 72 = .ok (.if_icmp .ne 6, 3) := by decide +kernel
theorem dX9_operator_75 : decode cX9_operator 75 = .ok (.bipush (-4), 2) := by decide +kernel
theorem dX9_operator_77 : decode cX9_operator 77 = .ok (.ireturn, 1) := by decide +kernel
theorem dX9_operator_78 : decode cX9_operator 78 = .ok (.iconst 0, 1) := by decide +kernel
theorem dX9_operator_79 : decode cX9_operator 79 = .ok (.istore_n 3, 1) := by decide +kernel
theorem dX9_operator_80 : decode cX9_operator 80 = .ok (.iload_n 3, 1) := by decide +kernel
theorem dX9_operator_81 : decode cX9_operator 81 = .ok (.aload_n 0, 1) := by decide +kernel
theorem dX9_operator_82 : decode cX9_operator 82 = .ok (.getfield 145, 3) := by decide +kernel
theorem dX9_operator_85 : decode cX9_operator 85 = .ok (.if_icmp .ge 29, 3) := by decide +kernel
theorem dX9_operator_88 : decode cX9_operator 88 = .ok (.aload_n 0, 1) := by decide +kernel
theorem dX9_operator_89 : decode cX9_operator 89 = .ok (.getfield 13, 3) := by decide +kernel
theorem dX9_operator_92 : decode cX9_operator 92 = .ok (.bipush 9, 2) := by decide +kernel
theorem dX9_operator_94 : decode cX9_operator 94 = .ok (.aload_n 0, 1) := by decide +kernel
theorem dX9_operator_95 : decode cX9_operator 95 = .ok (.getfield 151, 3) := by decide +kernel
theorem dX9_operator_98 : decode cX9_operator 98 = .ok (.imul, 1) := by decide +kernel
theorem dX9_operator_99 : decode cX9_operator 99 = .ok (.iload_n 3, 1) := by decide +kernel
theorem dX9_operator_100 : decode cX9_operator 100 = .ok (.iadd, 1) := by decide +kernel
theorem dX9_operator_101 : decode cX9_operator 101 = .ok (.aload_n 0, 1) := by decide +kernel
theorem dX9_operator_102 : decode cX9_operator 102 = .ok (.getfield 33, 3) := by decide +kernel
theorem dX9_operator_105 : decode cX9_operator 105 = .ok (.iload_n 3, 1) := by decide +kernel
theorem dX9_operator_106 : decode cX9_operator 106 = .ok (.laload, 1) := by decide +kernel
theorem dX9_operator_107 : decode cX9_operator 107 = .ok (.lastore, 1) := by decide +kernel
theorem dX9_operator_108 : decode cX9_operator 108 = .ok (.iinc 3 1, 3) := by decide +kernel
theorem dX9_operator_111 : decode cX9_operator 111 = .ok (.goto (-31), 3) := by decide +kernel
theorem dX9_operator_114 : decode cX9_operator 114 = .ok (.aload_n 0, 1) := by decide +kernel
theorem dX9_operator_115 : decode cX9_operator 115 = .ok (.getfield 17, 3) := by decide +kernel
theorem dX9_operator_118 : decode cX9_operator 118 = .ok (.aload_n 0, 1) := by decide +kernel
theorem dX9_operator_119 : decode cX9_operator 119 = .ok (.getfield 151, 3) := by decide +kernel
theorem dX9_operator_122 : decode cX9_operator 122 = .ok (.aload_n 0, 1) := by decide +kernel
theorem dX9_operator_123 : decode cX9_operator 123 = .ok (.getfield 145, 3) := by decide +kernel
theorem dX9_operator_126 : decode cX9_operator 126 = .ok (.iastore, 1) := by decide +kernel
theorem dX9_operator_127 : decode cX9_operator 127 = .ok (.aload_n 0, 1) := by decide +kernel
theorem dX9_operator_128 : decode cX9_operator 128 = .ok (.getfield 21, 3) := by decide +kernel
theorem dX9_operator_131 : decode cX9_operator 131 = .ok (.aload_n 0, 1) := by decide +kernel
theorem dX9_operator_132 : decode cX9_operator 132 = .ok (.getfield 151, 3) := by decide +kernel
theorem dX9_operator_135 : decode cX9_operator 135 = .ok (.iload_n 1, 1) := by decide +kernel
theorem dX9_operator_136 : decode cX9_operator 136 = .ok (.iastore, 1) := by decide +kernel
theorem dX9_operator_137 : decode cX9_operator 137 = .ok (.aload_n 0, 1) := by decide +kernel
theorem dX9_operator_138 : decode cX9_operator 138 = .ok (.getfield 24, 3) := by decide +kernel
theorem dX9_operator_141 : decode cX9_operator 141 = .ok (.aload_n 0, 1) := by decide +kernel
theorem dX9_operator_142 : decode cX9_operator 142 = .ok (.getfield 151, 3) := by decide +kernel
theorem dX9_operator_145 : decode cX9_operator 145 = .ok (.iload_n 2, 1) := by decide +kernel
theorem dX9_operator_146 : decode cX9_operator 146 = .ok (.iastore, 1) := by decide +kernel
theorem dX9_operator_147 : decode cX9_operator 147 = .ok (.aload_n 0, 1) := by decide +kernel
theorem dX9_operator_148 : decode cX9_operator 148 = .ok (.dup, 1) := by decide +kernel
theorem dX9_operator_149 : decode cX9_operator 149 = .ok (.getfield 151, 3) := by decide +kernel
theorem dX9_operator_152 : decode cX9_operator 152 = .ok (.iconst 1, 1) := by decide +kernel
theorem dX9_operator_153 : decode cX9_operator 153 = .ok (.iadd, 1) := by decide +kernel
theorem dX9_operator_154 : decode cX9_operator 154 = .ok (.putfield 151, 3) := by decide +kernel
theorem dX9_operator_157 : decode cX9_operator 157 = .ok (.aload_n 0, 1) := by decide +kernel
theorem dX9_operator_158 : decode cX9_operator 158 = .ok (.invokevirtual 228, 3) := by decide +kernel
theorem dX9_operator_161 : decode cX9_operator 161 = .ok (.aload_n 0, 1) := by decide +kernel
theorem dX9_operator_162 : decode cX9_operator 162 = .ok (.getfield 151, 3) := by decide +kernel
theorem dX9_operator_165 : decode cX9_operator 165 = .ok (.iconst 1, 1) := by decide +kernel
theorem dX9_operator_166 : decode cX9_operator 166 = .ok (.isub, 1) := by decide +kernel
theorem dX9_operator_167 : decode cX9_operator 167 = .ok (.ireturn, 1) := by decide +kernel
/-! MixfixDeskModel.operator(II)I -/
abbrev rm_X9_operator : Room := { frames := 1, cells := 0, slots := 0, locals := 25 }
theorem X9_operator_inX9 : ∀ w ∈ wsX90, w ∈ wsX9_operator := by exact fun w h => List.mem_cons_of_mem _ (List.mem_append_right _ h)
abbrev RT_X9_operator (p : Program) (l : Launch) (e : Env) (s : State) (m : MethodId) (args : Array Value) (below : List Frame) (meth : Method) (c : Code) (Q : State → Prop) (dC : Nat → ClassId) (dI : Nat → Nat → Nat) (cI cJ cB cZ : ClassId) (A : Nat → Prop) (aM : Nat → Nat) (M_nodes : Int32) (M_textSize : Int32) (M_items : Int32) (M_piled : Int32) (M_outSize : Int32) (M_told : Int32) (M_standing : Int32) (M_text : Nat → Int32) (res : Int32 × Int32 × (Nat → Int64) × (Nat → Int32) × (Nat → Int32) × (Nat → Int32) × (Nat → Int64) × Int32 × Int32 × Int32) : Prop := ∀ (v : Int32) (M_operators : Int32) (M_elements : Nat → Int64) (M_elementCount : Nat → Int32) (M_nodeOf : Nat → Int32) (M_wayOf : Nat → Int32) (M_word : Nat → Int64) (M_wordCount : Int32) (M_isParsed : Int32) (M_isTaken : Int32), some (v, M_operators, M_elements, M_elementCount, M_nodeOf, M_wayOf, M_word, M_wordCount, M_isParsed, M_isTaken) = some res → ∀ (pc : Nat) (H : Heap) (locs : List Loc) (ls : Array Slot), decode cX9_operator pc = .ok (.ireturn, 1) → va_P (dC, dI) vwCl [((aM 0), .inr (9, oX9 aM M_nodes M_operators M_textSize M_wordCount M_isParsed M_isTaken M_items M_piled M_outSize M_told M_standing)), ((aM 4), .inl (cJ, 270, .inr (.inl M_elements))), ((aM 5), .inl (cI, 30, .inl M_elementCount)), ((aM 6), .inl (cI, 30, .inl M_nodeOf)), ((aM 7), .inl (cI, 30, .inl M_wayOf)), ((aM 9), .inl (cI, 1500, .inl M_text)), ((aM 11), .inl (cJ, 760, .inr (.inl M_word)))] H → va_D A [((aM 0), .inr (9, oX9 aM M_nodes M_operators M_textSize M_wordCount M_isParsed M_isTaken M_items M_piled M_outSize M_told M_standing)), ((aM 4), .inl (cJ, 270, .inr (.inl M_elements))), ((aM 5), .inl (cI, 30, .inl M_elementCount)), ((aM 6), .inl (cI, 30, .inl M_nodeOf)), ((aM 7), .inl (cI, 30, .inl M_wayOf)), ((aM 9), .inl (cI, 1500, .inl M_text)), ((aM 11), .inl (cJ, 760, .inr (.inl M_word)))] → va_S A s.heap H locs → W p l e rm_X9_operator s m args below meth c H locs 0 0 Q (F0 m pc ls [.int v])
set_option maxHeartbeats 4000000 in
set_option maxRecDepth 100000 in
theorem k_X9_operator_80 {p : Program} {l : Launch} {e : Env} {s : State} {m : MethodId} {args : Array Value} {below : List Frame} {meth : Method} {c : Code} {Q : State → Prop} {dC : Nat → ClassId} {dI : Nat → Nat → Nat} {cI cJ cB cZ : ClassId} {A : Nat → Prop} (C0 : Cx p s m meth c args cX9_operator 4 (some .int) wsX9_operator RX9) (hK : va_K (dC, dI) vwCl [(cI, .int), (cJ, .long), (cB, .byte), (cZ, .boolean)] s) (hN : NW s) (hA : ∀ q, s.heap.size ≤ q → A q) (aM : Nat → Nat) (M_nodes : Int32) (M_textSize : Int32) (M_items : Int32) (M_piled : Int32) (M_outSize : Int32) (M_told : Int32) (M_standing : Int32) (M_text : Nat → Int32) (res : Int32 × Int32 × (Nat → Int64) × (Nat → Int32) × (Nat → Int32) × (Nat → Int32) × (Nat → Int64) × Int32 × Int32 × Int32) (RET : RT_X9_operator p l e s m args below meth c Q dC dI cI cJ cB cZ A aM M_nodes M_textSize M_items M_piled M_outSize M_told M_standing M_text res)   : ∀ (n : Nat) (M_operators : Int32) (M_elements : Nat → Int64) (M_elementCount : Nat → Int32) (M_nodeOf : Nat → Int32) (M_wayOf : Nat → Int32) (M_word : Nat → Int64) (M_wordCount : Int32) (M_isParsed : Int32) (M_isTaken : Int32) (x1 : Int32) (x2 : Int32) (x3 : Int32), m_X9_operator_80 M_nodes M_textSize M_text n M_operators M_elements M_elementCount M_nodeOf M_wayOf M_word M_wordCount M_isParsed M_isTaken x1 x2 x3 = some res → ∀ (H : Heap) (locs : List Loc), va_P (dC, dI) vwCl [((aM 0), .inr (9, oX9 aM M_nodes M_operators M_textSize M_wordCount M_isParsed M_isTaken M_items M_piled M_outSize M_told M_standing)), ((aM 4), .inl (cJ, 270, .inr (.inl M_elements))), ((aM 5), .inl (cI, 30, .inl M_elementCount)), ((aM 6), .inl (cI, 30, .inl M_nodeOf)), ((aM 7), .inl (cI, 30, .inl M_wayOf)), ((aM 9), .inl (cI, 1500, .inl M_text)), ((aM 11), .inl (cJ, 760, .inr (.inl M_word)))] H → va_D A [((aM 0), .inr (9, oX9 aM M_nodes M_operators M_textSize M_wordCount M_isParsed M_isTaken M_items M_piled M_outSize M_told M_standing)), ((aM 4), .inl (cJ, 270, .inr (.inl M_elements))), ((aM 5), .inl (cI, 30, .inl M_elementCount)), ((aM 6), .inl (cI, 30, .inl M_nodeOf)), ((aM 7), .inl (cI, 30, .inl M_wayOf)), ((aM 9), .inl (cI, 1500, .inl M_text)), ((aM 11), .inl (cJ, 760, .inr (.inl M_word)))] → va_S A s.heap H locs → ∀ (ls : Array Slot), lv_has ls 4 [(0, .ref (aM 0)), (1, .int x1), (2, .int x2), (3, .int x3)] → W p l e rm_X9_operator s m args below meth c H locs 0 0 Q (F0 m 80 ls []) := by
  obtain ⟨⟨hx, hb, hml, hown, hts⟩, hr, hlocks⟩ := id C0
  intro n
  induction n with
  | zero =>
    intro M_operators M_elements M_elementCount M_nodeOf M_wayOf M_word M_wordCount M_isParsed M_isTaken x1 x2 x3 hm
    exact absurd hm (by intro h; cases h)
  | succ n ih =>
    intro M_operators M_elements M_elementCount M_nodeOf M_wayOf M_word M_wordCount M_isParsed M_isTaken x1 x2 x3 hm H locs hP hD hS ls hl
    have hm : (if M_wordCount ≤ x3 then (gd M_operators 30 (gd M_operators 30 (gd M_operators 30 (Option.bind (m_X9_gone M_isParsed M_isTaken) (fun r_5 => some ((M_operators + 1) - 1, M_operators + 1, M_elements, upd M_elementCount M_operators.toNatClampNeg M_wordCount, upd M_nodeOf M_operators.toNatClampNeg x1, upd M_wayOf M_operators.toNatClampNeg x2, M_word, M_wordCount, r_5.1, r_5.2)))))) else (gd x3 760 (gd ((9 * M_operators) + x3) 270 (m_X9_operator_80 M_nodes M_textSize M_text n M_operators (vp_updL M_elements ((9 * M_operators) + x3).toNatClampNeg (M_word x3.toNatClampNeg)) M_elementCount M_nodeOf M_wayOf M_word M_wordCount M_isParsed M_isTaken x1 x2 (x3 + 1))))) = some res := hm
    refine lv_iload_n hx hb dX9_operator_80 rfl (lv_at hl 3 rfl) ?_
    refine lv_aload_n hx hb dX9_operator_81 rfl (lv_at hl 0 rfl) ?_
    refine va_get (D := (dC, dI)) (ci := 9) (v := .int M_wordCount) (C := RX9) (T := TX9) (N := 53) hx hb hts X9_operator_inX9 hown hK hP 0 rfl rfl 11 (by decide) (hts (.fieldLink RX9 145 "MixfixDeskModel" "wordCount" "I") (List.mem_of_getElem? (i := 2) rfl)) (fun _ h9 => h9) rfl dX9_operator_82 ?_
    refine lv_icmp_ge (tgt := 114) hx hb dX9_operator_85 (by decide) (fun c_1 => ?_) (fun c_1 => ?_)
    · have hm := it_some c_1 hm
      refine lv_aload_n hx hb dX9_operator_114 rfl (lv_at hl 0 rfl) ?_
      refine va_get (D := (dC, dI)) (ci := 9) (v := .ref (aM 5)) (C := RX9) (T := TX9) (N := 53) hx hb hts X9_operator_inX9 hown hK hP 0 rfl rfl 4 (by decide) (hts (.fieldLink RX9 17 "MixfixDeskModel" "elementCount" "[I") (List.mem_of_getElem? (i := 5) rfl)) (fun _ h9 => h9) rfl dX9_operator_115 ?_
      refine lv_aload_n hx hb dX9_operator_118 rfl (lv_at hl 0 rfl) ?_
      refine va_get (D := (dC, dI)) (ci := 9) (v := .int M_operators) (C := RX9) (T := TX9) (N := 53) hx hb hts X9_operator_inX9 hown hK hP 0 rfl rfl 2 (by decide) (hts (.fieldLink RX9 151 "MixfixDeskModel" "operators" "I") (List.mem_of_getElem? (i := 1) rfl)) (fun _ h9 => h9) rfl dX9_operator_119 ?_
      refine lv_aload_n hx hb dX9_operator_122 rfl (lv_at hl 0 rfl) ?_
      refine va_get (D := (dC, dI)) (ci := 9) (v := .int M_wordCount) (C := RX9) (T := TX9) (N := 53) hx hb hts X9_operator_inX9 hown hK hP 0 rfl rfl 11 (by decide) (hts (.fieldLink RX9 145 "MixfixDeskModel" "wordCount" "I") (List.mem_of_getElem? (i := 2) rfl)) (fun _ h9 => h9) rfl dX9_operator_123 ?_
      obtain ⟨hi_2, hm⟩ := gd_some hm
      refine va_iast (D := (dC, dI)) hx hb hK hP hD hS 2 0 rfl rfl hi_2 dX9_operator_126 (fun H locs hP hD hS => ?_)
      have hP : va_P (dC, dI) vwCl [((aM 0), .inr (9, oX9 aM M_nodes M_operators M_textSize M_wordCount M_isParsed M_isTaken M_items M_piled M_outSize M_told M_standing)), ((aM 4), .inl (cJ, 270, .inr (.inl M_elements))), ((aM 5), .inl (cI, 30, .inl (upd M_elementCount M_operators.toNatClampNeg M_wordCount))), ((aM 6), .inl (cI, 30, .inl M_nodeOf)), ((aM 7), .inl (cI, 30, .inl M_wayOf)), ((aM 9), .inl (cI, 1500, .inl M_text)), ((aM 11), .inl (cJ, 760, .inr (.inl M_word)))] H := hP
      have hD : va_D A [((aM 0), .inr (9, oX9 aM M_nodes M_operators M_textSize M_wordCount M_isParsed M_isTaken M_items M_piled M_outSize M_told M_standing)), ((aM 4), .inl (cJ, 270, .inr (.inl M_elements))), ((aM 5), .inl (cI, 30, .inl (upd M_elementCount M_operators.toNatClampNeg M_wordCount))), ((aM 6), .inl (cI, 30, .inl M_nodeOf)), ((aM 7), .inl (cI, 30, .inl M_wayOf)), ((aM 9), .inl (cI, 1500, .inl M_text)), ((aM 11), .inl (cJ, 760, .inr (.inl M_word)))] := hD
      refine lv_aload_n hx hb dX9_operator_127 rfl (lv_at hl 0 rfl) ?_
      refine va_get (D := (dC, dI)) (ci := 9) (v := .ref (aM 6)) (C := RX9) (T := TX9) (N := 53) hx hb hts X9_operator_inX9 hown hK hP 0 rfl rfl 5 (by decide) (hts (.fieldLink RX9 21 "MixfixDeskModel" "nodeOf" "[I") (List.mem_of_getElem? (i := 6) rfl)) (fun _ h9 => h9) rfl dX9_operator_128 ?_
      refine lv_aload_n hx hb dX9_operator_131 rfl (lv_at hl 0 rfl) ?_
      refine va_get (D := (dC, dI)) (ci := 9) (v := .int M_operators) (C := RX9) (T := TX9) (N := 53) hx hb hts X9_operator_inX9 hown hK hP 0 rfl rfl 2 (by decide) (hts (.fieldLink RX9 151 "MixfixDeskModel" "operators" "I") (List.mem_of_getElem? (i := 1) rfl)) (fun _ h9 => h9) rfl dX9_operator_132 ?_
      refine lv_iload_n hx hb dX9_operator_135 rfl (lv_at hl 1 rfl) ?_
      obtain ⟨hi_3, hm⟩ := gd_some hm
      refine va_iast (D := (dC, dI)) hx hb hK hP hD hS 3 0 rfl rfl hi_3 dX9_operator_136 (fun H locs hP hD hS => ?_)
      have hP : va_P (dC, dI) vwCl [((aM 0), .inr (9, oX9 aM M_nodes M_operators M_textSize M_wordCount M_isParsed M_isTaken M_items M_piled M_outSize M_told M_standing)), ((aM 4), .inl (cJ, 270, .inr (.inl M_elements))), ((aM 5), .inl (cI, 30, .inl (upd M_elementCount M_operators.toNatClampNeg M_wordCount))), ((aM 6), .inl (cI, 30, .inl (upd M_nodeOf M_operators.toNatClampNeg x1))), ((aM 7), .inl (cI, 30, .inl M_wayOf)), ((aM 9), .inl (cI, 1500, .inl M_text)), ((aM 11), .inl (cJ, 760, .inr (.inl M_word)))] H := hP
      have hD : va_D A [((aM 0), .inr (9, oX9 aM M_nodes M_operators M_textSize M_wordCount M_isParsed M_isTaken M_items M_piled M_outSize M_told M_standing)), ((aM 4), .inl (cJ, 270, .inr (.inl M_elements))), ((aM 5), .inl (cI, 30, .inl (upd M_elementCount M_operators.toNatClampNeg M_wordCount))), ((aM 6), .inl (cI, 30, .inl (upd M_nodeOf M_operators.toNatClampNeg x1))), ((aM 7), .inl (cI, 30, .inl M_wayOf)), ((aM 9), .inl (cI, 1500, .inl M_text)), ((aM 11), .inl (cJ, 760, .inr (.inl M_word)))] := hD
      refine lv_aload_n hx hb dX9_operator_137 rfl (lv_at hl 0 rfl) ?_
      refine va_get (D := (dC, dI)) (ci := 9) (v := .ref (aM 7)) (C := RX9) (T := TX9) (N := 53) hx hb hts X9_operator_inX9 hown hK hP 0 rfl rfl 6 (by decide) (hts (.fieldLink RX9 24 "MixfixDeskModel" "wayOf" "[I") (List.mem_of_getElem? (i := 7) rfl)) (fun _ h9 => h9) rfl dX9_operator_138 ?_
      refine lv_aload_n hx hb dX9_operator_141 rfl (lv_at hl 0 rfl) ?_
      refine va_get (D := (dC, dI)) (ci := 9) (v := .int M_operators) (C := RX9) (T := TX9) (N := 53) hx hb hts X9_operator_inX9 hown hK hP 0 rfl rfl 2 (by decide) (hts (.fieldLink RX9 151 "MixfixDeskModel" "operators" "I") (List.mem_of_getElem? (i := 1) rfl)) (fun _ h9 => h9) rfl dX9_operator_142 ?_
      refine lv_iload_n hx hb dX9_operator_145 rfl (lv_at hl 2 rfl) ?_
      obtain ⟨hi_4, hm⟩ := gd_some hm
      refine va_iast (D := (dC, dI)) hx hb hK hP hD hS 4 0 rfl rfl hi_4 dX9_operator_146 (fun H locs hP hD hS => ?_)
      have hP : va_P (dC, dI) vwCl [((aM 0), .inr (9, oX9 aM M_nodes M_operators M_textSize M_wordCount M_isParsed M_isTaken M_items M_piled M_outSize M_told M_standing)), ((aM 4), .inl (cJ, 270, .inr (.inl M_elements))), ((aM 5), .inl (cI, 30, .inl (upd M_elementCount M_operators.toNatClampNeg M_wordCount))), ((aM 6), .inl (cI, 30, .inl (upd M_nodeOf M_operators.toNatClampNeg x1))), ((aM 7), .inl (cI, 30, .inl (upd M_wayOf M_operators.toNatClampNeg x2))), ((aM 9), .inl (cI, 1500, .inl M_text)), ((aM 11), .inl (cJ, 760, .inr (.inl M_word)))] H := hP
      have hD : va_D A [((aM 0), .inr (9, oX9 aM M_nodes M_operators M_textSize M_wordCount M_isParsed M_isTaken M_items M_piled M_outSize M_told M_standing)), ((aM 4), .inl (cJ, 270, .inr (.inl M_elements))), ((aM 5), .inl (cI, 30, .inl (upd M_elementCount M_operators.toNatClampNeg M_wordCount))), ((aM 6), .inl (cI, 30, .inl (upd M_nodeOf M_operators.toNatClampNeg x1))), ((aM 7), .inl (cI, 30, .inl (upd M_wayOf M_operators.toNatClampNeg x2))), ((aM 9), .inl (cI, 1500, .inl M_text)), ((aM 11), .inl (cJ, 760, .inr (.inl M_word)))] := hD
      refine lv_aload_n hx hb dX9_operator_147 rfl (lv_at hl 0 rfl) ?_
      refine lv_dup hx hb dX9_operator_148 rfl ?_
      refine va_get (D := (dC, dI)) (ci := 9) (v := .int M_operators) (C := RX9) (T := TX9) (N := 53) hx hb hts X9_operator_inX9 hown hK hP 0 rfl rfl 2 (by decide) (hts (.fieldLink RX9 151 "MixfixDeskModel" "operators" "I") (List.mem_of_getElem? (i := 1) rfl)) (fun _ h9 => h9) rfl dX9_operator_149 ?_
      refine lv_iconst (v := 1) hx hb dX9_operator_152 (by decide) ?_
      refine lv_iadd hx hb dX9_operator_153 ?_
      refine va_put (D := (dC, dI)) (ci := 9) (v := .int (M_operators + 1)) (ty := .int) (C := RX9) (T := TX9) (N := 53) hx hb hts X9_operator_inX9 tyX9 tyX9_ok nmX9 hown hK hP hD hS 0 rfl rfl 2 (by decide) (hts (.fieldLink RX9 151 "MixfixDeskModel" "operators" "I") (List.mem_of_getElem? (i := 1) rfl)) (fun _ h9 => h9) rfl (by decide +kernel) rfl rfl (Nat.le_of_ble_eq_true rfl) dX9_operator_154 (fun H locs hP hD hS => ?_)
      have hP : va_P (dC, dI) vwCl [((aM 0), .inr (9, oX9 aM M_nodes (M_operators + 1) M_textSize M_wordCount M_isParsed M_isTaken M_items M_piled M_outSize M_told M_standing)), ((aM 4), .inl (cJ, 270, .inr (.inl M_elements))), ((aM 5), .inl (cI, 30, .inl (upd M_elementCount M_operators.toNatClampNeg M_wordCount))), ((aM 6), .inl (cI, 30, .inl (upd M_nodeOf M_operators.toNatClampNeg x1))), ((aM 7), .inl (cI, 30, .inl (upd M_wayOf M_operators.toNatClampNeg x2))), ((aM 9), .inl (cI, 1500, .inl M_text)), ((aM 11), .inl (cJ, 760, .inr (.inl M_word)))] H := hP
      have hD : va_D A [((aM 0), .inr (9, oX9 aM M_nodes (M_operators + 1) M_textSize M_wordCount M_isParsed M_isTaken M_items M_piled M_outSize M_told M_standing)), ((aM 4), .inl (cJ, 270, .inr (.inl M_elements))), ((aM 5), .inl (cI, 30, .inl (upd M_elementCount M_operators.toNatClampNeg M_wordCount))), ((aM 6), .inl (cI, 30, .inl (upd M_nodeOf M_operators.toNatClampNeg x1))), ((aM 7), .inl (cI, 30, .inl (upd M_wayOf M_operators.toNatClampNeg x2))), ((aM 9), .inl (cI, 1500, .inl M_text)), ((aM 11), .inl (cJ, 760, .inr (.inl M_word)))] := hD
      refine lv_aload_n hx hb dX9_operator_157 rfl (lv_at hl 0 rfl) ?_
      obtain ⟨r_5, hc_6, hm⟩ := ob_some hm
      refine cx_v (wr := [((aM 4), .inl (cJ, 270, .inr (.inl M_elements))), ((aM 5), .inl (cI, 30, .inl (upd M_elementCount M_operators.toNatClampNeg M_wordCount))), ((aM 6), .inl (cI, 30, .inl (upd M_nodeOf M_operators.toNatClampNeg x1))), ((aM 7), .inl (cI, 30, .inl (upd M_wayOf M_operators.toNatClampNeg x2))), ((aM 9), .inl (cI, 1500, .inl M_text)), ((aM 11), .inl (cJ, 760, .inr (.inl M_word)))]) (va_runV (As := []) (rest := []) C0.1 (c_X9_gone l dC dI cI cJ cB cZ aM H.size M_nodes (M_operators + 1) M_textSize M_wordCount M_isParsed M_isTaken M_items M_piled M_outSize M_told M_standing r_5 hc_6) (cwV 0 hts gX9_operator_X9_gone rfl rfl rfl (by decide +kernel) ⟨Nat.le_of_ble_eq_true rfl, Nat.le_of_ble_eq_true rfl⟩) (cP_V (ci := 9) (q0 := 0) hK hN hP hD rfl rfl [0] (by decide) rfl) rfl rfl hl.1 rfl (lv_room (Nat.le_of_ble_eq_true rfl)) dX9_operator_158 ⟨Nat.le_of_ble_eq_true rfl, Nat.le_of_ble_eq_true rfl⟩) hP hD hS hA [0] [1, 2, 3, 4, 5, 6] rfl rfl (by decide) (by decide) (fun H locs hP hD hS => ?_)
      have hP : va_P (dC, dI) vwCl [((aM 4), .inl (cJ, 270, .inr (.inl M_elements))), ((aM 5), .inl (cI, 30, .inl (upd M_elementCount M_operators.toNatClampNeg M_wordCount))), ((aM 6), .inl (cI, 30, .inl (upd M_nodeOf M_operators.toNatClampNeg x1))), ((aM 7), .inl (cI, 30, .inl (upd M_wayOf M_operators.toNatClampNeg x2))), ((aM 9), .inl (cI, 1500, .inl M_text)), ((aM 11), .inl (cJ, 760, .inr (.inl M_word))), ((aM 0), .inr (9, oX9 aM M_nodes (M_operators + 1) M_textSize M_wordCount r_5.1 r_5.2 M_items M_piled M_outSize M_told M_standing))] H := hP
      have hD : va_D A [((aM 4), .inl (cJ, 270, .inr (.inl M_elements))), ((aM 5), .inl (cI, 30, .inl (upd M_elementCount M_operators.toNatClampNeg M_wordCount))), ((aM 6), .inl (cI, 30, .inl (upd M_nodeOf M_operators.toNatClampNeg x1))), ((aM 7), .inl (cI, 30, .inl (upd M_wayOf M_operators.toNatClampNeg x2))), ((aM 9), .inl (cI, 1500, .inl M_text)), ((aM 11), .inl (cJ, 760, .inr (.inl M_word))), ((aM 0), .inr (9, oX9 aM M_nodes (M_operators + 1) M_textSize M_wordCount r_5.1 r_5.2 M_items M_piled M_outSize M_told M_standing))] := hD
      refine lv_aload_n hx hb dX9_operator_161 rfl (lv_at hl 0 rfl) ?_
      refine va_get (D := (dC, dI)) (ci := 9) (v := .int (M_operators + 1)) (C := RX9) (T := TX9) (N := 53) hx hb hts X9_operator_inX9 hown hK hP 6 rfl rfl 2 (by decide) (hts (.fieldLink RX9 151 "MixfixDeskModel" "operators" "I") (List.mem_of_getElem? (i := 1) rfl)) (fun _ h9 => h9) rfl dX9_operator_162 ?_
      refine lv_iconst (v := 1) hx hb dX9_operator_165 (by decide) ?_
      refine lv_isub hx hb dX9_operator_166 ?_
      exact RET ((M_operators + 1) - 1) (M_operators + 1) M_elements (upd M_elementCount M_operators.toNatClampNeg M_wordCount) (upd M_nodeOf M_operators.toNatClampNeg x1) (upd M_wayOf M_operators.toNatClampNeg x2) M_word M_wordCount r_5.1 r_5.2 hm _ H locs ls dX9_operator_167 (P_sub' hP [6, 0, 1, 2, 3, 4, 5] rfl) (hD.sub [6, 0, 1, 2, 3, 4, 5] (by decide) rfl) hS
    · have hm := if_some' c_1 hm
      refine lv_aload_n hx hb dX9_operator_88 rfl (lv_at hl 0 rfl) ?_
      refine va_get (D := (dC, dI)) (ci := 9) (v := .ref (aM 4)) (C := RX9) (T := TX9) (N := 53) hx hb hts X9_operator_inX9 hown hK hP 0 rfl rfl 3 (by decide) (hts (.fieldLink RX9 13 "MixfixDeskModel" "elements" "[J") (List.mem_of_getElem? (i := 3) rfl)) (fun _ h9 => h9) rfl dX9_operator_89 ?_
      refine lv_bipush (v := 9) hx hb dX9_operator_92 (by decide) ?_
      refine lv_aload_n hx hb dX9_operator_94 rfl (lv_at hl 0 rfl) ?_
      refine va_get (D := (dC, dI)) (ci := 9) (v := .int M_operators) (C := RX9) (T := TX9) (N := 53) hx hb hts X9_operator_inX9 hown hK hP 0 rfl rfl 2 (by decide) (hts (.fieldLink RX9 151 "MixfixDeskModel" "operators" "I") (List.mem_of_getElem? (i := 1) rfl)) (fun _ h9 => h9) rfl dX9_operator_95 ?_
      refine lv_imul hx hb dX9_operator_98 ?_
      refine lv_iload_n hx hb dX9_operator_99 rfl (lv_at hl 3 rfl) ?_
      refine lv_iadd hx hb dX9_operator_100 ?_
      refine lv_aload_n hx hb dX9_operator_101 rfl (lv_at hl 0 rfl) ?_
      refine va_get (D := (dC, dI)) (ci := 9) (v := .ref (aM 11)) (C := RX9) (T := TX9) (N := 53) hx hb hts X9_operator_inX9 hown hK hP 0 rfl rfl 10 (by decide) (hts (.fieldLink RX9 33 "MixfixDeskModel" "word" "[J") (List.mem_of_getElem? (i := 4) rfl)) (fun _ h9 => h9) rfl dX9_operator_102 ?_
      refine lv_iload_n hx hb dX9_operator_105 rfl (lv_at hl 3 rfl) ?_
      obtain ⟨hi_7, hm⟩ := gd_some hm
      refine va_lald (D := (dC, dI)) hx hb hK hP 6 1 rfl rfl hi_7 dX9_operator_106 ?_
      obtain ⟨hi_8, hm⟩ := gd_some hm
      refine va_last (D := (dC, dI)) hx hb hK hP hD hS 1 1 rfl rfl hi_8 dX9_operator_107 (fun H locs hP hD hS => ?_)
      have hP : va_P (dC, dI) vwCl [((aM 0), .inr (9, oX9 aM M_nodes M_operators M_textSize M_wordCount M_isParsed M_isTaken M_items M_piled M_outSize M_told M_standing)), ((aM 4), .inl (cJ, 270, .inr (.inl (vp_updL M_elements ((9 * M_operators) + x3).toNatClampNeg (M_word x3.toNatClampNeg))))), ((aM 5), .inl (cI, 30, .inl M_elementCount)), ((aM 6), .inl (cI, 30, .inl M_nodeOf)), ((aM 7), .inl (cI, 30, .inl M_wayOf)), ((aM 9), .inl (cI, 1500, .inl M_text)), ((aM 11), .inl (cJ, 760, .inr (.inl M_word)))] H := hP
      have hD : va_D A [((aM 0), .inr (9, oX9 aM M_nodes M_operators M_textSize M_wordCount M_isParsed M_isTaken M_items M_piled M_outSize M_told M_standing)), ((aM 4), .inl (cJ, 270, .inr (.inl (vp_updL M_elements ((9 * M_operators) + x3).toNatClampNeg (M_word x3.toNatClampNeg))))), ((aM 5), .inl (cI, 30, .inl M_elementCount)), ((aM 6), .inl (cI, 30, .inl M_nodeOf)), ((aM 7), .inl (cI, 30, .inl M_wayOf)), ((aM 9), .inl (cI, 1500, .inl M_text)), ((aM 11), .inl (cJ, 760, .inr (.inl M_word)))] := hD
      refine lv_iinc (v := x3 + 1) (lv' := [(3, .int (x3 + 1)), (0, .ref (aM 0)), (1, .int x1), (2, .int x2)]) hx hb dX9_operator_108 hl (k := 3) rfl rfl (by decide) rfl (fun ls hl => ?_)
      refine lv_goto (tgt := 80) hx hb dX9_operator_111 (by decide) ?_
      exact ih M_operators (vp_updL M_elements ((9 * M_operators) + x3).toNatClampNeg (M_word x3.toNatClampNeg)) M_elementCount M_nodeOf M_wayOf M_word M_wordCount M_isParsed M_isTaken x1 x2 (x3 + 1) hm H locs hP hD hS ls (lv_sub hl [1, 2, 3, 0] rfl)
set_option maxHeartbeats 4000000 in
set_option maxRecDepth 100000 in
theorem k_X9_operator_41 {p : Program} {l : Launch} {e : Env} {s : State} {m : MethodId} {args : Array Value} {below : List Frame} {meth : Method} {c : Code} {Q : State → Prop} {dC : Nat → ClassId} {dI : Nat → Nat → Nat} {cI cJ cB cZ : ClassId} {A : Nat → Prop} (C0 : Cx p s m meth c args cX9_operator 4 (some .int) wsX9_operator RX9) (hK : va_K (dC, dI) vwCl [(cI, .int), (cJ, .long), (cB, .byte), (cZ, .boolean)] s) (hN : NW s) (hA : ∀ q, s.heap.size ≤ q → A q) (aM : Nat → Nat) (M_nodes : Int32) (M_textSize : Int32) (M_items : Int32) (M_piled : Int32) (M_outSize : Int32) (M_told : Int32) (M_standing : Int32) (M_text : Nat → Int32) (res : Int32 × Int32 × (Nat → Int64) × (Nat → Int32) × (Nat → Int32) × (Nat → Int32) × (Nat → Int64) × Int32 × Int32 × Int32) (RET : RT_X9_operator p l e s m args below meth c Q dC dI cI cJ cB cZ A aM M_nodes M_textSize M_items M_piled M_outSize M_told M_standing M_text res)   : ∀ (n : Nat) (M_operators : Int32) (M_elements : Nat → Int64) (M_elementCount : Nat → Int32) (M_nodeOf : Nat → Int32) (M_wayOf : Nat → Int32) (M_word : Nat → Int64) (M_wordCount : Int32) (M_isParsed : Int32) (M_isTaken : Int32) (x1 : Int32) (x2 : Int32) (x3 : Int32), m_X9_operator_41 M_nodes M_textSize M_text n M_operators M_elements M_elementCount M_nodeOf M_wayOf M_word M_wordCount M_isParsed M_isTaken x1 x2 x3 = some res → ∀ (H : Heap) (locs : List Loc), va_P (dC, dI) vwCl [((aM 0), .inr (9, oX9 aM M_nodes M_operators M_textSize M_wordCount M_isParsed M_isTaken M_items M_piled M_outSize M_told M_standing)), ((aM 4), .inl (cJ, 270, .inr (.inl M_elements))), ((aM 5), .inl (cI, 30, .inl M_elementCount)), ((aM 6), .inl (cI, 30, .inl M_nodeOf)), ((aM 7), .inl (cI, 30, .inl M_wayOf)), ((aM 9), .inl (cI, 1500, .inl M_text)), ((aM 11), .inl (cJ, 760, .inr (.inl M_word)))] H → va_D A [((aM 0), .inr (9, oX9 aM M_nodes M_operators M_textSize M_wordCount M_isParsed M_isTaken M_items M_piled M_outSize M_told M_standing)), ((aM 4), .inl (cJ, 270, .inr (.inl M_elements))), ((aM 5), .inl (cI, 30, .inl M_elementCount)), ((aM 6), .inl (cI, 30, .inl M_nodeOf)), ((aM 7), .inl (cI, 30, .inl M_wayOf)), ((aM 9), .inl (cI, 1500, .inl M_text)), ((aM 11), .inl (cJ, 760, .inr (.inl M_word)))] → va_S A s.heap H locs → ∀ (ls : Array Slot), lv_has ls 4 [(0, .ref (aM 0)), (1, .int x1), (2, .int x2), (3, .int x3)] → W p l e rm_X9_operator s m args below meth c H locs 0 0 Q (F0 m 41 ls []) := by
  obtain ⟨⟨hx, hb, hml, hown, hts⟩, hr, hlocks⟩ := id C0
  intro n
  induction n with
  | zero =>
    intro M_operators M_elements M_elementCount M_nodeOf M_wayOf M_word M_wordCount M_isParsed M_isTaken x1 x2 x3 hm
    exact absurd hm (by intro h; cases h)
  | succ n ih =>
    intro M_operators M_elements M_elementCount M_nodeOf M_wayOf M_word M_wordCount M_isParsed M_isTaken x1 x2 x3 hm H locs hP hD hS ls hl
    have hm : (if M_operators ≤ x3 then (if M_operators = 30 then (some ((-4), M_operators, M_elements, M_elementCount, M_nodeOf, M_wayOf, M_word, M_wordCount, M_isParsed, M_isTaken)) else (m_X9_operator_80 M_nodes M_textSize M_text FU M_operators M_elements M_elementCount M_nodeOf M_wayOf M_word M_wordCount M_isParsed M_isTaken x1 x2 0)) else (Option.bind (m_X9_isLike M_elements M_elementCount M_word M_wordCount x3) (fun r_11 => if r_11 = 0 then (m_X9_operator_41 M_nodes M_textSize M_text n M_operators M_elements M_elementCount M_nodeOf M_wayOf M_word M_wordCount M_isParsed M_isTaken x1 x2 (x3 + 1)) else (some ((-6), M_operators, M_elements, M_elementCount, M_nodeOf, M_wayOf, M_word, M_wordCount, M_isParsed, M_isTaken))))) = some res := hm
    refine lv_iload_n hx hb dX9_operator_41 rfl (lv_at hl 3 rfl) ?_
    refine lv_aload_n hx hb dX9_operator_42 rfl (lv_at hl 0 rfl) ?_
    refine va_get (D := (dC, dI)) (ci := 9) (v := .int M_operators) (C := RX9) (T := TX9) (N := 53) hx hb hts X9_operator_inX9 hown hK hP 0 rfl rfl 2 (by decide) (hts (.fieldLink RX9 151 "MixfixDeskModel" "operators" "I") (List.mem_of_getElem? (i := 1) rfl)) (fun _ h9 => h9) rfl dX9_operator_43 ?_
    refine lv_icmp_ge (tgt := 66) hx hb dX9_operator_46 (by decide) (fun c_9 => ?_) (fun c_9 => ?_)
    · have hm := it_some c_9 hm
      refine lv_aload_n hx hb dX9_operator_66 rfl (lv_at hl 0 rfl) ?_
      refine va_get (D := (dC, dI)) (ci := 9) (v := .int M_operators) (C := RX9) (T := TX9) (N := 53) hx hb hts X9_operator_inX9 hown hK hP 0 rfl rfl 2 (by decide) (hts (.fieldLink RX9 151 "MixfixDeskModel" "operators" "I") (List.mem_of_getElem? (i := 1) rfl)) (fun _ h9 => h9) rfl dX9_operator_67 ?_
      refine lv_bipush (v := 30) hx hb dX9_operator_70 (by decide) ?_
      refine lv_icmp_ne (tgt := 78) hx hb dX9_operator_72 (by decide) (fun c_10 => ?_) (fun c_10 => ?_)
      · have hm := if_some' c_10 hm
        refine lv_iconst (v := 0) hx hb dX9_operator_78 (by decide) ?_
        refine lv_istore_n (lv' := [(3, .int 0), (0, .ref (aM 0)), (1, .int x1), (2, .int x2)]) hx hb dX9_operator_79 rfl hl (by decide) rfl (fun ls hl => ?_)
        exact k_X9_operator_80 C0 hK hN hA aM M_nodes M_textSize M_items M_piled M_outSize M_told M_standing M_text res RET FU M_operators M_elements M_elementCount M_nodeOf M_wayOf M_word M_wordCount M_isParsed M_isTaken x1 x2 0 hm H locs hP hD hS ls (lv_sub hl [1, 2, 3, 0] rfl)
      · have hm := it_some c_10 hm
        refine lv_bipush (v := (-4)) hx hb dX9_operator_75 (by decide) ?_
        exact RET (-4) M_operators M_elements M_elementCount M_nodeOf M_wayOf M_word M_wordCount M_isParsed M_isTaken hm _ H locs ls dX9_operator_77 hP hD hS
    · have hm := if_some' c_9 hm
      refine lv_aload_n hx hb dX9_operator_49 rfl (lv_at hl 0 rfl) ?_
      refine lv_iload_n hx hb dX9_operator_50 rfl (lv_at hl 3 rfl) ?_
      obtain ⟨r_11, hc_12, hm⟩ := ob_some hm
      refine cx_i (wr := [((aM 6), .inl (cI, 30, .inl M_nodeOf)), ((aM 7), .inl (cI, 30, .inl M_wayOf)), ((aM 9), .inl (cI, 1500, .inl M_text))]) (va_runV (As := [.int x3]) (rest := []) C0.1 (c_X9_isLike l dC dI cI cJ cB cZ aM H.size M_nodes M_operators M_textSize M_wordCount M_isParsed M_isTaken M_items M_piled M_outSize M_told M_standing M_elements M_elementCount M_word x3 r_11 hc_12) (cwV 1 hts gX9_operator_X9_isLike rfl rfl rfl (by decide +kernel) ⟨Nat.le_of_ble_eq_true rfl, Nat.le_of_ble_eq_true rfl⟩) (cP_V (ci := 9) (q0 := 0) hK hN hP hD rfl rfl [0, 1, 2, 6] (by decide) rfl) rfl rfl hl.1 rfl (lv_room (Nat.le_of_ble_eq_true rfl)) dX9_operator_51 ⟨Nat.le_of_ble_eq_true rfl, Nat.le_of_ble_eq_true rfl⟩) hP hD hS hA [0, 1, 2, 6] [3, 4, 5] rfl rfl (by decide) (by decide) (fun H locs hP hD hS => ?_)
      have hP : va_P (dC, dI) vwCl [((aM 6), .inl (cI, 30, .inl M_nodeOf)), ((aM 7), .inl (cI, 30, .inl M_wayOf)), ((aM 9), .inl (cI, 1500, .inl M_text)), ((aM 0), .inr (9, oX9 aM M_nodes M_operators M_textSize M_wordCount M_isParsed M_isTaken M_items M_piled M_outSize M_told M_standing)), ((aM 4), .inl (cJ, 270, .inr (.inl M_elements))), ((aM 5), .inl (cI, 30, .inl M_elementCount)), ((aM 11), .inl (cJ, 760, .inr (.inl M_word)))] H := hP
      have hD : va_D A [((aM 6), .inl (cI, 30, .inl M_nodeOf)), ((aM 7), .inl (cI, 30, .inl M_wayOf)), ((aM 9), .inl (cI, 1500, .inl M_text)), ((aM 0), .inr (9, oX9 aM M_nodes M_operators M_textSize M_wordCount M_isParsed M_isTaken M_items M_piled M_outSize M_told M_standing)), ((aM 4), .inl (cJ, 270, .inr (.inl M_elements))), ((aM 5), .inl (cI, 30, .inl M_elementCount)), ((aM 11), .inl (cJ, 760, .inr (.inl M_word)))] := hD
      refine lv_if_eq (tgt := 60) hx hb dX9_operator_54 (by decide) (fun c_13 => ?_) (fun c_13 => ?_)
      · have hm := it_some c_13 hm
        refine lv_iinc (v := x3 + 1) (lv' := [(3, .int (x3 + 1)), (0, .ref (aM 0)), (1, .int x1), (2, .int x2)]) hx hb dX9_operator_60 hl (k := 3) rfl rfl (by decide) rfl (fun ls hl => ?_)
        refine lv_goto (tgt := 41) hx hb dX9_operator_63 (by decide) ?_
        exact ih M_operators M_elements M_elementCount M_nodeOf M_wayOf M_word M_wordCount M_isParsed M_isTaken x1 x2 (x3 + 1) hm H locs (P_sub' hP [3, 4, 5, 0, 1, 2, 6] rfl) (hD.sub [3, 4, 5, 0, 1, 2, 6] (by decide) rfl) hS ls (lv_sub hl [1, 2, 3, 0] rfl)
      · have hm := if_some' c_13 hm
        refine lv_bipush (v := (-6)) hx hb dX9_operator_57 (by decide) ?_
        exact RET (-6) M_operators M_elements M_elementCount M_nodeOf M_wayOf M_word M_wordCount M_isParsed M_isTaken hm _ H locs ls dX9_operator_59 (P_sub' hP [3, 4, 5, 0, 1, 2, 6] rfl) (hD.sub [3, 4, 5, 0, 1, 2, 6] (by decide) rfl) hS
set_option maxHeartbeats 4000000 in
set_option maxRecDepth 100000 in
theorem k_X9_operator_E {p : Program} {l : Launch} {e : Env} {s : State} {m : MethodId} {args : Array Value} {below : List Frame} {meth : Method} {c : Code} {Q : State → Prop} {dC : Nat → ClassId} {dI : Nat → Nat → Nat} {cI cJ cB cZ : ClassId} {A : Nat → Prop} (C0 : Cx p s m meth c args cX9_operator 4 (some .int) wsX9_operator RX9) (hK : va_K (dC, dI) vwCl [(cI, .int), (cJ, .long), (cB, .byte), (cZ, .boolean)] s) (hN : NW s) (hA : ∀ q, s.heap.size ≤ q → A q) (aM : Nat → Nat) (M_nodes : Int32) (M_textSize : Int32) (M_items : Int32) (M_piled : Int32) (M_outSize : Int32) (M_told : Int32) (M_standing : Int32) (M_text : Nat → Int32) (res : Int32 × Int32 × (Nat → Int64) × (Nat → Int32) × (Nat → Int32) × (Nat → Int32) × (Nat → Int64) × Int32 × Int32 × Int32) (RET : RT_X9_operator p l e s m args below meth c Q dC dI cI cJ cB cZ A aM M_nodes M_textSize M_items M_piled M_outSize M_told M_standing M_text res) : ∀ (M_operators : Int32) (M_elements : Nat → Int64) (M_elementCount : Nat → Int32) (M_nodeOf : Nat → Int32) (M_wayOf : Nat → Int32) (M_word : Nat → Int64) (M_wordCount : Int32) (M_isParsed : Int32) (M_isTaken : Int32) (p0 : Int32) (p1 : Int32), m_X9_operator M_nodes M_operators M_elements M_elementCount M_nodeOf M_wayOf M_text M_textSize M_word M_wordCount M_isParsed M_isTaken p0 p1 = some res → ∀ (H : Heap) (locs : List Loc), va_P (dC, dI) vwCl [((aM 0), .inr (9, oX9 aM M_nodes M_operators M_textSize M_wordCount M_isParsed M_isTaken M_items M_piled M_outSize M_told M_standing)), ((aM 4), .inl (cJ, 270, .inr (.inl M_elements))), ((aM 5), .inl (cI, 30, .inl M_elementCount)), ((aM 6), .inl (cI, 30, .inl M_nodeOf)), ((aM 7), .inl (cI, 30, .inl M_wayOf)), ((aM 9), .inl (cI, 1500, .inl M_text)), ((aM 11), .inl (cJ, 760, .inr (.inl M_word)))] H → va_D A [((aM 0), .inr (9, oX9 aM M_nodes M_operators M_textSize M_wordCount M_isParsed M_isTaken M_items M_piled M_outSize M_told M_standing)), ((aM 4), .inl (cJ, 270, .inr (.inl M_elements))), ((aM 5), .inl (cI, 30, .inl M_elementCount)), ((aM 6), .inl (cI, 30, .inl M_nodeOf)), ((aM 7), .inl (cI, 30, .inl M_wayOf)), ((aM 9), .inl (cI, 1500, .inl M_text)), ((aM 11), .inl (cJ, 760, .inr (.inl M_word)))] → va_S A s.heap H locs → ∀ (ls : Array Slot), lv_has ls 4 [(0, .ref (aM 0)), (1, .int p0), (2, .int p1)] → W p l e rm_X9_operator s m args below meth c H locs 0 0 Q (F0 m 0 ls []) := by
  obtain ⟨⟨hx, hb, hml, hown, hts⟩, hr, hlocks⟩ := id C0
  intro M_operators M_elements M_elementCount M_nodeOf M_wayOf M_word M_wordCount M_isParsed M_isTaken p0 p1 hm H locs hP hD hS ls hl
  have hm : (Option.bind (m_X9_isNode M_nodes p0) (fun r_14 => if r_14 = 0 then (some ((-1), M_operators, M_elements, M_elementCount, M_nodeOf, M_wayOf, M_word, M_wordCount, M_isParsed, M_isTaken)) else (if p1 < 0 then (some ((-2), M_operators, M_elements, M_elementCount, M_nodeOf, M_wayOf, M_word, M_wordCount, M_isParsed, M_isTaken)) else (if p1 ≤ 2 then (Option.bind (m_X9_findWords M_text M_textSize M_word M_wordCount) (fun r_19 => if r_19.1 = 0 then (some ((-5), M_operators, M_elements, M_elementCount, M_nodeOf, M_wayOf, r_19.2.1, r_19.2.2, M_isParsed, M_isTaken)) else (Option.bind (m_X9_isRow r_19.2.1 r_19.2.2) (fun r_22 => if r_22 = 0 then (some ((-5), M_operators, M_elements, M_elementCount, M_nodeOf, M_wayOf, r_19.2.1, r_19.2.2, M_isParsed, M_isTaken)) else (m_X9_operator_41 M_nodes M_textSize M_text FU M_operators M_elements M_elementCount M_nodeOf M_wayOf r_19.2.1 r_19.2.2 M_isParsed M_isTaken p0 p1 0))))) else (some ((-2), M_operators, M_elements, M_elementCount, M_nodeOf, M_wayOf, M_word, M_wordCount, M_isParsed, M_isTaken)))))) = some res := hm
  refine lv_aload_n hx hb dX9_operator_0 rfl (lv_at hl 0 rfl) ?_
  refine lv_iload_n hx hb dX9_operator_1 rfl (lv_at hl 1 rfl) ?_
  obtain ⟨r_14, hc_15, hm⟩ := ob_some hm
  refine cx_i (wr := [((aM 4), .inl (cJ, 270, .inr (.inl M_elements))), ((aM 5), .inl (cI, 30, .inl M_elementCount)), ((aM 6), .inl (cI, 30, .inl M_nodeOf)), ((aM 7), .inl (cI, 30, .inl M_wayOf)), ((aM 9), .inl (cI, 1500, .inl M_text)), ((aM 11), .inl (cJ, 760, .inr (.inl M_word)))]) (va_runV (As := [.int p0]) (rest := []) C0.1 (c_X9_isNode l dC dI cI cJ cB cZ aM H.size M_nodes M_operators M_textSize M_wordCount M_isParsed M_isTaken M_items M_piled M_outSize M_told M_standing p0 r_14 hc_15) (cwV 1 hts gX9_operator_X9_isNode rfl rfl rfl (by decide +kernel) ⟨Nat.le_of_ble_eq_true rfl, Nat.le_of_ble_eq_true rfl⟩) (cP_V (ci := 9) (q0 := 0) hK hN hP hD rfl rfl [0] (by decide) rfl) rfl rfl hl.1 rfl (lv_room (Nat.le_of_ble_eq_true rfl)) dX9_operator_2 ⟨Nat.le_of_ble_eq_true rfl, Nat.le_of_ble_eq_true rfl⟩) hP hD hS hA [0] [1, 2, 3, 4, 5, 6] rfl rfl (by decide) (by decide) (fun H locs hP hD hS => ?_)
  have hP : va_P (dC, dI) vwCl [((aM 4), .inl (cJ, 270, .inr (.inl M_elements))), ((aM 5), .inl (cI, 30, .inl M_elementCount)), ((aM 6), .inl (cI, 30, .inl M_nodeOf)), ((aM 7), .inl (cI, 30, .inl M_wayOf)), ((aM 9), .inl (cI, 1500, .inl M_text)), ((aM 11), .inl (cJ, 760, .inr (.inl M_word))), ((aM 0), .inr (9, oX9 aM M_nodes M_operators M_textSize M_wordCount M_isParsed M_isTaken M_items M_piled M_outSize M_told M_standing))] H := hP
  have hD : va_D A [((aM 4), .inl (cJ, 270, .inr (.inl M_elements))), ((aM 5), .inl (cI, 30, .inl M_elementCount)), ((aM 6), .inl (cI, 30, .inl M_nodeOf)), ((aM 7), .inl (cI, 30, .inl M_wayOf)), ((aM 9), .inl (cI, 1500, .inl M_text)), ((aM 11), .inl (cJ, 760, .inr (.inl M_word))), ((aM 0), .inr (9, oX9 aM M_nodes M_operators M_textSize M_wordCount M_isParsed M_isTaken M_items M_piled M_outSize M_told M_standing))] := hD
  refine lv_if_ne (tgt := 10) hx hb dX9_operator_5 (by decide) (fun c_16 => ?_) (fun c_16 => ?_)
  · have hm := if_some' c_16 hm
    refine lv_iload_n hx hb dX9_operator_10 rfl (lv_at hl 2 rfl) ?_
    refine lv_if_lt (tgt := 19) hx hb dX9_operator_11 (by decide) (fun c_17 => ?_) (fun c_17 => ?_)
    · have hm := it_some c_17 hm
      refine lv_bipush (v := (-2)) hx hb dX9_operator_19 (by decide) ?_
      exact RET (-2) M_operators M_elements M_elementCount M_nodeOf M_wayOf M_word M_wordCount M_isParsed M_isTaken hm _ H locs ls dX9_operator_21 (P_sub' hP [6, 0, 1, 2, 3, 4, 5] rfl) (hD.sub [6, 0, 1, 2, 3, 4, 5] (by decide) rfl) hS
    · have hm := if_some' c_17 hm
      refine lv_iload_n hx hb dX9_operator_14 rfl (lv_at hl 2 rfl) ?_
      refine lv_iconst (v := 2) hx hb dX9_operator_15 (by decide) ?_
      refine lv_icmp_le (tgt := 22) hx hb dX9_operator_16 (by decide) (fun c_18 => ?_) (fun c_18 => ?_)
      · have hm := it_some c_18 hm
        refine lv_aload_n hx hb dX9_operator_22 rfl (lv_at hl 0 rfl) ?_
        obtain ⟨r_19, hc_20, hm⟩ := ob_some hm
        refine cx_i (wr := [((aM 4), .inl (cJ, 270, .inr (.inl M_elements))), ((aM 5), .inl (cI, 30, .inl M_elementCount)), ((aM 6), .inl (cI, 30, .inl M_nodeOf)), ((aM 7), .inl (cI, 30, .inl M_wayOf))]) (va_runV (As := []) (rest := []) C0.1 (c_X9_findWords l dC dI cI cJ cB cZ aM H.size M_nodes M_operators M_textSize M_wordCount M_isParsed M_isTaken M_items M_piled M_outSize M_told M_standing M_text M_word r_19 hc_20) (cwV 0 hts gX9_operator_X9_findWords rfl rfl rfl (by decide +kernel) ⟨Nat.le_of_ble_eq_true rfl, Nat.le_of_ble_eq_true rfl⟩) (cP_V (ci := 9) (q0 := 6) hK hN hP hD rfl rfl [6, 4, 5] (by decide) rfl) rfl rfl hl.1 rfl (lv_room (Nat.le_of_ble_eq_true rfl)) dX9_operator_23 ⟨Nat.le_of_ble_eq_true rfl, Nat.le_of_ble_eq_true rfl⟩) hP hD hS hA [6, 4, 5] [0, 1, 2, 3] rfl rfl (by decide) (by decide) (fun H locs hP hD hS => ?_)
        have hP : va_P (dC, dI) vwCl [((aM 4), .inl (cJ, 270, .inr (.inl M_elements))), ((aM 5), .inl (cI, 30, .inl M_elementCount)), ((aM 6), .inl (cI, 30, .inl M_nodeOf)), ((aM 7), .inl (cI, 30, .inl M_wayOf)), ((aM 0), .inr (9, oX9 aM M_nodes M_operators M_textSize r_19.2.2 M_isParsed M_isTaken M_items M_piled M_outSize M_told M_standing)), ((aM 9), .inl (cI, 1500, .inl M_text)), ((aM 11), .inl (cJ, 760, .inr (.inl r_19.2.1)))] H := hP
        have hD : va_D A [((aM 4), .inl (cJ, 270, .inr (.inl M_elements))), ((aM 5), .inl (cI, 30, .inl M_elementCount)), ((aM 6), .inl (cI, 30, .inl M_nodeOf)), ((aM 7), .inl (cI, 30, .inl M_wayOf)), ((aM 0), .inr (9, oX9 aM M_nodes M_operators M_textSize r_19.2.2 M_isParsed M_isTaken M_items M_piled M_outSize M_told M_standing)), ((aM 9), .inl (cI, 1500, .inl M_text)), ((aM 11), .inl (cJ, 760, .inr (.inl r_19.2.1)))] := hD
        refine lv_if_eq (tgt := 36) hx hb dX9_operator_26 (by decide) (fun c_21 => ?_) (fun c_21 => ?_)
        · have hm := it_some c_21 hm
          refine lv_bipush (v := (-5)) hx hb dX9_operator_36 (by decide) ?_
          exact RET (-5) M_operators M_elements M_elementCount M_nodeOf M_wayOf r_19.2.1 r_19.2.2 M_isParsed M_isTaken hm _ H locs ls dX9_operator_38 (P_sub' hP [4, 0, 1, 2, 3, 5, 6] rfl) (hD.sub [4, 0, 1, 2, 3, 5, 6] (by decide) rfl) hS
        · have hm := if_some' c_21 hm
          refine lv_aload_n hx hb dX9_operator_29 rfl (lv_at hl 0 rfl) ?_
          obtain ⟨r_22, hc_23, hm⟩ := ob_some hm
          refine cx_i (wr := [((aM 4), .inl (cJ, 270, .inr (.inl M_elements))), ((aM 5), .inl (cI, 30, .inl M_elementCount)), ((aM 6), .inl (cI, 30, .inl M_nodeOf)), ((aM 7), .inl (cI, 30, .inl M_wayOf)), ((aM 9), .inl (cI, 1500, .inl M_text))]) (va_runV (As := []) (rest := []) C0.1 (c_X9_isRow l dC dI cI cJ cB cZ aM H.size M_nodes M_operators M_textSize r_19.2.2 M_isParsed M_isTaken M_items M_piled M_outSize M_told M_standing r_19.2.1 r_22 hc_23) (cwV 0 hts gX9_operator_X9_isRow rfl rfl rfl (by decide +kernel) ⟨Nat.le_of_ble_eq_true rfl, Nat.le_of_ble_eq_true rfl⟩) (cP_V (ci := 9) (q0 := 4) hK hN hP hD rfl rfl [4, 6] (by decide) rfl) rfl rfl hl.1 rfl (lv_room (Nat.le_of_ble_eq_true rfl)) dX9_operator_30 ⟨Nat.le_of_ble_eq_true rfl, Nat.le_of_ble_eq_true rfl⟩) hP hD hS hA [4, 6] [0, 1, 2, 3, 5] rfl rfl (by decide) (by decide) (fun H locs hP hD hS => ?_)
          have hP : va_P (dC, dI) vwCl [((aM 4), .inl (cJ, 270, .inr (.inl M_elements))), ((aM 5), .inl (cI, 30, .inl M_elementCount)), ((aM 6), .inl (cI, 30, .inl M_nodeOf)), ((aM 7), .inl (cI, 30, .inl M_wayOf)), ((aM 9), .inl (cI, 1500, .inl M_text)), ((aM 0), .inr (9, oX9 aM M_nodes M_operators M_textSize r_19.2.2 M_isParsed M_isTaken M_items M_piled M_outSize M_told M_standing)), ((aM 11), .inl (cJ, 760, .inr (.inl r_19.2.1)))] H := hP
          have hD : va_D A [((aM 4), .inl (cJ, 270, .inr (.inl M_elements))), ((aM 5), .inl (cI, 30, .inl M_elementCount)), ((aM 6), .inl (cI, 30, .inl M_nodeOf)), ((aM 7), .inl (cI, 30, .inl M_wayOf)), ((aM 9), .inl (cI, 1500, .inl M_text)), ((aM 0), .inr (9, oX9 aM M_nodes M_operators M_textSize r_19.2.2 M_isParsed M_isTaken M_items M_piled M_outSize M_told M_standing)), ((aM 11), .inl (cJ, 760, .inr (.inl r_19.2.1)))] := hD
          refine lv_if_ne (tgt := 39) hx hb dX9_operator_33 (by decide) (fun c_24 => ?_) (fun c_24 => ?_)
          · have hm := if_some' c_24 hm
            refine lv_iconst (v := 0) hx hb dX9_operator_39 (by decide) ?_
            refine lv_istore_n (lv' := [(3, .int 0), (0, .ref (aM 0)), (1, .int p0), (2, .int p1)]) hx hb dX9_operator_40 rfl hl (by decide) rfl (fun ls hl => ?_)
            exact k_X9_operator_41 C0 hK hN hA aM M_nodes M_textSize M_items M_piled M_outSize M_told M_standing M_text res RET FU M_operators M_elements M_elementCount M_nodeOf M_wayOf r_19.2.1 r_19.2.2 M_isParsed M_isTaken p0 p1 0 hm H locs (P_sub' hP [5, 0, 1, 2, 3, 4, 6] rfl) (hD.sub [5, 0, 1, 2, 3, 4, 6] (by decide) rfl) hS ls (lv_sub hl [1, 2, 3, 0] rfl)
          · have hm := it_some c_24 hm
            refine lv_bipush (v := (-5)) hx hb dX9_operator_36 (by decide) ?_
            exact RET (-5) M_operators M_elements M_elementCount M_nodeOf M_wayOf r_19.2.1 r_19.2.2 M_isParsed M_isTaken hm _ H locs ls dX9_operator_38 (P_sub' hP [5, 0, 1, 2, 3, 4, 6] rfl) (hD.sub [5, 0, 1, 2, 3, 4, 6] (by decide) rfl) hS
      · have hm := if_some' c_18 hm
        refine lv_bipush (v := (-2)) hx hb dX9_operator_19 (by decide) ?_
        exact RET (-2) M_operators M_elements M_elementCount M_nodeOf M_wayOf M_word M_wordCount M_isParsed M_isTaken hm _ H locs ls dX9_operator_21 (P_sub' hP [6, 0, 1, 2, 3, 4, 5] rfl) (hD.sub [6, 0, 1, 2, 3, 4, 5] (by decide) rfl) hS
  · have hm := it_some c_16 hm
    refine lv_iconst (v := (-1)) hx hb dX9_operator_8 (by decide) ?_
    exact RET (-1) M_operators M_elements M_elementCount M_nodeOf M_wayOf M_word M_wordCount M_isParsed M_isTaken hm _ H locs ls dX9_operator_9 (P_sub' hP [6, 0, 1, 2, 3, 4, 5] rfl) (hD.sub [6, 0, 1, 2, 3, 4, 5] (by decide) rfl) hS
set_option maxHeartbeats 4000000 in
set_option maxRecDepth 100000 in
theorem c_X9_operator (l : Launch) (dC : Nat → ClassId) (dI : Nat → Nat → Nat) (cI cJ cB cZ : ClassId) (aM : Nat → Nat) (sz : Nat) (M_nodes : Int32) (M_operators : Int32) (M_textSize : Int32) (M_wordCount : Int32) (M_isParsed : Int32) (M_isTaken : Int32) (M_items : Int32) (M_piled : Int32) (M_outSize : Int32) (M_told : Int32) (M_standing : Int32) (M_elements : Nat → Int64) (M_elementCount : Nat → Int32) (M_nodeOf : Nat → Int32) (M_wayOf : Nat → Int32) (M_text : Nat → Int32) (M_word : Nat → Int64) (p0 : Int32) (p1 : Int32) (res : Int32 × Int32 × (Nat → Int64) × (Nat → Int32) × (Nat → Int32) × (Nat → Int32) × (Nat → Int64) × Int32 × Int32 × Int32) (hm : m_X9_operator M_nodes M_operators M_elements M_elementCount M_nodeOf M_wayOf M_text M_textSize M_word M_wordCount M_isParsed M_isTaken p0 p1 = some res) : Met l yX9_operator wsX9_operator rm_X9_operator (cP (dC, dI) vwCl [(cI, .int), (cJ, .long), (cB, .byte), (cZ, .boolean)] [.ref (aM 0), .int p0, .int p1] [((aM 0), .inr (9, oX9 aM M_nodes M_operators M_textSize M_wordCount M_isParsed M_isTaken M_items M_piled M_outSize M_told M_standing)), ((aM 4), .inl (cJ, 270, .inr (.inl M_elements))), ((aM 5), .inl (cI, 30, .inl M_elementCount)), ((aM 6), .inl (cI, 30, .inl M_nodeOf)), ((aM 7), .inl (cI, 30, .inl M_wayOf)), ((aM 9), .inl (cI, 1500, .inl M_text)), ((aM 11), .inl (cJ, 760, .inr (.inl M_word)))] sz) (cQi res.1 (dC, dI) vwCl [((aM 0), .inr (9, oX9 aM M_nodes res.2.1 M_textSize res.2.2.2.2.2.2.2.1 res.2.2.2.2.2.2.2.2.1 res.2.2.2.2.2.2.2.2.2 M_items M_piled M_outSize M_told M_standing)), ((aM 4), .inl (cJ, 270, .inr (.inl res.2.2.1))), ((aM 5), .inl (cI, 30, .inl res.2.2.2.1)), ((aM 6), .inl (cI, 30, .inl res.2.2.2.2.1)), ((aM 7), .inl (cI, 30, .inl res.2.2.2.2.2.1)), ((aM 9), .inl (cI, 1500, .inl M_text)), ((aM 11), .inl (cJ, 760, .inr (.inl res.2.2.2.2.2.2.1)))] [((aM 0), .inr (9, oX9 aM M_nodes M_operators M_textSize M_wordCount M_isParsed M_isTaken M_items M_piled M_outSize M_told M_standing)), ((aM 4), .inl (cJ, 270, .inr (.inl M_elements))), ((aM 5), .inl (cI, 30, .inl M_elementCount)), ((aM 6), .inl (cI, 30, .inl M_nodeOf)), ((aM 7), .inl (cI, 30, .inl M_wayOf)), ((aM 9), .inl (cI, 1500, .inl M_text)), ((aM 11), .inl (cJ, 760, .inr (.inl M_word)))] sz) 0 0 (va_A [((aM 0), .inr (9, oX9 aM M_nodes M_operators M_textSize M_wordCount M_isParsed M_isTaken M_items M_piled M_outSize M_told M_standing)), ((aM 4), .inl (cJ, 270, .inr (.inl M_elements))), ((aM 5), .inl (cI, 30, .inl M_elementCount)), ((aM 6), .inl (cI, 30, .inl M_nodeOf)), ((aM 7), .inl (cI, 30, .inl M_wayOf)), ((aM 9), .inl (cI, 1500, .inl M_text)), ((aM 11), .inl (cJ, 760, .inr (.inl M_word)))] sz) := by
  refine cx_of (cc := cX9_operator) (maxL := 4) (ret := (some .int)) (own := RX9) (by decide) rfl rfl (Nat.le_of_ble_eq_true rfl) ?_
  intro p e s m below meth c A C0 hinN hK hN hsz hAe hA hP hD hS ls hl
  refine k_X9_operator_E C0 hK hN hA aM M_nodes M_textSize M_items M_piled M_outSize M_told M_standing M_text res ?_ M_operators M_elements M_elementCount M_nodeOf M_wayOf M_word M_wordCount M_isParsed M_isTaken p0 p1 hm _ _ hP hD hS ls hl
  intro v M_operators M_elements M_elementCount M_nodeOf M_wayOf M_word M_wordCount M_isParsed M_isTaken he pc H locs ls hdg hP hD hS
  have he := Option.some.inj he
  subst he
  exact cx_reti C0 hsz hAe hdg hP hD hS

