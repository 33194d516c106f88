theorem dX9_newTold_0 : decode cX9_newTold 0 = .ok (.aload_n 0, 1) := by decide +kernel
theorem dX9_newTold_1 : decode cX9_newTold 1 = .ok (.getfield 111, 3) := by decide +kernel
theorem dX9_newTold_4 : decode cX9_newTold 4 = .ok (.aload_n 0, 1) := by decide +kernel
theorem dX9_newTold_5 : decode cX9_newTold 5 = .ok (.getfield 278, 3) := by decide +kernel
theorem dX9_newTold_8 : decode cX9_newTold 8 = .ok (.iconst (-1), 1) := by decide +kernel
theorem dX9_newTold_9 : decode cX9_newTold 9 = .ok (.iastore, 1) := by decide +kernel
theorem dX9_newTold_10 : decode cX9_newTold 10 = .ok (.aload_n 0, 1) := by decide +kernel
theorem dX9_newTold_11 : decode cX9_newTold 11 = .ok (.getfield 114, 3) := by decide +kernel
theorem dX9_newTold_14 : decode cX9_newTold 14 = .ok (.aload_n 0, 1) := by decide +kernel
theorem dX9_newTold_15 : decode cX9_newTold 15 = .ok (.getfield 278, 3) := by decide +kernel
theorem dX9_newTold_18 : decode cX9_newTold 18 = .ok (.iload_n 2, 1) := by decide +kernel
theorem dX9_newTold_19 : decode cX9_newTold 19 = .ok (.iastore, 1) := by decide +kernel
theorem dX9_newTold_20 : decode cX9_newTold 20 = .ok (.aload_n 0, 1) := by decide +kernel
theorem dX9_newTold_21 : decode cX9_newTold 21 = .ok (.getfield 120, 3) := by decide +kernel
theorem dX9_newTold_24 : decode cX9_newTold 24 = .ok (.aload_n 0, 1) := by decide +kernel
theorem dX9_newTold_25 : decode cX9_newTold 25 = .ok (.getfield 278, 3) := by decide +kernel
theorem dX9_newTold_28 : decode cX9_newTold 28 = .ok (.iload_n 1, 1) := by decide +kernel
theorem dX9_newTold_29 : decode cX9_newTold 29 = .ok (.iastore, 1) := by decide +kernel
theorem dX9_newTold_30 : decode cX9_newTold 30 = .ok (.aload_n 0, 1) := by decide +kernel
theorem dX9_newTold_31 : decode cX9_newTold 31 = .ok (.getfield 123, 3) := by decide +kernel
theorem dX9_newTold_34 : decode cX9_newTold 34 = .ok (.aload_n 0, 1) := by decide +kernel
theorem dX9_newTold_35 : decode cX9_newTold 35 = .ok (.getfield 278, 3) := by decide +kernel
theorem dX9_newTold_38 : decode cX9_newTold 38 = .ok (.iconst (-1), 1) := by decide +kernel
theorem dX9_newTold_39 : decode cX9_newTold 39 = .ok (.iastore, 1) := by decide +kernel
theorem dX9_newTold_40 : decode cX9_newTold 40 = .ok (.aload_n 0, 1) := by decide +kernel
theorem dX9_newTold_41 : decode cX9_newTold 41 = .ok (.dup, 1) := by decide +kernel
theorem dX9_newTold_42 : decode cX9_newTold 42 = .ok (.getfield 278, 3) := by decide +kernel
theorem dX9_newTold_45 : decode cX9_newTold 45 = .ok (.iconst 1, 1) := by decide +kernel
theorem dX9_newTold_46 : decode cX9_newTold 46 = .ok (.iadd, 1) := by decide +kernel
theorem dX9_newTold_47 : decode cX9_newTold 47 = .ok (.putfield 278, 3) := by decide +kernel
theorem dX9_newTold_50 : decode cX9_newTold 50 = .ok (.aload_n 0, 1) := by decide +kernel
theorem dX9_newTold_51 : decode cX9_newTold 51 = .ok (.getfield 278, 3) := by decide +kernel
theorem dX9_newTold_54 : decode cX9_newTold 54 = .ok (.iconst 1, 1) := by decide +kernel
theorem dX9_newTold_55 : decode cX9_newTold 55 = .ok (.isub, 1) := by decide +kernel
theorem dX9_newTold_56 : decode cX9_newTold 56 = .ok (.ireturn, 1) := by decide +kernel
/-! MixfixDeskModel.newTold(II)I -/
abbrev rm_X9_newTold : Room := { frames := 0, cells := 0, slots := 0, locals := 0 }
theorem X9_newTold_inX9 : ∀ w ∈ wsX90, w ∈ wsX9_newTold := by exact fun w h => List.mem_cons_of_mem _ (List.mem_append_right _ h)
abbrev RT_X9_newTold (p : Program) (l : Launch) (e : Env) (s : State) (m : MethodId) (args : Array Value) (below : List Frame) (meth : Method) (c : Code) (Q : State → Prop) (dC : Nat → ClassId) (dI : Nat → Nat → Nat) (cI cJ cB cZ : ClassId) (A : Nat → Prop) (aM : Nat → Nat) (M_nodes : Int32) (M_operators : Int32) (M_textSize : Int32) (M_wordCount : Int32) (M_isParsed : Int32) (M_isTaken : Int32) (M_items : Int32) (M_piled : Int32) (M_outSize : Int32) (M_standing : Int32) (res : Int32 × (Nat → Int32) × (Nat → Int32) × (Nat → Int32) × (Nat → Int32) × Int32) : Prop := ∀ (v : Int32) (M_toldOperator : Nat → Int32) (M_toldFirst : Nat → Int32) (M_toldUp : Nat → Int32) (M_toldElement : Nat → Int32) (M_told : Int32), some (v, M_toldOperator, M_toldFirst, M_toldUp, M_toldElement, M_told) = some res → ∀ (pc : Nat) (H : Heap) (locs : List Loc) (ls : Array Slot), decode cX9_newTold pc = .ok (.ireturn, 1) → va_P (dC, dI) vwCl [((aM 0), .inr (9, oX9 aM M_nodes M_operators M_textSize M_wordCount M_isParsed M_isTaken M_items M_piled M_outSize M_told M_standing)), ((aM 42), .inl (cI, 760, .inl M_toldOperator)), ((aM 43), .inl (cI, 760, .inl M_toldFirst)), ((aM 45), .inl (cI, 760, .inl M_toldUp)), ((aM 46), .inl (cI, 760, .inl M_toldElement))] H → va_D A [((aM 0), .inr (9, oX9 aM M_nodes M_operators M_textSize M_wordCount M_isParsed M_isTaken M_items M_piled M_outSize M_told M_standing)), ((aM 42), .inl (cI, 760, .inl M_toldOperator)), ((aM 43), .inl (cI, 760, .inl M_toldFirst)), ((aM 45), .inl (cI, 760, .inl M_toldUp)), ((aM 46), .inl (cI, 760, .inl M_toldElement))] → va_S A s.heap H locs → W p l e rm_X9_newTold s m args below meth c H locs 0 0 Q (F0 m pc ls [.int v])
set_option maxHeartbeats 4000000 in
set_option maxRecDepth 100000 in
theorem k_X9_newTold_E {p : Program} {l : Launch} {e : Env} {s : State} {m : MethodId} {args : Array Value} {below : List Frame} {meth : Method} {c : Code} {Q : State → Prop} {dC : Nat → ClassId} {dI : Nat → Nat → Nat} {cI cJ cB cZ : ClassId} {A : Nat → Prop} (C0 : Cx p s m meth c args cX9_newTold 3 (some .int) wsX9_newTold RX9) (hK : va_K (dC, dI) vwCl [(cI, .int), (cJ, .long), (cB, .byte), (cZ, .boolean)] s) (hN : NW s) (hA : ∀ q, s.heap.size ≤ q → A q) (aM : Nat → Nat) (M_nodes : Int32) (M_operators : Int32) (M_textSize : Int32) (M_wordCount : Int32) (M_isParsed : Int32) (M_isTaken : Int32) (M_items : Int32) (M_piled : Int32) (M_outSize : Int32) (M_standing : Int32) (res : Int32 × (Nat → Int32) × (Nat → Int32) × (Nat → Int32) × (Nat → Int32) × Int32) (RET : RT_X9_newTold p l e s m args below meth c Q dC dI cI cJ cB cZ A aM M_nodes M_operators M_textSize M_wordCount M_isParsed M_isTaken M_items M_piled M_outSize M_standing res) : ∀ (M_toldOperator : Nat → Int32) (M_toldFirst : Nat → Int32) (M_toldUp : Nat → Int32) (M_toldElement : Nat → Int32) (M_told : Int32) (p0 : Int32) (p1 : Int32), m_X9_newTold M_toldOperator M_toldFirst M_toldUp M_toldElement M_told p0 p1 = some res → ∀ (H : Heap) (locs : List Loc), va_P (dC, dI) vwCl [((aM 0), .inr (9, oX9 aM M_nodes M_operators M_textSize M_wordCount M_isParsed M_isTaken M_items M_piled M_outSize M_told M_standing)), ((aM 42), .inl (cI, 760, .inl M_toldOperator)), ((aM 43), .inl (cI, 760, .inl M_toldFirst)), ((aM 45), .inl (cI, 760, .inl M_toldUp)), ((aM 46), .inl (cI, 760, .inl M_toldElement))] H → va_D A [((aM 0), .inr (9, oX9 aM M_nodes M_operators M_textSize M_wordCount M_isParsed M_isTaken M_items M_piled M_outSize M_told M_standing)), ((aM 42), .inl (cI, 760, .inl M_toldOperator)), ((aM 43), .inl (cI, 760, .inl M_toldFirst)), ((aM 45), .inl (cI, 760, .inl M_toldUp)), ((aM 46), .inl (cI, 760, .inl M_toldElement))] → va_S A s.heap H locs → ∀ (ls : Array Slot), lv_has ls 3 [(0, .ref (aM 0)), (1, .int p0), (2, .int p1)] → W p l e rm_X9_newTold s m args below meth c H locs 0 0 Q (F0 m 0 ls []) := by
  obtain ⟨⟨hx, hb, hml, hown, hts⟩, hr, hlocks⟩ := id C0
  intro M_toldOperator M_toldFirst M_toldUp M_toldElement M_told p0 p1 hm H locs hP hD hS ls hl
  have hm : (gd M_told 760 (gd M_told 760 (gd M_told 760 (gd M_told 760 (some ((M_told + 1) - 1, upd M_toldOperator M_told.toNatClampNeg (-1), upd M_toldFirst M_told.toNatClampNeg p1, upd M_toldUp M_told.toNatClampNeg p0, upd M_toldElement M_told.toNatClampNeg (-1), M_told + 1)))))) = some res := hm
  refine lv_aload_n hx hb dX9_newTold_0 rfl (lv_at hl 0 rfl) ?_
  refine va_get (D := (dC, dI)) (ci := 9) (v := .ref (aM 42)) (C := RX9) (T := TX9) (N := 53) hx hb hts X9_newTold_inX9 hown hK hP 0 rfl rfl 41 (by decide) (hts (.fieldLink RX9 111 "MixfixDeskModel" "toldOperator" "[I") (List.mem_of_getElem? (i := 1) rfl)) (fun _ h9 => h9) rfl dX9_newTold_1 ?_
  refine lv_aload_n hx hb dX9_newTold_4 rfl (lv_at hl 0 rfl) ?_
  refine va_get (D := (dC, dI)) (ci := 9) (v := .int M_told) (C := RX9) (T := TX9) (N := 53) hx hb hts X9_newTold_inX9 hown hK hP 0 rfl rfl 47 (by decide) (hts (.fieldLink RX9 278 "MixfixDeskModel" "told" "I") (List.mem_of_getElem? (i := 2) rfl)) (fun _ h9 => h9) rfl dX9_newTold_5 ?_
  refine lv_iconst (v := (-1)) hx hb dX9_newTold_8 (by decide) ?_
  obtain ⟨hi_1, hm⟩ := gd_some hm
  refine va_iast (D := (dC, dI)) hx hb hK hP hD hS 1 0 rfl rfl hi_1 dX9_newTold_9 (fun H locs hP hD hS => ?_)
  have hP : va_P (dC, dI) vwCl [((aM 0), .inr (9, oX9 aM M_nodes M_operators M_textSize M_wordCount M_isParsed M_isTaken M_items M_piled M_outSize M_told M_standing)), ((aM 42), .inl (cI, 760, .inl (upd M_toldOperator M_told.toNatClampNeg (-1)))), ((aM 43), .inl (cI, 760, .inl M_toldFirst)), ((aM 45), .inl (cI, 760, .inl M_toldUp)), ((aM 46), .inl (cI, 760, .inl M_toldElement))] H := hP
  have hD : va_D A [((aM 0), .inr (9, oX9 aM M_nodes M_operators M_textSize M_wordCount M_isParsed M_isTaken M_items M_piled M_outSize M_told M_standing)), ((aM 42), .inl (cI, 760, .inl (upd M_toldOperator M_told.toNatClampNeg (-1)))), ((aM 43), .inl (cI, 760, .inl M_toldFirst)), ((aM 45), .inl (cI, 760, .inl M_toldUp)), ((aM 46), .inl (cI, 760, .inl M_toldElement))] := hD
  refine lv_aload_n hx hb dX9_newTold_10 rfl (lv_at hl 0 rfl) ?_
  refine va_get (D := (dC, dI)) (ci := 9) (v := .ref (aM 43)) (C := RX9) (T := TX9) (N := 53) hx hb hts X9_newTold_inX9 hown hK hP 0 rfl rfl 42 (by decide) (hts (.fieldLink RX9 114 "MixfixDeskModel" "toldFirst" "[I") (List.mem_of_getElem? (i := 3) rfl)) (fun _ h9 => h9) rfl dX9_newTold_11 ?_
  refine lv_aload_n hx hb dX9_newTold_14 rfl (lv_at hl 0 rfl) ?_
  refine va_get (D := (dC, dI)) (ci := 9) (v := .int M_told) (C := RX9) (T := TX9) (N := 53) hx hb hts X9_newTold_inX9 hown hK hP 0 rfl rfl 47 (by decide) (hts (.fieldLink RX9 278 "MixfixDeskModel" "told" "I") (List.mem_of_getElem? (i := 2) rfl)) (fun _ h9 => h9) rfl dX9_newTold_15 ?_
  refine lv_iload_n hx hb dX9_newTold_18 rfl (lv_at hl 2 rfl) ?_
  obtain ⟨hi_2, hm⟩ := gd_some hm
  refine va_iast (D := (dC, dI)) hx hb hK hP hD hS 2 0 rfl rfl hi_2 dX9_newTold_19 (fun H locs hP hD hS => ?_)
  have hP : va_P (dC, dI) vwCl [((aM 0), .inr (9, oX9 aM M_nodes M_operators M_textSize M_wordCount M_isParsed M_isTaken M_items M_piled M_outSize M_told M_standing)), ((aM 42), .inl (cI, 760, .inl (upd M_toldOperator M_told.toNatClampNeg (-1)))), ((aM 43), .inl (cI, 760, .inl (upd M_toldFirst M_told.toNatClampNeg p1))), ((aM 45), .inl (cI, 760, .inl M_toldUp)), ((aM 46), .inl (cI, 760, .inl M_toldElement))] H := hP
  have hD : va_D A [((aM 0), .inr (9, oX9 aM M_nodes M_operators M_textSize M_wordCount M_isParsed M_isTaken M_items M_piled M_outSize M_told M_standing)), ((aM 42), .inl (cI, 760, .inl (upd M_toldOperator M_told.toNatClampNeg (-1)))), ((aM 43), .inl (cI, 760, .inl (upd M_toldFirst M_told.toNatClampNeg p1))), ((aM 45), .inl (cI, 760, .inl M_toldUp)), ((aM 46), .inl (cI, 760, .inl M_toldElement))] := hD
  refine lv_aload_n hx hb dX9_newTold_20 rfl (lv_at hl 0 rfl) ?_
  refine va_get (D := (dC, dI)) (ci := 9) (v := .ref (aM 45)) (C := RX9) (T := TX9) (N := 53) hx hb hts X9_newTold_inX9 hown hK hP 0 rfl rfl 44 (by decide) (hts (.fieldLink RX9 120 "MixfixDeskModel" "toldUp" "[I") (List.mem_of_getElem? (i := 4) rfl)) (fun _ h9 => h9) rfl dX9_newTold_21 ?_
  refine lv_aload_n hx hb dX9_newTold_24 rfl (lv_at hl 0 rfl) ?_
  refine va_get (D := (dC, dI)) (ci := 9) (v := .int M_told) (C := RX9) (T := TX9) (N := 53) hx hb hts X9_newTold_inX9 hown hK hP 0 rfl rfl 47 (by decide) (hts (.fieldLink RX9 278 "MixfixDeskModel" "told" "I") (List.mem_of_getElem? (i := 2) rfl)) (fun _ h9 => h9) rfl dX9_newTold_25 ?_
  refine lv_iload_n hx hb dX9_newTold_28 rfl (lv_at hl 1 rfl) ?_
  obtain ⟨hi_3, hm⟩ := gd_some hm
  refine va_iast (D := (dC, dI)) hx hb hK hP hD hS 3 0 rfl rfl hi_3 dX9_newTold_29 (fun H locs hP hD hS => ?_)
  have hP : va_P (dC, dI) vwCl [((aM 0), .inr (9, oX9 aM M_nodes M_operators M_textSize M_wordCount M_isParsed M_isTaken M_items M_piled M_outSize M_told M_standing)), ((aM 42), .inl (cI, 760, .inl (upd M_toldOperator M_told.toNatClampNeg (-1)))), ((aM 43), .inl (cI, 760, .inl (upd M_toldFirst M_told.toNatClampNeg p1))), ((aM 45), .inl (cI, 760, .inl (upd M_toldUp M_told.toNatClampNeg p0))), ((aM 46), .inl (cI, 760, .inl M_toldElement))] H := hP
  have hD : va_D A [((aM 0), .inr (9, oX9 aM M_nodes M_operators M_textSize M_wordCount M_isParsed M_isTaken M_items M_piled M_outSize M_told M_standing)), ((aM 42), .inl (cI, 760, .inl (upd M_toldOperator M_told.toNatClampNeg (-1)))), ((aM 43), .inl (cI, 760, .inl (upd M_toldFirst M_told.toNatClampNeg p1))), ((aM 45), .inl (cI, 760, .inl (upd M_toldUp M_told.toNatClampNeg p0))), ((aM 46), .inl (cI, 760, .inl M_toldElement))] := hD
  refine lv_aload_n hx hb dX9_newTold_30 rfl (lv_at hl 0 rfl) ?_
  refine va_get (D := (dC, dI)) (ci := 9) (v := .ref (aM 46)) (C := RX9) (T := TX9) (N := 53) hx hb hts X9_newTold_inX9 hown hK hP 0 rfl rfl 45 (by decide) (hts (.fieldLink RX9 123 "MixfixDeskModel" "toldElement" "[I") (List.mem_of_getElem? (i := 5) rfl)) (fun _ h9 => h9) rfl dX9_newTold_31 ?_
  refine lv_aload_n hx hb dX9_newTold_34 rfl (lv_at hl 0 rfl) ?_
  refine va_get (D := (dC, dI)) (ci := 9) (v := .int M_told) (C := RX9) (T := TX9) (N := 53) hx hb hts X9_newTold_inX9 hown hK hP 0 rfl rfl 47 (by decide) (hts (.fieldLink RX9 278 "MixfixDeskModel" "told" "I") (List.mem_of_getElem? (i := 2) rfl)) (fun _ h9 => h9) rfl dX9_newTold_35 ?_
  refine lv_iconst (v := (-1)) hx hb dX9_newTold_38 (by decide) ?_
  obtain ⟨hi_4, hm⟩ := gd_some hm
  refine va_iast (D := (dC, dI)) hx hb hK hP hD hS 4 0 rfl rfl hi_4 dX9_newTold_39 (fun H locs hP hD hS => ?_)
  have hP : va_P (dC, dI) vwCl [((aM 0), .inr (9, oX9 aM M_nodes M_operators M_textSize M_wordCount M_isParsed M_isTaken M_items M_piled M_outSize M_told M_standing)), ((aM 42), .inl (cI, 760, .inl (upd M_toldOperator M_told.toNatClampNeg (-1)))), ((aM 43), .inl (cI, 760, .inl (upd M_toldFirst M_told.toNatClampNeg p1))), ((aM 45), .inl (cI, 760, .inl (upd M_toldUp M_told.toNatClampNeg p0))), ((aM 46), .inl (cI, 760, .inl (upd M_toldElement M_told.toNatClampNeg (-1))))] H := hP
  have hD : va_D A [((aM 0), .inr (9, oX9 aM M_nodes M_operators M_textSize M_wordCount M_isParsed M_isTaken M_items M_piled M_outSize M_told M_standing)), ((aM 42), .inl (cI, 760, .inl (upd M_toldOperator M_told.toNatClampNeg (-1)))), ((aM 43), .inl (cI, 760, .inl (upd M_toldFirst M_told.toNatClampNeg p1))), ((aM 45), .inl (cI, 760, .inl (upd M_toldUp M_told.toNatClampNeg p0))), ((aM 46), .inl (cI, 760, .inl (upd M_toldElement M_told.toNatClampNeg (-1))))] := hD
  refine lv_aload_n hx hb dX9_newTold_40 rfl (lv_at hl 0 rfl) ?_
  refine lv_dup hx hb dX9_newTold_41 rfl ?_
  refine va_get (D := (dC, dI)) (ci := 9) (v := .int M_told) (C := RX9) (T := TX9) (N := 53) hx hb hts X9_newTold_inX9 hown hK hP 0 rfl rfl 47 (by decide) (hts (.fieldLink RX9 278 "MixfixDeskModel" "told" "I") (List.mem_of_getElem? (i := 2) rfl)) (fun _ h9 => h9) rfl dX9_newTold_42 ?_
  refine lv_iconst (v := 1) hx hb dX9_newTold_45 (by decide) ?_
  refine lv_iadd hx hb dX9_newTold_46 ?_
  refine va_put (D := (dC, dI)) (ci := 9) (v := .int (M_told + 1)) (ty := .int) (C := RX9) (T := TX9) (N := 53) hx hb hts X9_newTold_inX9 tyX9 tyX9_ok nmX9 hown hK hP hD hS 0 rfl rfl 47 (by decide) (hts (.fieldLink RX9 278 "MixfixDeskModel" "told" "I") (List.mem_of_getElem? (i := 2) rfl)) (fun _ h9 => h9) rfl (by decide +kernel) rfl rfl (Nat.le_of_ble_eq_true rfl) dX9_newTold_47 (fun H locs hP hD hS => ?_)
  have hP : va_P (dC, dI) vwCl [((aM 0), .inr (9, oX9 aM M_nodes M_operators M_textSize M_wordCount M_isParsed M_isTaken M_items M_piled M_outSize (M_told + 1) M_standing)), ((aM 42), .inl (cI, 760, .inl (upd M_toldOperator M_told.toNatClampNeg (-1)))), ((aM 43), .inl (cI, 760, .inl (upd M_toldFirst M_told.toNatClampNeg p1))), ((aM 45), .inl (cI, 760, .inl (upd M_toldUp M_told.toNatClampNeg p0))), ((aM 46), .inl (cI, 760, .inl (upd M_toldElement M_told.toNatClampNeg (-1))))] H := hP
  have hD : va_D A [((aM 0), .inr (9, oX9 aM M_nodes M_operators M_textSize M_wordCount M_isParsed M_isTaken M_items M_piled M_outSize (M_told + 1) M_standing)), ((aM 42), .inl (cI, 760, .inl (upd M_toldOperator M_told.toNatClampNeg (-1)))), ((aM 43), .inl (cI, 760, .inl (upd M_toldFirst M_told.toNatClampNeg p1))), ((aM 45), .inl (cI, 760, .inl (upd M_toldUp M_told.toNatClampNeg p0))), ((aM 46), .inl (cI, 760, .inl (upd M_toldElement M_told.toNatClampNeg (-1))))] := hD
  refine lv_aload_n hx hb dX9_newTold_50 rfl (lv_at hl 0 rfl) ?_
  refine va_get (D := (dC, dI)) (ci := 9) (v := .int (M_told + 1)) (C := RX9) (T := TX9) (N := 53) hx hb hts X9_newTold_inX9 hown hK hP 0 rfl rfl 47 (by decide) (hts (.fieldLink RX9 278 "MixfixDeskModel" "told" "I") (List.mem_of_getElem? (i := 2) rfl)) (fun _ h9 => h9) rfl dX9_newTold_51 ?_
  refine lv_iconst (v := 1) hx hb dX9_newTold_54 (by decide) ?_
  refine lv_isub hx hb dX9_newTold_55 ?_
  exact RET ((M_told + 1) - 1) (upd M_toldOperator M_told.toNatClampNeg (-1)) (upd M_toldFirst M_told.toNatClampNeg p1) (upd M_toldUp M_told.toNatClampNeg p0) (upd M_toldElement M_told.toNatClampNeg (-1)) (M_told + 1) hm _ H locs ls dX9_newTold_56 hP hD hS
set_option maxHeartbeats 4000000 in
set_option maxRecDepth 100000 in
theorem c_X9_newTold (l : Launch) (dC : Nat → ClassId) (dI : Nat → Nat → Nat) (cI cJ cB cZ : ClassId) (aM : Nat → Nat) (sz : Nat) (M_nodes : Int32) (M_operators : Int32) (M_textSize : Int32) (M_wordCount : Int32) (M_isParsed : Int32) (M_isTaken : Int32) (M_items : Int32) (M_piled : Int32) (M_outSize : Int32) (M_told : Int32) (M_standing : Int32) (M_toldOperator : Nat → Int32) (M_toldFirst : Nat → Int32) (M_toldUp : Nat → Int32) (M_toldElement : Nat → Int32) (p0 : Int32) (p1 : Int32) (res : Int32 × (Nat → Int32) × (Nat → Int32) × (Nat → Int32) × (Nat → Int32) × Int32) (hm : m_X9_newTold M_toldOperator M_toldFirst M_toldUp M_toldElement M_told p0 p1 = some res) : Met l yX9_newTold wsX9_newTold rm_X9_newTold (cP (dC, dI) vwCl [(cI, .int), (cJ, .long), (cB, .byte), (cZ, .boolean)] [.ref (aM 0), .int p0, .int p1] [((aM 0), .inr (9, oX9 aM M_nodes M_operators M_textSize M_wordCount M_isParsed M_isTaken M_items M_piled M_outSize M_told M_standing)), ((aM 42), .inl (cI, 760, .inl M_toldOperator)), ((aM 43), .inl (cI, 760, .inl M_toldFirst)), ((aM 45), .inl (cI, 760, .inl M_toldUp)), ((aM 46), .inl (cI, 760, .inl M_toldElement))] sz) (cQi res.1 (dC, dI) vwCl [((aM 0), .inr (9, oX9 aM M_nodes M_operators M_textSize M_wordCount M_isParsed M_isTaken M_items M_piled M_outSize res.2.2.2.2.2 M_standing)), ((aM 42), .inl (cI, 760, .inl res.2.1)), ((aM 43), .inl (cI, 760, .inl res.2.2.1)), ((aM 45), .inl (cI, 760, .inl res.2.2.2.1)), ((aM 46), .inl (cI, 760, .inl res.2.2.2.2.1))] [((aM 0), .inr (9, oX9 aM M_nodes M_operators M_textSize M_wordCount M_isParsed M_isTaken M_items M_piled M_outSize M_told M_standing)), ((aM 42), .inl (cI, 760, .inl M_toldOperator)), ((aM 43), .inl (cI, 760, .inl M_toldFirst)), ((aM 45), .inl (cI, 760, .inl M_toldUp)), ((aM 46), .inl (cI, 760, .inl M_toldElement))] sz) 0 0 (va_A [((aM 0), .inr (9, oX9 aM M_nodes M_operators M_textSize M_wordCount M_isParsed M_isTaken M_items M_piled M_outSize M_told M_standing)), ((aM 42), .inl (cI, 760, .inl M_toldOperator)), ((aM 43), .inl (cI, 760, .inl M_toldFirst)), ((aM 45), .inl (cI, 760, .inl M_toldUp)), ((aM 46), .inl (cI, 760, .inl M_toldElement))] sz) := by
  refine cx_of (cc := cX9_newTold) (maxL := 3) (ret := (some .int)) (own := RX9) (by decide) rfl rfl (Nat.le_of_ble_eq_true rfl) ?_
  intro p e s m below meth c A C0 hinN hK hN hsz hAe hA hP hD hS ls hl
  refine k_X9_newTold_E C0 hK hN hA aM M_nodes M_operators M_textSize M_wordCount M_isParsed M_isTaken M_items M_piled M_outSize M_standing res ?_ M_toldOperator M_toldFirst M_toldUp M_toldElement M_told p0 p1 hm _ _ hP hD hS ls hl
  intro v M_toldOperator M_toldFirst M_toldUp M_toldElement M_told he pc H locs ls hdg hP hD hS
  have he := Option.some.inj he
  subst he
  exact cx_reti C0 hsz hAe hdg hP hD hS

theorem dX9_stand_0 : decode cX9_stand 0 = .ok (.aload_n 0, 1) := by decide +kernel
theorem dX9_stand_1 : decode cX9_stand 1 = .ok (.getfield 132, 3) := by decide +kernel
theorem dX9_stand_4 : decode cX9_stand 4 = .ok (.aload_n 0, 1) := by decide +kernel
theorem dX9_stand_5 : decode cX9_stand 5 = .ok (.getfield 281, 3) := by decide +kernel
theorem dX9_stand_8 : decode cX9_stand 8 = .ok (.lload_n 1, 1) := by decide +kernel
theorem dX9_stand_9 : decode cX9_stand 9 = .ok (.lastore, 1) := by decide +kernel
theorem dX9_stand_10 : decode cX9_stand 10 = .ok (.aload_n 0, 1) := by decide +kernel
theorem dX9_stand_11 : decode cX9_stand 11 = .ok (.getfield 135, 3) := by decide +kernel
theorem dX9_stand_14 : decode cX9_stand 14 = .ok (.aload_n 0, 1) := by decide +kernel
theorem dX9_stand_15 : decode cX9_stand 15 = .ok (.getfield 281, 3) := by decide +kernel
theorem dX9_stand_18 : decode cX9_stand 18 = .ok (.iload_n 3, 1) := by decide +kernel
theorem dX9_stand_19 : decode cX9_stand 19 = .ok (.iastore, 1) := by decide +kernel
theorem dX9_stand_20 : decode cX9_stand 20 = .ok (.aload_n 0, 1) := by decide +kernel
theorem dX9_stand_21 : decode cX9_stand 21 = .ok (.dup, 1) := by decide +kernel
theorem dX9_stand_22 : decode cX9_stand 22 = .ok (.getfield 281, 3) := by decide +kernel
theorem dX9_stand_25 : decode cX9_stand 25 = .ok (.iconst 1, 1) := by decide +kernel
theorem dX9_stand_26 : decode cX9_stand 26 = .ok (.iadd, 1) := by decide +kernel
theorem dX9_stand_27 : decode cX9_stand 27 = .ok (.putfield 281, 3) := by decide +kernel
theorem dX9_stand_30 : decode cX9_stand 30 = .ok (.return_, 1) := by decide +kernel
/-! MixfixDeskModel.stand(JI)V -/
abbrev rm_X9_stand : Room := { frames := 0, cells := 0, slots := 0, locals := 0 }
theorem X9_stand_inX9 : ∀ w ∈ wsX90, w ∈ wsX9_stand := by exact fun w h => List.mem_cons_of_mem _ (List.mem_append_right _ h)
abbrev RT_X9_stand (p : Program) (l : Launch) (e : Env) (s : State) (m : MethodId) (args : Array Value) (below : List Frame) (meth : Method) (c : Code) (Q : State → Prop) (dC : Nat → ClassId) (dI : Nat → Nat → Nat) (cI cJ cB cZ : ClassId) (A : Nat → Prop) (aM : Nat → Nat) (M_nodes : Int32) (M_operators : Int32) (M_textSize : Int32) (M_wordCount : Int32) (M_isParsed : Int32) (M_isTaken : Int32) (M_items : Int32) (M_piled : Int32) (M_outSize : Int32) (M_told : Int32) (res : (Nat → Int64) × (Nat → Int32) × Int32) : Prop := ∀ (M_stands : Nat → Int64) (M_standsTree : Nat → Int32) (M_standing : Int32), some (M_stands, M_standsTree, M_standing) = some res → ∀ (pc : Nat) (H : Heap) (locs : List Loc) (ls : Array Slot), decode cX9_stand pc = .ok (.return_, 1) → va_P (dC, dI) vwCl [((aM 0), .inr (9, oX9 aM M_nodes M_operators M_textSize M_wordCount M_isParsed M_isTaken M_items M_piled M_outSize M_told M_standing)), ((aM 50), .inl (cJ, 760, .inr (.inl M_stands))), ((aM 51), .inl (cI, 760, .inl M_standsTree))] H → va_D A [((aM 0), .inr (9, oX9 aM M_nodes M_operators M_textSize M_wordCount M_isParsed M_isTaken M_items M_piled M_outSize M_told M_standing)), ((aM 50), .inl (cJ, 760, .inr (.inl M_stands))), ((aM 51), .inl (cI, 760, .inl M_standsTree))] → va_S A s.heap H locs → W p l e rm_X9_stand s m args below meth c H locs 0 0 Q (F0 m pc ls [])
set_option maxHeartbeats 4000000 in
set_option maxRecDepth 100000 in
theorem k_X9_stand_E {p : Program} {l : Launch} {e : Env} {s : State} {m : MethodId} {args : Array Value} {below : List Frame} {meth : Method} {c : Code} {Q : State → Prop} {dC : Nat → ClassId} {dI : Nat → Nat → Nat} {cI cJ cB cZ : ClassId} {A : Nat → Prop} (C0 : Cx p s m meth c args cX9_stand 4 none wsX9_stand RX9) (hK : va_K (dC, dI) vwCl [(cI, .int), (cJ, .long), (cB, .byte), (cZ, .boolean)] s) (hN : NW s) (hA : ∀ q, s.heap.size ≤ q → A q) (aM : Nat → Nat) (M_nodes : Int32) (M_operators : Int32) (M_textSize : Int32) (M_wordCount : Int32) (M_isParsed : Int32) (M_isTaken : Int32) (M_items : Int32) (M_piled : Int32) (M_outSize : Int32) (M_told : Int32) (res : (Nat → Int64) × (Nat → Int32) × Int32) (RET : RT_X9_stand p l e s m args below meth c Q dC dI cI cJ cB cZ A aM M_nodes M_operators M_textSize M_wordCount M_isParsed M_isTaken M_items M_piled M_outSize M_told res) : ∀ (M_stands : Nat → Int64) (M_standsTree : Nat → Int32) (M_standing : Int32) (p0 : Int64) (p1 : Int32), m_X9_stand M_stands M_standsTree M_standing p0 p1 = some res → ∀ (H : Heap) (locs : List Loc), va_P (dC, dI) vwCl [((aM 0), .inr (9, oX9 aM M_nodes M_operators M_textSize M_wordCount M_isParsed M_isTaken M_items M_piled M_outSize M_told M_standing)), ((aM 50), .inl (cJ, 760, .inr (.inl M_stands))), ((aM 51), .inl (cI, 760, .inl M_standsTree))] H → va_D A [((aM 0), .inr (9, oX9 aM M_nodes M_operators M_textSize M_wordCount M_isParsed M_isTaken M_items M_piled M_outSize M_told M_standing)), ((aM 50), .inl (cJ, 760, .inr (.inl M_stands))), ((aM 51), .inl (cI, 760, .inl M_standsTree))] → va_S A s.heap H locs → ∀ (ls : Array Slot), lv_has ls 4 [(0, .ref (aM 0)), (1, .long p0), (3, .int p1)] → W p l e rm_X9_stand s m args below meth c H locs 0 0 Q (F0 m 0 ls []) := by
  obtain ⟨⟨hx, hb, hml, hown, hts⟩, hr, hlocks⟩ := id C0
  intro M_stands M_standsTree M_standing p0 p1 hm H locs hP hD hS ls hl
  have hm : (gd M_standing 760 (gd M_standing 760 (some (vp_updL M_stands M_standing.toNatClampNeg p0, upd M_standsTree M_standing.toNatClampNeg p1, M_standing + 1)))) = some res := hm
  refine lv_aload_n hx hb dX9_stand_0 rfl (lv_at hl 0 rfl) ?_
  refine va_get (D := (dC, dI)) (ci := 9) (v := .ref (aM 50)) (C := RX9) (T := TX9) (N := 53) hx hb hts X9_stand_inX9 hown hK hP 0 rfl rfl 49 (by decide) (hts (.fieldLink RX9 132 "MixfixDeskModel" "stands" "[J") (List.mem_of_getElem? (i := 1) rfl)) (fun _ h9 => h9) rfl dX9_stand_1 ?_
  refine lv_aload_n hx hb dX9_stand_4 rfl (lv_at hl 0 rfl) ?_
  refine va_get (D := (dC, dI)) (ci := 9) (v := .int M_standing) (C := RX9) (T := TX9) (N := 53) hx hb hts X9_stand_inX9 hown hK hP 0 rfl rfl 52 (by decide) (hts (.fieldLink RX9 281 "MixfixDeskModel" "standing" "I") (List.mem_of_getElem? (i := 2) rfl)) (fun _ h9 => h9) rfl dX9_stand_5 ?_
  refine lv_lload_n hx hb dX9_stand_8 rfl (lv_at hl 1 rfl) ?_
  obtain ⟨hi_1, hm⟩ := gd_some hm
  refine va_last (D := (dC, dI)) hx hb hK hP hD hS 1 1 rfl rfl hi_1 dX9_stand_9 (fun H locs hP hD hS => ?_)
  have hP : va_P (dC, dI) vwCl [((aM 0), .inr (9, oX9 aM M_nodes M_operators M_textSize M_wordCount M_isParsed M_isTaken M_items M_piled M_outSize M_told M_standing)), ((aM 50), .inl (cJ, 760, .inr (.inl (vp_updL M_stands M_standing.toNatClampNeg p0)))), ((aM 51), .inl (cI, 760, .inl M_standsTree))] H := hP
  have hD : va_D A [((aM 0), .inr (9, oX9 aM M_nodes M_operators M_textSize M_wordCount M_isParsed M_isTaken M_items M_piled M_outSize M_told M_standing)), ((aM 50), .inl (cJ, 760, .inr (.inl (vp_updL M_stands M_standing.toNatClampNeg p0)))), ((aM 51), .inl (cI, 760, .inl M_standsTree))] := hD
  refine lv_aload_n hx hb dX9_stand_10 rfl (lv_at hl 0 rfl) ?_
  refine va_get (D := (dC, dI)) (ci := 9) (v := .ref (aM 51)) (C := RX9) (T := TX9) (N := 53) hx hb hts X9_stand_inX9 hown hK hP 0 rfl rfl 50 (by decide) (hts (.fieldLink RX9 135 "MixfixDeskModel" "standsTree" "[I") (List.mem_of_getElem? (i := 3) rfl)) (fun _ h9 => h9) rfl dX9_stand_11 ?_
  refine lv_aload_n hx hb dX9_stand_14 rfl (lv_at hl 0 rfl) ?_
  refine va_get (D := (dC, dI)) (ci := 9) (v := .int M_standing) (C := RX9) (T := TX9) (N := 53) hx hb hts X9_stand_inX9 hown hK hP 0 rfl rfl 52 (by decide) (hts (.fieldLink RX9 281 "MixfixDeskModel" "standing" "I") (List.mem_of_getElem? (i := 2) rfl)) (fun _ h9 => h9) rfl dX9_stand_15 ?_
  refine lv_iload_n hx hb dX9_stand_18 rfl (lv_at hl 2 rfl) ?_
  obtain ⟨hi_2, hm⟩ := gd_some hm
  refine va_iast (D := (dC, dI)) hx hb hK hP hD hS 2 0 rfl rfl hi_2 dX9_stand_19 (fun H locs hP hD hS => ?_)
  have hP : va_P (dC, dI) vwCl [((aM 0), .inr (9, oX9 aM M_nodes M_operators M_textSize M_wordCount M_isParsed M_isTaken M_items M_piled M_outSize M_told M_standing)), ((aM 50), .inl (cJ, 760, .inr (.inl (vp_updL M_stands M_standing.toNatClampNeg p0)))), ((aM 51), .inl (cI, 760, .inl (upd M_standsTree M_standing.toNatClampNeg p1)))] H := hP
  have hD : va_D A [((aM 0), .inr (9, oX9 aM M_nodes M_operators M_textSize M_wordCount M_isParsed M_isTaken M_items M_piled M_outSize M_told M_standing)), ((aM 50), .inl (cJ, 760, .inr (.inl (vp_updL M_stands M_standing.toNatClampNeg p0)))), ((aM 51), .inl (cI, 760, .inl (upd M_standsTree M_standing.toNatClampNeg p1)))] := hD
  refine lv_aload_n hx hb dX9_stand_20 rfl (lv_at hl 0 rfl) ?_
  refine lv_dup hx hb dX9_stand_21 rfl ?_
  refine va_get (D := (dC, dI)) (ci := 9) (v := .int M_standing) (C := RX9) (T := TX9) (N := 53) hx hb hts X9_stand_inX9 hown hK hP 0 rfl rfl 52 (by decide) (hts (.fieldLink RX9 281 "MixfixDeskModel" "standing" "I") (List.mem_of_getElem? (i := 2) rfl)) (fun _ h9 => h9) rfl dX9_stand_22 ?_
  refine lv_iconst (v := 1) hx hb dX9_stand_25 (by decide) ?_
  refine lv_iadd hx hb dX9_stand_26 ?_
  refine va_put (D := (dC, dI)) (ci := 9) (v := .int (M_standing + 1)) (ty := .int) (C := RX9) (T := TX9) (N := 53) hx hb hts X9_stand_inX9 tyX9 tyX9_ok nmX9 hown hK hP hD hS 0 rfl rfl 52 (by decide) (hts (.fieldLink RX9 281 "MixfixDeskModel" "standing" "I") (List.mem_of_getElem? (i := 2) rfl)) (fun _ h9 => h9) rfl (by decide +kernel) rfl rfl (Nat.le_of_ble_eq_true rfl) dX9_stand_27 (fun H locs hP hD hS => ?_)
  have hP : va_P (dC, dI) vwCl [((aM 0), .inr (9, oX9 aM M_nodes M_operators M_textSize M_wordCount M_isParsed M_isTaken M_items M_piled M_outSize M_told (M_standing + 1))), ((aM 50), .inl (cJ, 760, .inr (.inl (vp_updL M_stands M_standing.toNatClampNeg p0)))), ((aM 51), .inl (cI, 760, .inl (upd M_standsTree M_standing.toNatClampNeg p1)))] H := hP
  have hD : va_D A [((aM 0), .inr (9, oX9 aM M_nodes M_operators M_textSize M_wordCount M_isParsed M_isTaken M_items M_piled M_outSize M_told (M_standing + 1))), ((aM 50), .inl (cJ, 760, .inr (.inl (vp_updL M_stands M_standing.toNatClampNeg p0)))), ((aM 51), .inl (cI, 760, .inl (upd M_standsTree M_standing.toNatClampNeg p1)))] := hD
  exact RET (vp_updL M_stands M_standing.toNatClampNeg p0) (upd M_standsTree M_standing.toNatClampNeg p1) (M_standing + 1) hm _ H locs ls dX9_stand_30 hP hD hS
set_option maxHeartbeats 4000000 in
set_option maxRecDepth 100000 in
theorem c_X9_stand (l : Launch) (dC : Nat → ClassId) (dI : Nat → Nat → Nat) (cI cJ cB cZ : ClassId) (aM : Nat → Nat) (sz : Nat) (M_nodes : Int32) (M_operators : Int32) (M_textSize : Int32) (M_wordCount : Int32) (M_isParsed : Int32) (M_isTaken : Int32) (M_items : Int32) (M_piled : Int32) (M_outSize : Int32) (M_told : Int32) (M_standing : Int32) (M_stands : Nat → Int64) (M_standsTree : Nat → Int32) (p0 : Int64) (p1 : Int32) (res : (Nat → Int64) × (Nat → Int32) × Int32) (hm : m_X9_stand M_stands M_standsTree M_standing p0 p1 = some res) : Met l yX9_stand wsX9_stand rm_X9_stand (cP (dC, dI) vwCl [(cI, .int), (cJ, .long), (cB, .byte), (cZ, .boolean)] [.ref (aM 0), .long p0, .int p1] [((aM 0), .inr (9, oX9 aM M_nodes M_operators M_textSize M_wordCount M_isParsed M_isTaken M_items M_piled M_outSize M_told M_standing)), ((aM 50), .inl (cJ, 760, .inr (.inl M_stands))), ((aM 51), .inl (cI, 760, .inl M_standsTree))] sz) (cQv (dC, dI) vwCl [((aM 0), .inr (9, oX9 aM M_nodes M_operators M_textSize M_wordCount M_isParsed M_isTaken M_items M_piled M_outSize M_told res.2.2)), ((aM 50), .inl (cJ, 760, .inr (.inl res.1))), ((aM 51), .inl (cI, 760, .inl res.2.1))] [((aM 0), .inr (9, oX9 aM M_nodes M_operators M_textSize M_wordCount M_isParsed M_isTaken M_items M_piled M_outSize M_told M_standing)), ((aM 50), .inl (cJ, 760, .inr (.inl M_stands))), ((aM 51), .inl (cI, 760, .inl M_standsTree))] sz) 0 0 (va_A [((aM 0), .inr (9, oX9 aM M_nodes M_operators M_textSize M_wordCount M_isParsed M_isTaken M_items M_piled M_outSize M_told M_standing)), ((aM 50), .inl (cJ, 760, .inr (.inl M_stands))), ((aM 51), .inl (cI, 760, .inl M_standsTree))] sz) := by
  refine cx_of (cc := cX9_stand) (maxL := 4) (ret := none) (own := RX9) (by decide) rfl rfl (Nat.le_of_ble_eq_true rfl) ?_
  intro p e s m below meth c A C0 hinN hK hN hsz hAe hA hP hD hS ls hl
  refine k_X9_stand_E C0 hK hN hA aM M_nodes M_operators M_textSize M_wordCount M_isParsed M_isTaken M_items M_piled M_outSize M_told res ?_ M_stands M_standsTree M_standing p0 p1 hm _ _ hP hD hS ls hl
  intro M_stands M_standsTree M_standing he pc H locs ls hdg hP hD hS
  have he := Option.some.inj he
  subst he
  exact cx_retv C0 hsz hAe hdg hP hD hS

set_option maxRecDepth 20000 in
theorem ggX9_operatorOf_X9_isHole : GoodIn wsX9_operatorOf wsX9_isHole := goodIn_r _ [11, 6, 12, 13, 14, 15, 16, 17, 18, 19, 20, 21, 22, 23, 24, 25, 26, 27, 28, 29, 30, 31, 32, 33, 34, 35, 36, 37, 38, 39, 40, 41, 42, 43, 44, 45, 46, 47, 48, 49, 50, 51, 52, 53, 54, 55, 56, 57, 58, 59, 60, 61, 62, 63, 64, 65] (by decide +kernel) (by decide +kernel)
set_option maxRecDepth 20000 in
theorem gX9_operatorOf_X9_isHole : GoodIn wsX9_operatorOf (wsV RX9 160 RX9 yX9_isHole wsX9_isHole) := goodIn_app (goodIn_of _ (by decide +kernel)) ggX9_operatorOf_X9_isHole
theorem dX9_operatorOf_0 : decode cX9_operatorOf 0 = .ok (.iconst 0, 1) := by decide +kernel
theorem dX9_operatorOf_1 : decode cX9_operatorOf 1 = .ok (.istore_n 2, 1) := by decide +kernel
theorem dX9_operatorOf_2 : decode cX9_operatorOf 2 = .ok (.iload_n 2, 1) := by decide +kernel
theorem dX9_operatorOf_3 : decode cX9_operatorOf 3 = .ok (.aload_n 0, 1) := by decide +kernel
theorem dX9_operatorOf_4 : decode cX9_operatorOf 4 = .ok (.getfield 151, 3) := by decide +kernel
theorem dX9_operatorOf_7 : decode cX9_operatorOf 7 = .ok (.if_icmp .ge 133, 3) := by decide +kernel
theorem dX9_operatorOf_10 : decode cX9_operatorOf 10 = .ok (.aload_n 0, 1) := by decide +kernel
theorem dX9_operatorOf_11 : decode cX9_operatorOf 11 = .ok (.getfield 17, 3) := by decide +kernel
theorem dX9_operatorOf_14 : decode cX9_operatorOf 14 = .ok (.iload_n 2, 1) := by decide +kernel
theorem dX9_operatorOf_15 : decode cX9_operatorOf 15 = .ok (.iaload, 1) := by decide +kernel
theorem dX9_operatorOf_16 : decode cX9_operatorOf 16 = .ok (.aload_n 0, 1) := by decide +kernel
theorem dX9_operatorOf_17 : decode cX9_operatorOf 17 = .ok (.getfield 281, 3) := by decide +kernel
theorem dX9_operatorOf_20 : decode cX9_operatorOf 20 = .ok (.iload_n 1, 1) := by decide +kernel
theorem dX9_operatorOf_21 : decode cX9_operatorOf 21 = .ok (.isub, 1) := by decide +kernel
theorem dX9_operatorOf_22 : decode cX9_operatorOf 22 = .ok (.if_icmp .ne 7, 3) := by decide +kernel
theorem dX9_operatorOf_25 : decode cX9_operatorOf 25 = .ok (.iconst 1, 1) := by decide +kernel
theorem dX9_operatorOf_26 : decode cX9_operatorOf 26 = .ok (.goto 4, 3) := by decide +kernel
theorem dX9_operatorOf_29 : decode cX9_operatorOf 29 = .ok (.iconst 0, 1) := by decide +kernel
theorem dX9_operatorOf_30 : decode cX9_operatorOf 30 = .ok (.istore_n 3, 1) := by decide +kernel
theorem dX9_operatorOf_31 : decode cX9_operatorOf 31 = .ok (.iconst 0, 1) := by decide +kernel
theorem dX9_operatorOf_32 : decode cX9_operatorOf 32 = .ok (.istore 4, 2) := by decide +kernel
theorem dX9_operatorOf_34 : decode cX9_operatorOf 34 = .ok (.iload 4, 2) := by decide +kernel
theorem dX9_operatorOf_36 : decode cX9_operatorOf 36 = .ok (.aload_n 0, 1) := by decide +kernel
theorem dX9_operatorOf_37 : decode cX9_operatorOf 37 = .ok (.getfield 17, 3) := by decide +kernel
theorem dX9_operatorOf_40 : decode cX9_operatorOf 40 = .ok (.iload_n 2, 1) := by decide +kernel
theorem dX9_operatorOf_41 : decode cX9_operatorOf 41 = .ok (.iaload, 1) := by decide +kernel
theorem dX9_operatorOf_42 : decode cX9_operatorOf 42 = .ok (.if_icmp .ge 86, 3) := by decide +kernel
theorem dX9_operatorOf_45 : decode cX9_operatorOf 45 = .ok (.iload_n 3, 1) := by decide +kernel
theorem dX9_operatorOf_46 : decode cX9_operatorOf 46 = .ok (.ifCond .eq 82, 3) := by decide +kernel
theorem dX9_operatorOf_49 : decode cX9_operatorOf 49 = .ok (.aload_n 0, 1) := by decide +kernel
theorem dX9_operatorOf_50 : decode cX9_operatorOf 50 = .ok (.iload_n 2, 1) := by decide +kernel
theorem dX9_operatorOf_51 : decode cX9_operatorOf 51 = .ok (.iload 4, 2) := by decide +kernel
theorem dX9_operatorOf_53 : decode cX9_operatorOf 53 = .ok (.invokevirtual 160, 3) := by decide +kernel
theorem dX9_operatorOf_56 : decode cX9_operatorOf 56 = .ok (.ifCond .eq 23, 3) := by decide +kernel
theorem dX9_operatorOf_59 : decode cX9_operatorOf 59 = .ok (.aload_n 0, 1) := by decide +kernel
theorem dX9_operatorOf_60 : decode cX9_operatorOf 60 = .ok (.getfield 135, 3) := by decide +kernel
theorem dX9_operatorOf_63 : decode cX9_operatorOf 63 = .ok (.iload_n 1, 1) := by decide +kernel
theorem dX9_operatorOf_64 : decode cX9_operatorOf 64 = .ok (.iload 4, 2) := by decide +kernel
theorem dX9_operatorOf_66 : decode cX9_operatorOf 66 = .ok (.iadd, 1) := by decide +kernel
theorem dX9_operatorOf_67 : decode cX9_operatorOf 67 = .ok (.iaload, 1) := by decide +kernel
theorem dX9_operatorOf_68 : decode cX9_operatorOf 68 = .ok (.ifCond .lt 7, 3) := by decide +kernel
theorem dX9_operatorOf_71 : decode cX9_operatorOf 71 = .ok (.iconst 1, 1) := by decide +kernel
theorem dX9_operatorOf_72 : decode cX9_operatorOf 72 = .ok (.goto 49, 3) := by decide +kernel
theorem dX9_operatorOf_75 : decode cX9_operatorOf 75 = .ok (.iconst 0, 1) := by decide +kernel
theorem dX9_operatorOf_76 : decode cX9_operatorOf 76 = .ok (.goto 45, 3) := by decide +kernel
theorem dX9_operatorOf_79 : decode cX9_operatorOf 79 = .ok (.aload_n 0, 1) := by decide +kernel
theorem dX9_operatorOf_80 : decode cX9_operatorOf 80 = .ok (.getfield 135, 3) := by decide +kernel
theorem dX9_operatorOf_83 : decode cX9_operatorOf 83 = .ok (.iload_n 1, 1) := by decide +kernel
theorem dX9_operatorOf_84 : decode cX9_operatorOf 84 = .ok (.iload 4, 2) := by decide +kernel
theorem dX9_operatorOf_86 : decode cX9_operatorOf 86 = .ok (.iadd, 1) := by decide +kernel
theorem dX9_operatorOf_87 : decode cX9_operatorOf 87 = .ok (.iaload, 1) := by decide +kernel
theorem dX9_operatorOf_88 : decode cX9_operatorOf 88 = .ok (.ifCond .ge 32, 3) := by decide +kernel
theorem dX9_operatorOf_91 : decode cX9_operatorOf 91 = .ok (.aload_n 0, 1) := by decide +kernel
theorem dX9_operatorOf_92 : decode cX9_operatorOf 92 = .ok (.getfield 132, 3) := by decide +kernel
theorem dX9_operatorOf_95 : decode cX9_operatorOf 95 = .ok (.iload_n 1, 1) := by decide +kernel
theorem dX9_operatorOf_96 : decode cX9_operatorOf 96 = .ok (.iload 4, 2) := by decide +kernel
theorem dX9_operatorOf_98 : decode cX9_operatorOf 98 = .ok (.iadd, 1) := by decide +kernel
theorem dX9_operatorOf_99 : decode cX9_operatorOf 99 = .ok (.laload, 1) := by decide +kernel
theorem dX9_operatorOf_100 : decode cX9_operatorOf 100 = .ok (.aload_n 0, 1) := by decide +kernel
theorem dX9_operatorOf_101 : decode cX9_operatorOf 101 = .ok (.getfield 13, 3) := by decide +kernel
theorem dX9_operatorOf_104 : decode cX9_operatorOf 104 = .ok (.bipush 9, 2) := by decide +kernel
theorem dX9_operatorOf_106 : decode cX9_operatorOf 106 = .ok (.iload_n 2, 1) := by decide +kernel
theorem dX9_operatorOf_107 : decode cX9_operatorOf 107 = .ok (.imul, 1) := by decide +kernel
theorem dX9_operatorOf_108 : decode cX9_operatorOf 108 = .ok (.iload 4, 2) := by decide +kernel
theorem dX9_operatorOf_110 : decode cX9_operatorOf 110 = .ok (.iadd, 1) := by decide +kernel
theorem dX9_operatorOf_111 : decode cX9_operatorOf 111 = .ok (.laload, 1) := by decide +kernel
theorem dX9_operatorOf_112 : decode cX9_operatorOf 112 = .ok (.lcmp, 1) := by decide +kernel
theorem dX9_operatorOf_113 : decode cX9_operatorOf 113 = .ok (.ifCond .ne 7, 3) := by decide +kernel
theorem dX9_operatorOf_116 : decode cX9_operatorOf 116 = .ok (.iconst 1, 1) := by decide +kernel
theorem dX9_operatorOf_117 : decode cX9_operatorOf 117 = .ok (.goto 4, 3) := by decide +kernel
theorem dX9_operatorOf_120 : decode cX9_operatorOf 120 = .ok (.iconst 0, 1) := by decide +kernel
theorem dX9_operatorOf_121 : decode cX9_operatorOf 121 = .ok (.istore_n 3, 1) := by decide +kernel
theorem dX9_operatorOf_122 : decode cX9_operatorOf 122 = .ok (.iinc 4 1, 3) := by decide +kernel
theorem dX9_operatorOf_125 : decode cX9_operatorOf 125 = .ok (.goto (-91), 3) := by decide +kernel
theorem dX9_operatorOf_128 : decode cX9_operatorOf 128 = .ok (.iload_n 3, 1) := by decide +kernel
theorem dX9_operatorOf_129 : decode cX9_operatorOf 129 = .ok (.ifCond .eq 5, 3) := by decide +kernel
theorem dX9_operatorOf_132 : decode cX9_operatorOf 132 = .ok (.iload_n 2, 1) := by decide +kernel
theorem dX9_operatorOf_133 : decode cX9_operatorOf 133 = .ok (.ireturn, 1) := by decide +kernel
theorem dX9_operatorOf_134 : decode cX9_operatorOf 134 = .ok (.iinc 2 1, 3) := by decide +kernel
theorem dX9_operatorOf_137 : decode cX9_operatorOf 137 = .ok (.goto (-135), 3) := by decide +kernel
theorem dX9_operatorOf_140 : decode cX9_operatorOf 140 = .ok (.iconst (-1), 1) := by decide +kernel
theorem dX9_operatorOf_141 : decode cX9_operatorOf 141 = .ok (.ireturn, 1) := by decide +kernel
/-! MixfixDeskModel.operatorOf(I)I -/
abbrev rm_X9_operatorOf : Room := { frames := 1, cells := 0, slots := 0, locals := 22 }
theorem X9_operatorOf_inX9 : ∀ w ∈ wsX90, w ∈ wsX9_operatorOf := by exact fun w h => List.mem_cons_of_mem _ (List.mem_append_right _ h)
abbrev RT_X9_operatorOf (p : Program) (l : Launch) (e : Env) (s : State) (m : MethodId) (args : Array Value) (below : List Frame) (meth : Method) (c : Code) (Q : State → Prop) (dC : Nat → ClassId) (dI : Nat → Nat → Nat) (cI cJ cB cZ : ClassId) (A : Nat → Prop) (aM : Nat → Nat) (M_nodes : Int32) (M_operators : Int32) (M_textSize : Int32) (M_wordCount : Int32) (M_isParsed : Int32) (M_isTaken : Int32) (M_items : Int32) (M_piled : Int32) (M_outSize : Int32) (M_told : Int32) (M_standing : Int32) (M_elements : Nat → Int64) (M_elementCount : Nat → Int32) (M_stands : Nat → Int64) (M_standsTree : Nat → Int32) (res : Int32) : Prop := ∀ (v : Int32) , some v = some res → ∀ (pc : Nat) (H : Heap) (locs : List Loc) (ls : Array Slot), decode cX9_operatorOf pc = .ok (.ireturn, 1) → va_P (dC, dI) vwCl [((aM 0), .inr (9, oX9 aM M_nodes M_operators M_textSize M_wordCount M_isParsed M_isTaken M_items M_piled M_outSize M_told M_standing)), ((aM 4), .inl (cJ, 270, .inr (.inl M_elements))), ((aM 5), .inl (cI, 30, .inl M_elementCount)), ((aM 50), .inl (cJ, 760, .inr (.inl M_stands))), ((aM 51), .inl (cI, 760, .inl M_standsTree))] H → va_D A [((aM 0), .inr (9, oX9 aM M_nodes M_operators M_textSize M_wordCount M_isParsed M_isTaken M_items M_piled M_outSize M_told M_standing)), ((aM 4), .inl (cJ, 270, .inr (.inl M_elements))), ((aM 5), .inl (cI, 30, .inl M_elementCount)), ((aM 50), .inl (cJ, 760, .inr (.inl M_stands))), ((aM 51), .inl (cI, 760, .inl M_standsTree))] → va_S A s.heap H locs → W p l e rm_X9_operatorOf s m args below meth c H locs 0 0 Q (F0 m pc ls [.int v])
set_option maxHeartbeats 4000000 in
set_option maxRecDepth 100000 in
theorem k_X9_operatorOf_121 {p : Program} {l : Launch} {e : Env} {s : State} {m : MethodId} {args : Array Value} {below : List Frame} {meth : Method} {c : Code} {Q : State → Prop} {dC : Nat → ClassId} {dI : Nat → Nat → Nat} {cI cJ cB cZ : ClassId} {A : Nat → Prop} (C0 : Cx p s m meth c args cX9_operatorOf 5 (some .int) wsX9_operatorOf RX9) (hK : va_K (dC, dI) vwCl [(cI, .int), (cJ, .long), (cB, .byte), (cZ, .boolean)] s) (hN : NW s) (hA : ∀ q, s.heap.size ≤ q → A q) (aM : Nat → Nat) (M_nodes : Int32) (M_operators : Int32) (M_textSize : Int32) (M_wordCount : Int32) (M_isParsed : Int32) (M_isTaken : Int32) (M_items : Int32) (M_piled : Int32) (M_outSize : Int32) (M_told : Int32) (M_standing : Int32) (M_elements : Nat → Int64) (M_elementCount : Nat → Int32) (M_stands : Nat → Int64) (M_standsTree : Nat → Int32) (res : Int32) (RET : RT_X9_operatorOf p l e s m args below meth c Q dC dI cI cJ cB cZ A aM M_nodes M_operators M_textSize M_wordCount M_isParsed M_isTaken M_items M_piled M_outSize M_told M_standing M_elements M_elementCount M_stands M_standsTree res) (k2 : Int32 → Int32 → Option (Int32)) (k34 : Int32 → Int32 → Int32 → Int32 → Option (Int32)) (hk2 : ∀ (x1 : Int32) (x2 : Int32), k2 x1 x2 = some res → ∀ (H : Heap) (locs : List Loc), va_P (dC, dI) vwCl [((aM 0), .inr (9, oX9 aM M_nodes M_operators M_textSize M_wordCount M_isParsed M_isTaken M_items M_piled M_outSize M_told M_standing)), ((aM 4), .inl (cJ, 270, .inr (.inl M_elements))), ((aM 5), .inl (cI, 30, .inl M_elementCount)), ((aM 50), .inl (cJ, 760, .inr (.inl M_stands))), ((aM 51), .inl (cI, 760, .inl M_standsTree))] H → va_D A [((aM 0), .inr (9, oX9 aM M_nodes M_operators M_textSize M_wordCount M_isParsed M_isTaken M_items M_piled M_outSize M_told M_standing)), ((aM 4), .inl (cJ, 270, .inr (.inl M_elements))), ((aM 5), .inl (cI, 30, .inl M_elementCount)), ((aM 50), .inl (cJ, 760, .inr (.inl M_stands))), ((aM 51), .inl (cI, 760, .inl M_standsTree))] → va_S A s.heap H locs → ∀ (ls : Array Slot), lv_has ls 5 [(0, .ref (aM 0)), (1, .int x1), (2, .int x2)] → W p l e rm_X9_operatorOf s m args below meth c H locs 0 0 Q (F0 m 2 ls [])) (hk34 : ∀ (x1 : Int32) (x2 : Int32) (x3 : Int32) (x4 : Int32), k34 x1 x2 x3 x4 = some res → ∀ (H : Heap) (locs : List Loc), va_P (dC, dI) vwCl [((aM 0), .inr (9, oX9 aM M_nodes M_operators M_textSize M_wordCount M_isParsed M_isTaken M_items M_piled M_outSize M_told M_standing)), ((aM 4), .inl (cJ, 270, .inr (.inl M_elements))), ((aM 5), .inl (cI, 30, .inl M_elementCount)), ((aM 50), .inl (cJ, 760, .inr (.inl M_stands))), ((aM 51), .inl (cI, 760, .inl M_standsTree))] H → va_D A [((aM 0), .inr (9, oX9 aM M_nodes M_operators M_textSize M_wordCount M_isParsed M_isTaken M_items M_piled M_outSize M_told M_standing)), ((aM 4), .inl (cJ, 270, .inr (.inl M_elements))), ((aM 5), .inl (cI, 30, .inl M_elementCount)), ((aM 50), .inl (cJ, 760, .inr (.inl M_stands))), ((aM 51), .inl (cI, 760, .inl M_standsTree))] → va_S A s.heap H locs → ∀ (ls : Array Slot), lv_has ls 5 [(0, .ref (aM 0)), (1, .int x1), (2, .int x2), (3, .int x3), (4, .int x4)] → W p l e rm_X9_operatorOf s m args below meth c H locs 0 0 Q (F0 m 34 ls [])) : ∀ (x1 : Int32) (x2 : Int32) (x4 : Int32) (y0 : Int32), m_X9_operatorOf_121 M_operators M_standing M_elements M_elementCount M_stands M_standsTree k2 k34 x1 x2 x4 y0 = some res → ∀ (H : Heap) (locs : List Loc), va_P (dC, dI) vwCl [((aM 0), .inr (9, oX9 aM M_nodes M_operators M_textSize M_wordCount M_isParsed M_isTaken M_items M_piled M_outSize M_told M_standing)), ((aM 4), .inl (cJ, 270, .inr (.inl M_elements))), ((aM 5), .inl (cI, 30, .inl M_elementCount)), ((aM 50), .inl (cJ, 760, .inr (.inl M_stands))), ((aM 51), .inl (cI, 760, .inl M_standsTree))] H → va_D A [((aM 0), .inr (9, oX9 aM M_nodes M_operators M_textSize M_wordCount M_isParsed M_isTaken M_items M_piled M_outSize M_told M_standing)), ((aM 4), .inl (cJ, 270, .inr (.inl M_elements))), ((aM 5), .inl (cI, 30, .inl M_elementCount)), ((aM 50), .inl (cJ, 760, .inr (.inl M_stands))), ((aM 51), .inl (cI, 760, .inl M_standsTree))] → va_S A s.heap H locs → ∀ (ls : Array Slot), lv_has ls 5 [(0, .ref (aM 0)), (1, .int x1), (2, .int x2), (4, .int x4)] → W p l e rm_X9_operatorOf s m args below meth c H locs 0 0 Q (F0 m 121 ls [.int y0]) := by
  obtain ⟨⟨hx, hb, hml, hown, hts⟩, hr, hlocks⟩ := id C0
  intro x1 x2 x4 y0 hm H locs hP hD hS ls hl
  have hm : (k34 x1 x2 y0 (x4 + 1)) = some res := hm
  refine lv_istore_n (lv' := [(3, .int y0), (0, .ref (aM 0)), (1, .int x1), (2, .int x2), (4, .int x4)]) hx hb dX9_operatorOf_121 rfl hl (by decide) rfl (fun ls hl => ?_)
  refine lv_iinc (v := x4 + 1) (lv' := [(4, .int (x4 + 1)), (3, .int y0), (0, .ref (aM 0)), (1, .int x1), (2, .int x2)]) hx hb dX9_operatorOf_122 hl (k := 4) rfl rfl (by decide) rfl (fun ls hl => ?_)
  refine lv_goto (tgt := 34) hx hb dX9_operatorOf_125 (by decide) ?_
  exact hk34 x1 x2 y0 (x4 + 1) hm H locs hP hD hS ls (lv_sub hl [2, 3, 4, 1, 0] rfl)
set_option maxHeartbeats 4000000 in
set_option maxRecDepth 100000 in
theorem k_X9_operatorOf_120 {p : Program} {l : Launch} {e : Env} {s : State} {m : MethodId} {args : Array Value} {below : List Frame} {meth : Method} {c : Code} {Q : State → Prop} {dC : Nat → ClassId} {dI : Nat → Nat → Nat} {cI cJ cB cZ : ClassId} {A : Nat → Prop} (C0 : Cx p s m meth c args cX9_operatorOf 5 (some .int) wsX9_operatorOf RX9) (hK : va_K (dC, dI) vwCl [(cI, .int), (cJ, .long), (cB, .byte), (cZ, .boolean)] s) (hN : NW s) (hA : ∀ q, s.heap.size ≤ q → A q) (aM : Nat → Nat) (M_nodes : Int32) (M_operators : Int32) (M_textSize : Int32) (M_wordCount : Int32) (M_isParsed : Int32) (M_isTaken : Int32) (M_items : Int32) (M_piled : Int32) (M_outSize : Int32) (M_told : Int32) (M_standing : Int32) (M_elements : Nat → Int64) (M_elementCount : Nat → Int32) (M_stands : Nat → Int64) (M_standsTree : Nat → Int32) (res : Int32) (RET : RT_X9_operatorOf p l e s m args below meth c Q dC dI cI cJ cB cZ A aM M_nodes M_operators M_textSize M_wordCount M_isParsed M_isTaken M_items M_piled M_outSize M_told M_standing M_elements M_elementCount M_stands M_standsTree res) (k2 : Int32 → Int32 → Option (Int32)) (k34 : Int32 → Int32 → Int32 → Int32 → Option (Int32)) (hk2 : ∀ (x1 : Int32) (x2 : Int32), k2 x1 x2 = some res → ∀ (H : Heap) (locs : List Loc), va_P (dC, dI) vwCl [((aM 0), .inr (9, oX9 aM M_nodes M_operators M_textSize M_wordCount M_isParsed M_isTaken M_items M_piled M_outSize M_told M_standing)), ((aM 4), .inl (cJ, 270, .inr (.inl M_elements))), ((aM 5), .inl (cI, 30, .inl M_elementCount)), ((aM 50), .inl (cJ, 760, .inr (.inl M_stands))), ((aM 51), .inl (cI, 760, .inl M_standsTree))] H → va_D A [((aM 0), .inr (9, oX9 aM M_nodes M_operators M_textSize M_wordCount M_isParsed M_isTaken M_items M_piled M_outSize M_told M_standing)), ((aM 4), .inl (cJ, 270, .inr (.inl M_elements))), ((aM 5), .inl (cI, 30, .inl M_elementCount)), ((aM 50), .inl (cJ, 760, .inr (.inl M_stands))), ((aM 51), .inl (cI, 760, .inl M_standsTree))] → va_S A s.heap H locs → ∀ (ls : Array Slot), lv_has ls 5 [(0, .ref (aM 0)), (1, .int x1), (2, .int x2)] → W p l e rm_X9_operatorOf s m args below meth c H locs 0 0 Q (F0 m 2 ls [])) (hk34 : ∀ (x1 : Int32) (x2 : Int32) (x3 : Int32) (x4 : Int32), k34 x1 x2 x3 x4 = some res → ∀ (H : Heap) (locs : List Loc), va_P (dC, dI) vwCl [((aM 0), .inr (9, oX9 aM M_nodes M_operators M_textSize M_wordCount M_isParsed M_isTaken M_items M_piled M_outSize M_told M_standing)), ((aM 4), .inl (cJ, 270, .inr (.inl M_elements))), ((aM 5), .inl (cI, 30, .inl M_elementCount)), ((aM 50), .inl (cJ, 760, .inr (.inl M_stands))), ((aM 51), .inl (cI, 760, .inl M_standsTree))] H → va_D A [((aM 0), .inr (9, oX9 aM M_nodes M_operators M_textSize M_wordCount M_isParsed M_isTaken M_items M_piled M_outSize M_told M_standing)), ((aM 4), .inl (cJ, 270, .inr (.inl M_elements))), ((aM 5), .inl (cI, 30, .inl M_elementCount)), ((aM 50), .inl (cJ, 760, .inr (.inl M_stands))), ((aM 51), .inl (cI, 760, .inl M_standsTree))] → va_S A s.heap H locs → ∀ (ls : Array Slot), lv_has ls 5 [(0, .ref (aM 0)), (1, .int x1), (2, .int x2), (3, .int x3), (4, .int x4)] → W p l e rm_X9_operatorOf s m args below meth c H locs 0 0 Q (F0 m 34 ls [])) : ∀ (x1 : Int32) (x2 : Int32) (x4 : Int32), m_X9_operatorOf_120 M_operators M_standing M_elements M_elementCount M_stands M_standsTree k2 k34 x1 x2 x4 = some res → ∀ (H : Heap) (locs : List Loc), va_P (dC, dI) vwCl [((aM 0), .inr (9, oX9 aM M_nodes M_operators M_textSize M_wordCount M_isParsed M_isTaken M_items M_piled M_outSize M_told M_standing)), ((aM 4), .inl (cJ, 270, .inr (.inl M_elements))), ((aM 5), .inl (cI, 30, .inl M_elementCount)), ((aM 50), .inl (cJ, 760, .inr (.inl M_stands))), ((aM 51), .inl (cI, 760, .inl M_standsTree))] H → va_D A [((aM 0), .inr (9, oX9 aM M_nodes M_operators M_textSize M_wordCount M_isParsed M_isTaken M_items M_piled M_outSize M_told M_standing)), ((aM 4), .inl (cJ, 270, .inr (.inl M_elements))), ((aM 5), .inl (cI, 30, .inl M_elementCount)), ((aM 50), .inl (cJ, 760, .inr (.inl M_stands))), ((aM 51), .inl (cI, 760, .inl M_standsTree))] → va_S A s.heap H locs → ∀ (ls : Array Slot), lv_has ls 5 [(0, .ref (aM 0)), (1, .int x1), (2, .int x2), (4, .int x4)] → W p l e rm_X9_operatorOf s m args below meth c H locs 0 0 Q (F0 m 120 ls []) := by
  obtain ⟨⟨hx, hb, hml, hown, hts⟩, hr, hlocks⟩ := id C0
  intro x1 x2 x4 hm H locs hP hD hS ls hl
  have hm : (m_X9_operatorOf_121 M_operators M_standing M_elements M_elementCount M_stands M_standsTree k2 k34 x1 x2 x4 0) = some res := hm
  refine lv_iconst (v := 0) hx hb dX9_operatorOf_120 (by decide) ?_
  exact k_X9_operatorOf_121 C0 hK hN hA aM M_nodes M_operators M_textSize M_wordCount M_isParsed M_isTaken M_items M_piled M_outSize M_told M_standing M_elements M_elementCount M_stands M_standsTree res RET k2 k34 hk2 hk34 x1 x2 x4 0 hm H locs hP hD hS ls hl
set_option maxHeartbeats 4000000 in
set_option maxRecDepth 100000 in
theorem k_X9_operatorOf_128 {p : Program} {l : Launch} {e : Env} {s : State} {m : MethodId} {args : Array Value} {below : List Frame} {meth : Method} {c : Code} {Q : State → Prop} {dC : Nat → ClassId} {dI : Nat → Nat → Nat} {cI cJ cB cZ : ClassId} {A : Nat → Prop} (C0 : Cx p s m meth c args cX9_operatorOf 5 (some .int) wsX9_operatorOf RX9) (hK : va_K (dC, dI) vwCl [(cI, .int), (cJ, .long), (cB, .byte), (cZ, .boolean)] s) (hN : NW s) (hA : ∀ q, s.heap.size ≤ q → A q) (aM : Nat → Nat) (M_nodes : Int32) (M_operators : Int32) (M_textSize : Int32) (M_wordCount : Int32) (M_isParsed : Int32) (M_isTaken : Int32) (M_items : Int32) (M_piled : Int32) (M_outSize : Int32) (M_told : Int32) (M_standing : Int32) (M_elements : Nat → Int64) (M_elementCount : Nat → Int32) (M_stands : Nat → Int64) (M_standsTree : Nat → Int32) (res : Int32) (RET : RT_X9_operatorOf p l e s m args below meth c Q dC dI cI cJ cB cZ A aM M_nodes M_operators M_textSize M_wordCount M_isParsed M_isTaken M_items M_piled M_outSize M_told M_standing M_elements M_elementCount M_stands M_standsTree res) (k2 : Int32 → Int32 → Option (Int32)) (hk2 : ∀ (x1 : Int32) (x2 : Int32), k2 x1 x2 = some res → ∀ (H : Heap) (locs : List Loc), va_P (dC, dI) vwCl [((aM 0), .inr (9, oX9 aM M_nodes M_operators M_textSize M_wordCount M_isParsed M_isTaken M_items M_piled M_outSize M_told M_standing)), ((aM 4), .inl (cJ, 270, .inr (.inl M_elements))), ((aM 5), .inl (cI, 30, .inl M_elementCount)), ((aM 50), .inl (cJ, 760, .inr (.inl M_stands))), ((aM 51), .inl (cI, 760, .inl M_standsTree))] H → va_D A [((aM 0), .inr (9, oX9 aM M_nodes M_operators M_textSize M_wordCount M_isParsed M_isTaken M_items M_piled M_outSize M_told M_standing)), ((aM 4), .inl (cJ, 270, .inr (.inl M_elements))), ((aM 5), .inl (cI, 30, .inl M_elementCount)), ((aM 50), .inl (cJ, 760, .inr (.inl M_stands))), ((aM 51), .inl (cI, 760, .inl M_standsTree))] → va_S A s.heap H locs → ∀ (ls : Array Slot), lv_has ls 5 [(0, .ref (aM 0)), (1, .int x1), (2, .int x2)] → W p l e rm_X9_operatorOf s m args below meth c H locs 0 0 Q (F0 m 2 ls [])) : ∀ (x1 : Int32) (x2 : Int32) (x3 : Int32), m_X9_operatorOf_128 M_operators M_standing M_elements M_elementCount M_stands M_standsTree k2 x1 x2 x3 = some res → ∀ (H : Heap) (locs : List Loc), va_P (dC, dI) vwCl [((aM 0), .inr (9, oX9 aM M_nodes M_operators M_textSize M_wordCount M_isParsed M_isTaken M_items M_piled M_outSize M_told M_standing)), ((aM 4), .inl (cJ, 270, .inr (.inl M_elements))), ((aM 5), .inl (cI, 30, .inl M_elementCount)), ((aM 50), .inl (cJ, 760, .inr (.inl M_stands))), ((aM 51), .inl (cI, 760, .inl M_standsTree))] H → va_D A [((aM 0), .inr (9, oX9 aM M_nodes M_operators M_textSize M_wordCount M_isParsed M_isTaken M_items M_piled M_outSize M_told M_standing)), ((aM 4), .inl (cJ, 270, .inr (.inl M_elements))), ((aM 5), .inl (cI, 30, .inl M_elementCount)), ((aM 50), .inl (cJ, 760, .inr (.inl M_stands))), ((aM 51), .inl (cI, 760, .inl M_standsTree))] → va_S A s.heap H locs → ∀ (ls : Array Slot), lv_has ls 5 [(0, .ref (aM 0)), (1, .int x1), (2, .int x2), (3, .int x3)] → W p l e rm_X9_operatorOf s m args below meth c H locs 0 0 Q (F0 m 128 ls []) := by
  obtain ⟨⟨hx, hb, hml, hown, hts⟩, hr, hlocks⟩ := id C0
  intro x1 x2 x3 hm H locs hP hD hS ls hl
  have hm : (if x3 = 0 then (k2 x1 (x2 + 1)) else (some x2)) = some res := hm
  refine lv_iload_n hx hb dX9_operatorOf_128 rfl (lv_at hl 3 rfl) ?_
  refine lv_if_eq (tgt := 134) hx hb dX9_operatorOf_129 (by decide) (fun c_1 => ?_) (fun c_1 => ?_)
  · have hm := it_some c_1 hm
    refine lv_iinc (v := x2 + 1) (lv' := [(2, .int (x2 + 1)), (0, .ref (aM 0)), (1, .int x1), (3, .int x3)]) hx hb dX9_operatorOf_134 hl (k := 2) rfl rfl (by decide) rfl (fun ls hl => ?_)
    refine lv_goto (tgt := 2) hx hb dX9_operatorOf_137 (by decide) ?_
    exact hk2 x1 (x2 + 1) hm H locs hP hD hS ls (lv_sub hl [1, 2, 0] rfl)
  · have hm := if_some' c_1 hm
    refine lv_iload_n hx hb dX9_operatorOf_132 rfl (lv_at hl 2 rfl) ?_
    exact RET x2 hm _ H locs ls dX9_operatorOf_133 hP hD hS
set_option maxHeartbeats 4000000 in
set_option maxRecDepth 100000 in
theorem k_X9_operatorOf_34 {p : Program} {l : Launch} {e : Env} {s : State} {m : MethodId} {args : Array Value} {below : List Frame} {meth : Method} {c : Code} {Q : State → Prop} {dC : Nat → ClassId} {dI : Nat → Nat → Nat} {cI cJ cB cZ : ClassId} {A : Nat → Prop} (C0 : Cx p s m meth c args cX9_operatorOf 5 (some .int) wsX9_operatorOf RX9) (hK : va_K (dC, dI) vwCl [(cI, .int), (cJ, .long), (cB, .byte), (cZ, .boolean)] s) (hN : NW s) (hA : ∀ q, s.heap.size ≤ q → A q) (aM : Nat → Nat) (M_nodes : Int32) (M_operators : Int32) (M_textSize : Int32) (M_wordCount : Int32) (M_isParsed : Int32) (M_isTaken : Int32) (M_items : Int32) (M_piled : Int32) (M_outSize : Int32) (M_told : Int32) (M_standing : Int32) (M_elements : Nat → Int64) (M_elementCount : Nat → Int32) (M_stands : Nat → Int64) (M_standsTree : Nat → Int32) (res : Int32) (RET : RT_X9_operatorOf p l e s m args below meth c Q dC dI cI cJ cB cZ A aM M_nodes M_operators M_textSize M_wordCount M_isParsed M_isTaken M_items M_piled M_outSize M_told M_standing M_elements M_elementCount M_stands M_standsTree res) (k2 : Int32 → Int32 → Option (Int32)) (hk2 : ∀ (x1 : Int32) (x2 : Int32), k2 x1 x2 = some res → ∀ (H : Heap) (locs : List Loc), va_P (dC, dI) vwCl [((aM 0), .inr (9, oX9 aM M_nodes M_operators M_textSize M_wordCount M_isParsed M_isTaken M_items M_piled M_outSize M_told M_standing)), ((aM 4), .inl (cJ, 270, .inr (.inl M_elements))), ((aM 5), .inl (cI, 30, .inl M_elementCount)), ((aM 50), .inl (cJ, 760, .inr (.inl M_stands))), ((aM 51), .inl (cI, 760, .inl M_standsTree))] H → va_D A [((aM 0), .inr (9, oX9 aM M_nodes M_operators M_textSize M_wordCount M_isParsed M_isTaken M_items M_piled M_outSize M_told M_standing)), ((aM 4), .inl (cJ, 270, .inr (.inl M_elements))), ((aM 5), .inl (cI, 30, .inl M_elementCount)), ((aM 50), .inl (cJ, 760, .inr (.inl M_stands))), ((aM 51), .inl (cI, 760, .inl M_standsTree))] → va_S A s.heap H locs → ∀ (ls : Array Slot), lv_has ls 5 [(0, .ref (aM 0)), (1, .int x1), (2, .int x2)] → W p l e rm_X9_operatorOf s m args below meth c H locs 0 0 Q (F0 m 2 ls [])) : ∀ (n : Nat) (x1 : Int32) (x2 : Int32) (x3 : Int32) (x4 : Int32), m_X9_operatorOf_34 M_operators M_standing M_elements M_elementCount M_stands M_standsTree k2 n x1 x2 x3 x4 = some res → ∀ (H : Heap) (locs : List Loc), va_P (dC, dI) vwCl [((aM 0), .inr (9, oX9 aM M_nodes M_operators M_textSize M_wordCount M_isParsed M_isTaken M_items M_piled M_outSize M_told M_standing)), ((aM 4), .inl (cJ, 270, .inr (.inl M_elements))), ((aM 5), .inl (cI, 30, .inl M_elementCount)), ((aM 50), .inl (cJ, 760, .inr (.inl M_stands))), ((aM 51), .inl (cI, 760, .inl M_standsTree))] H → va_D A [((aM 0), .inr (9, oX9 aM M_nodes M_operators M_textSize M_wordCount M_isParsed M_isTaken M_items M_piled M_outSize M_told M_standing)), ((aM 4), .inl (cJ, 270, .inr (.inl M_elements))), ((aM 5), .inl (cI, 30, .inl M_elementCount)), ((aM 50), .inl (cJ, 760, .inr (.inl M_stands))), ((aM 51), .inl (cI, 760, .inl M_standsTree))] → va_S A s.heap H locs → ∀ (ls : Array Slot), lv_has ls 5 [(0, .ref (aM 0)), (1, .int x1), (2, .int x2), (3, .int x3), (4, .int x4)] → W p l e rm_X9_operatorOf s m args below meth c H locs 0 0 Q (F0 m 34 ls []) := by
  obtain ⟨⟨hx, hb, hml, hown, hts⟩, hr, hlocks⟩ := id C0
  intro n
  induction n with
  | zero =>
    intro x1 x2 x3 x4 hm
    exact absurd hm (by intro h; cases h)
  | succ n ih =>
    intro x1 x2 x3 x4 hm H locs hP hD hS ls hl
    have hm : (gd x2 30 (if (M_elementCount x2.toNatClampNeg) ≤ x4 then (m_X9_operatorOf_128 M_operators M_standing M_elements M_elementCount M_stands M_standsTree k2 x1 x2 x3) else (if x3 = 0 then (m_X9_operatorOf_128 M_operators M_standing M_elements M_elementCount M_stands M_standsTree k2 x1 x2 x3) else (Option.bind (m_X9_isHole M_elements x2 x4) (fun r_5 => if r_5 = 0 then (gd (x1 + x4) 760 (if 0 ≤ (M_standsTree (x1 + x4).toNatClampNeg) then (m_X9_operatorOf_120 M_operators M_standing M_elements M_elementCount M_stands M_standsTree k2 (m_X9_operatorOf_34 M_operators M_standing M_elements M_elementCount M_stands M_standsTree k2 n) x1 x2 x4) else (gd (x1 + x4) 760 (gd ((9 * x2) + x4) 270 (if (lg_cmp (M_stands (x1 + x4).toNatClampNeg) (M_elements ((9 * x2) + x4).toNatClampNeg)) = 0 then (m_X9_operatorOf_121 M_operators M_standing M_elements M_elementCount M_stands M_standsTree k2 (m_X9_operatorOf_34 M_operators M_standing M_elements M_elementCount M_stands M_standsTree k2 n) x1 x2 x4 1) else (m_X9_operatorOf_120 M_operators M_standing M_elements M_elementCount M_stands M_standsTree k2 (m_X9_operatorOf_34 M_operators M_standing M_elements M_elementCount M_stands M_standsTree k2 n) x1 x2 x4)))))) else (gd (x1 + x4) 760 (if (M_standsTree (x1 + x4).toNatClampNeg) < 0 then (m_X9_operatorOf_121 M_operators M_standing M_elements M_elementCount M_stands M_standsTree k2 (m_X9_operatorOf_34 M_operators M_standing M_elements M_elementCount M_stands M_standsTree k2 n) x1 x2 x4 0) else (m_X9_operatorOf_121 M_operators M_standing M_elements M_elementCount M_stands M_standsTree k2 (m_X9_operatorOf_34 M_operators M_standing M_elements M_elementCount M_stands M_standsTree k2 n) x1 x2 x4 1)))))))) = some res := hm
    refine lv_iload hx hb dX9_operatorOf_34 (lv_at hl 4 rfl) ?_
    refine lv_aload_n hx hb dX9_operatorOf_36 rfl (lv_at hl 0 rfl) ?_
    refine va_get (D := (dC, dI)) (ci := 9) (v := .ref (aM 5)) (C := RX9) (T := TX9) (N := 53) hx hb hts X9_operatorOf_inX9 hown hK hP 0 rfl rfl 4 (by decide) (hts (.fieldLink RX9 17 "MixfixDeskModel" "elementCount" "[I") (List.mem_of_getElem? (i := 2) rfl)) (fun _ h9 => h9) rfl dX9_operatorOf_37 ?_
    refine lv_iload_n hx hb dX9_operatorOf_40 rfl (lv_at hl 2 rfl) ?_
    obtain ⟨hi_2, hm⟩ := gd_some hm
    refine va_iald (D := (dC, dI)) hx hb hK hP 2 0 rfl rfl hi_2 dX9_operatorOf_41 ?_
    refine lv_icmp_ge (tgt := 128) hx hb dX9_operatorOf_42 (by decide) (fun c_3 => ?_) (fun c_3 => ?_)
    · have hm := it_some c_3 hm
      exact k_X9_operatorOf_128 C0 hK hN hA aM M_nodes M_operators M_textSize M_wordCount M_isParsed M_isTaken M_items M_piled M_outSize M_told M_standing M_elements M_elementCount M_stands M_standsTree res RET k2 hk2 x1 x2 x3 hm H locs hP hD hS ls (lv_sub hl [0, 1, 2, 3] rfl)
    · have hm := if_some' c_3 hm
      refine lv_iload_n hx hb dX9_operatorOf_45 rfl (lv_at hl 3 rfl) ?_
      refine lv_if_eq (tgt := 128) hx hb dX9_operatorOf_46 (by decide) (fun c_4 => ?_) (fun c_4 => ?_)
      · have hm := it_some c_4 hm
        exact k_X9_operatorOf_128 C0 hK hN hA aM M_nodes M_operators M_textSize M_wordCount M_isParsed M_isTaken M_items M_piled M_outSize M_told M_standing M_elements M_elementCount M_stands M_standsTree res RET k2 hk2 x1 x2 x3 hm H locs hP hD hS ls (lv_sub hl [0, 1, 2, 3] rfl)
      · have hm := if_some' c_4 hm
        refine lv_aload_n hx hb dX9_operatorOf_49 rfl (lv_at hl 0 rfl) ?_
        refine lv_iload_n hx hb dX9_operatorOf_50 rfl (lv_at hl 2 rfl) ?_
        refine lv_iload hx hb dX9_operatorOf_51 (lv_at hl 4 rfl) ?_
        obtain ⟨r_5, hc_6, hm⟩ := ob_some hm
        refine cx_i (wr := [((aM 5), .inl (cI, 30, .inl M_elementCount)), ((aM 50), .inl (cJ, 760, .inr (.inl M_stands))), ((aM 51), .inl (cI, 760, .inl M_standsTree))]) (va_runV (As := [.int x2, .int x4]) (rest := []) C0.1 (c_X9_isHole l dC dI cI cJ cB cZ aM H.size M_nodes M_operators M_textSize M_wordCount M_isParsed M_isTaken M_items M_piled M_outSize M_told M_standing M_elements x2 x4 r_5 hc_6) (cwV 2 hts gX9_operatorOf_X9_isHole rfl rfl rfl (by decide +kernel) ⟨Nat.le_of_ble_eq_true rfl, Nat.le_of_ble_eq_true rfl⟩) (cP_V (ci := 9) (q0 := 0) hK hN hP hD rfl rfl [0, 1] (by decide) rfl) rfl rfl hl.1 rfl (lv_room (Nat.le_of_ble_eq_true rfl)) dX9_operatorOf_53 ⟨Nat.le_of_ble_eq_true rfl, Nat.le_of_ble_eq_true rfl⟩) hP hD hS hA [0, 1] [2, 3, 4] rfl rfl (by decide) (by decide) (fun H locs hP hD hS => ?_)
        have hP : va_P (dC, dI) vwCl [((aM 5), .inl (cI, 30, .inl M_elementCount)), ((aM 50), .inl (cJ, 760, .inr (.inl M_stands))), ((aM 51), .inl (cI, 760, .inl M_standsTree)), ((aM 0), .inr (9, oX9 aM M_nodes M_operators M_textSize M_wordCount M_isParsed M_isTaken M_items M_piled M_outSize M_told M_standing)), ((aM 4), .inl (cJ, 270, .inr (.inl M_elements)))] H := hP
        have hD : va_D A [((aM 5), .inl (cI, 30, .inl M_elementCount)), ((aM 50), .inl (cJ, 760, .inr (.inl M_stands))), ((aM 51), .inl (cI, 760, .inl M_standsTree)), ((aM 0), .inr (9, oX9 aM M_nodes M_operators M_textSize M_wordCount M_isParsed M_isTaken M_items M_piled M_outSize M_told M_standing)), ((aM 4), .inl (cJ, 270, .inr (.inl M_elements)))] := hD
        refine lv_if_eq (tgt := 79) hx hb dX9_operatorOf_56 (by decide) (fun c_7 => ?_) (fun c_7 => ?_)
        · have hm := it_some c_7 hm
          refine lv_aload_n hx hb dX9_operatorOf_79 rfl (lv_at hl 0 rfl) ?_
          refine va_get (D := (dC, dI)) (ci := 9) (v := .ref (aM 51)) (C := RX9) (T := TX9) (N := 53) hx hb hts X9_operatorOf_inX9 hown hK hP 3 rfl rfl 50 (by decide) (hts (.fieldLink RX9 135 "MixfixDeskModel" "standsTree" "[I") (List.mem_of_getElem? (i := 4) rfl)) (fun _ h9 => h9) rfl dX9_operatorOf_80 ?_
          refine lv_iload_n hx hb dX9_operatorOf_83 rfl (lv_at hl 1 rfl) ?_
          refine lv_iload hx hb dX9_operatorOf_84 (lv_at hl 4 rfl) ?_
          refine lv_iadd hx hb dX9_operatorOf_86 ?_
          obtain ⟨hi_8, hm⟩ := gd_some hm
          refine va_iald (D := (dC, dI)) hx hb hK hP 2 0 rfl rfl hi_8 dX9_operatorOf_87 ?_
          refine lv_if_ge (tgt := 120) hx hb dX9_operatorOf_88 (by decide) (fun c_9 => ?_) (fun c_9 => ?_)
          · have hm := it_some c_9 hm
            exact k_X9_operatorOf_120 C0 hK hN hA aM M_nodes M_operators M_textSize M_wordCount M_isParsed M_isTaken M_items M_piled M_outSize M_told M_standing M_elements M_elementCount M_stands M_standsTree res RET k2 (m_X9_operatorOf_34 M_operators M_standing M_elements M_elementCount M_stands M_standsTree k2 n) hk2 ih x1 x2 x4 hm H locs (P_sub' hP [3, 4, 0, 1, 2] rfl) (hD.sub [3, 4, 0, 1, 2] (by decide) rfl) hS ls (lv_sub hl [0, 1, 2, 4] rfl)
          · have hm := if_some' c_9 hm
            refine lv_aload_n hx hb dX9_operatorOf_91 rfl (lv_at hl 0 rfl) ?_
            refine va_get (D := (dC, dI)) (ci := 9) (v := .ref (aM 50)) (C := RX9) (T := TX9) (N := 53) hx hb hts X9_operatorOf_inX9 hown hK hP 3 rfl rfl 49 (by decide) (hts (.fieldLink RX9 132 "MixfixDeskModel" "stands" "[J") (List.mem_of_getElem? (i := 5) rfl)) (fun _ h9 => h9) rfl dX9_operatorOf_92 ?_
            refine lv_iload_n hx hb dX9_operatorOf_95 rfl (lv_at hl 1 rfl) ?_
            refine lv_iload hx hb dX9_operatorOf_96 (lv_at hl 4 rfl) ?_
            refine lv_iadd hx hb dX9_operatorOf_98 ?_
            obtain ⟨hi_10, hm⟩ := gd_some hm
            refine va_lald (D := (dC, dI)) hx hb hK hP 1 1 rfl rfl hi_10 dX9_operatorOf_99 ?_
            refine lv_aload_n hx hb dX9_operatorOf_100 rfl (lv_at hl 0 rfl) ?_
            refine va_get (D := (dC, dI)) (ci := 9) (v := .ref (aM 4)) (C := RX9) (T := TX9) (N := 53) hx hb hts X9_operatorOf_inX9 hown hK hP 3 rfl rfl 3 (by decide) (hts (.fieldLink RX9 13 "MixfixDeskModel" "elements" "[J") (List.mem_of_getElem? (i := 6) rfl)) (fun _ h9 => h9) rfl dX9_operatorOf_101 ?_
            refine lv_bipush (v := 9) hx hb dX9_operatorOf_104 (by decide) ?_
            refine lv_iload_n hx hb dX9_operatorOf_106 rfl (lv_at hl 2 rfl) ?_
            refine lv_imul hx hb dX9_operatorOf_107 ?_
            refine lv_iload hx hb dX9_operatorOf_108 (lv_at hl 4 rfl) ?_
            refine lv_iadd hx hb dX9_operatorOf_110 ?_
            obtain ⟨hi_11, hm⟩ := gd_some hm
            refine va_lald (D := (dC, dI)) hx hb hK hP 4 1 rfl rfl hi_11 dX9_operatorOf_111 ?_
            refine W.lcmp hx hb dX9_operatorOf_112 ?_
            refine lv_if_ne (tgt := 120) hx hb dX9_operatorOf_113 (by decide) (fun c_12 => ?_) (fun c_12 => ?_)
            · have hm := if_some' c_12 hm
              exact k_X9_operatorOf_120 C0 hK hN hA aM M_nodes M_operators M_textSize M_wordCount M_isParsed M_isTaken M_items M_piled M_outSize M_told M_standing M_elements M_elementCount M_stands M_standsTree res RET k2 (m_X9_operatorOf_34 M_operators M_standing M_elements M_elementCount M_stands M_standsTree k2 n) hk2 ih x1 x2 x4 hm H locs (P_sub' hP [3, 4, 0, 1, 2] rfl) (hD.sub [3, 4, 0, 1, 2] (by decide) rfl) hS ls (lv_sub hl [0, 1, 2, 4] rfl)
            · have hm := it_some c_12 hm
              refine lv_iconst (v := 1) hx hb dX9_operatorOf_116 (by decide) ?_
              refine lv_goto (tgt := 121) hx hb dX9_operatorOf_117 (by decide) ?_
              exact k_X9_operatorOf_121 C0 hK hN hA aM M_nodes M_operators M_textSize M_wordCount M_isParsed M_isTaken M_items M_piled M_outSize M_told M_standing M_elements M_elementCount M_stands M_standsTree res RET k2 (m_X9_operatorOf_34 M_operators M_standing M_elements M_elementCount M_stands M_standsTree k2 n) hk2 ih x1 x2 x4 1 hm H locs (P_sub' hP [3, 4, 0, 1, 2] rfl) (hD.sub [3, 4, 0, 1, 2] (by decide) rfl) hS ls (lv_sub hl [0, 1, 2, 4] rfl)
        · have hm := if_some' c_7 hm
          refine lv_aload_n hx hb dX9_operatorOf_59 rfl (lv_at hl 0 rfl) ?_
          refine va_get (D := (dC, dI)) (ci := 9) (v := .ref (aM 51)) (C := RX9) (T := TX9) (N := 53) hx hb hts X9_operatorOf_inX9 hown hK hP 3 rfl rfl 50 (by decide) (hts (.fieldLink RX9 135 "MixfixDeskModel" "standsTree" "[I") (List.mem_of_getElem? (i := 4) rfl)) (fun _ h9 => h9) rfl dX9_operatorOf_60 ?_
          refine lv_iload_n hx hb dX9_operatorOf_63 rfl (lv_at hl 1 rfl) ?_
          refine lv_iload hx hb dX9_operatorOf_64 (lv_at hl 4 rfl) ?_
          refine lv_iadd hx hb dX9_operatorOf_66 ?_
          obtain ⟨hi_13, hm⟩ := gd_some hm
          refine va_iald (D := (dC, dI)) hx hb hK hP 2 0 rfl rfl hi_13 dX9_operatorOf_67 ?_
          refine lv_if_lt (tgt := 75) hx hb dX9_operatorOf_68 (by decide) (fun c_14 => ?_) (fun c_14 => ?_)
          · have hm := it_some c_14 hm
            refine lv_iconst (v := 0) hx hb dX9_operatorOf_75 (by decide) ?_
            refine lv_goto (tgt := 121) hx hb dX9_operatorOf_76 (by decide) ?_
            exact k_X9_operatorOf_121 C0 hK hN hA aM M_nodes M_operators M_textSize M_wordCount M_isParsed M_isTaken M_items M_piled M_outSize M_told M_standing M_elements M_elementCount M_stands M_standsTree res RET k2 (m_X9_operatorOf_34 M_operators M_standing M_elements M_elementCount M_stands M_standsTree k2 n) hk2 ih x1 x2 x4 0 hm H locs (P_sub' hP [3, 4, 0, 1, 2] rfl) (hD.sub [3, 4, 0, 1, 2] (by decide) rfl) hS ls (lv_sub hl [0, 1, 2, 4] rfl)
          · have hm := if_some' c_14 hm
            refine lv_iconst (v := 1) hx hb dX9_operatorOf_71 (by decide) ?_
            refine lv_goto (tgt := 121) hx hb dX9_operatorOf_72 (by decide) ?_
            exact k_X9_operatorOf_121 C0 hK hN hA aM M_nodes M_operators M_textSize M_wordCount M_isParsed M_isTaken M_items M_piled M_outSize M_told M_standing M_elements M_elementCount M_stands M_standsTree res RET k2 (m_X9_operatorOf_34 M_operators M_standing M_elements M_elementCount M_stands M_standsTree k2 n) hk2 ih x1 x2 x4 1 hm H locs (P_sub' hP [3, 4, 0, 1, 2] rfl) (hD.sub [3, 4, 0, 1, 2] (by decide) rfl) hS ls (lv_sub hl [0, 1, 2, 4] rfl)
set_option maxHeartbeats 4000000 in
set_option maxRecDepth 100000 in
theorem k_X9_operatorOf_30 {p : Program} {l : Launch} {e : Env} {s : State} {m : MethodId} {args : Array Value} {below : List Frame} {meth : Method} {c : Code} {Q : State → Prop} {dC : Nat → ClassId} {dI : Nat → Nat → Nat} {cI cJ cB cZ : ClassId} {A : Nat → Prop} (C0 : Cx p s m meth c args cX9_operatorOf 5 (some .int) wsX9_operatorOf RX9) (hK : va_K (dC, dI) vwCl [(cI, .int), (cJ, .long), (cB, .byte), (cZ, .boolean)] s) (hN : NW s) (hA : ∀ q, s.heap.size ≤ q → A q) (aM : Nat → Nat) (M_nodes : Int32) (M_operators : Int32) (M_textSize : Int32) (M_wordCount : Int32) (M_isParsed : Int32) (M_isTaken : Int32) (M_items : Int32) (M_piled : Int32) (M_outSize : Int32) (M_told : Int32) (M_standing : Int32) (M_elements : Nat → Int64) (M_elementCount : Nat → Int32) (M_stands : Nat → Int64) (M_standsTree : Nat → Int32) (res : Int32) (RET : RT_X9_operatorOf p l e s m args below meth c Q dC dI cI cJ cB cZ A aM M_nodes M_operators M_textSize M_wordCount M_isParsed M_isTaken M_items M_piled M_outSize M_told M_standing M_elements M_elementCount M_stands M_standsTree res) (k2 : Int32 → Int32 → Option (Int32)) (hk2 : ∀ (x1 : Int32) (x2 : Int32), k2 x1 x2 = some res → ∀ (H : Heap) (locs : List Loc), va_P (dC, dI) vwCl [((aM 0), .inr (9, oX9 aM M_nodes M_operators M_textSize M_wordCount M_isParsed M_isTaken M_items M_piled M_outSize M_told M_standing)), ((aM 4), .inl (cJ, 270, .inr (.inl M_elements))), ((aM 5), .inl (cI, 30, .inl M_elementCount)), ((aM 50), .inl (cJ, 760, .inr (.inl M_stands))), ((aM 51), .inl (cI, 760, .inl M_standsTree))] H → va_D A [((aM 0), .inr (9, oX9 aM M_nodes M_operators M_textSize M_wordCount M_isParsed M_isTaken M_items M_piled M_outSize M_told M_standing)), ((aM 4), .inl (cJ, 270, .inr (.inl M_elements))), ((aM 5), .inl (cI, 30, .inl M_elementCount)), ((aM 50), .inl (cJ, 760, .inr (.inl M_stands))), ((aM 51), .inl (cI, 760, .inl M_standsTree))] → va_S A s.heap H locs → ∀ (ls : Array Slot), lv_has ls 5 [(0, .ref (aM 0)), (1, .int x1), (2, .int x2)] → W p l e rm_X9_operatorOf s m args below meth c H locs 0 0 Q (F0 m 2 ls [])) : ∀ (x1 : Int32) (x2 : Int32) (y0 : Int32), m_X9_operatorOf_30 M_operators M_standing M_elements M_elementCount M_stands M_standsTree k2 x1 x2 y0 = some res → ∀ (H : Heap) (locs : List Loc), va_P (dC, dI) vwCl [((aM 0), .inr (9, oX9 aM M_nodes M_operators M_textSize M_wordCount M_isParsed M_isTaken M_items M_piled M_outSize M_told M_standing)), ((aM 4), .inl (cJ, 270, .inr (.inl M_elements))), ((aM 5), .inl (cI, 30, .inl M_elementCount)), ((aM 50), .inl (cJ, 760, .inr (.inl M_stands))), ((aM 51), .inl (cI, 760, .inl M_standsTree))] H → va_D A [((aM 0), .inr (9, oX9 aM M_nodes M_operators M_textSize M_wordCount M_isParsed M_isTaken M_items M_piled M_outSize M_told M_standing)), ((aM 4), .inl (cJ, 270, .inr (.inl M_elements))), ((aM 5), .inl (cI, 30, .inl M_elementCount)), ((aM 50), .inl (cJ, 760, .inr (.inl M_stands))), ((aM 51), .inl (cI, 760, .inl M_standsTree))] → va_S A s.heap H locs → ∀ (ls : Array Slot), lv_has ls 5 [(0, .ref (aM 0)), (1, .int x1), (2, .int x2)] → W p l e rm_X9_operatorOf s m args below meth c H locs 0 0 Q (F0 m 30 ls [.int y0]) := by
  obtain ⟨⟨hx, hb, hml, hown, hts⟩, hr, hlocks⟩ := id C0
  intro x1 x2 y0 hm H locs hP hD hS ls hl
  have hm : (m_X9_operatorOf_34 M_operators M_standing M_elements M_elementCount M_stands M_standsTree k2 FU x1 x2 y0 0) = some res := hm
  refine lv_istore_n (lv' := [(3, .int y0), (0, .ref (aM 0)), (1, .int x1), (2, .int x2)]) hx hb dX9_operatorOf_30 rfl hl (by decide) rfl (fun ls hl => ?_)
  refine lv_iconst (v := 0) hx hb dX9_operatorOf_31 (by decide) ?_
  refine lv_istore (lv' := [(4, .int 0), (3, .int y0), (0, .ref (aM 0)), (1, .int x1), (2, .int x2)]) hx hb dX9_operatorOf_32 hl (by decide) rfl (fun ls hl => ?_)
  exact k_X9_operatorOf_34 C0 hK hN hA aM M_nodes M_operators M_textSize M_wordCount M_isParsed M_isTaken M_items M_piled M_outSize M_told M_standing M_elements M_elementCount M_stands M_standsTree res RET k2 hk2 FU x1 x2 y0 0 hm H locs hP hD hS ls (lv_sub hl [2, 3, 4, 1, 0] rfl)
set_option maxHeartbeats 4000000 in
set_option maxRecDepth 100000 in
theorem k_X9_operatorOf_2 {p : Program} {l : Launch} {e : Env} {s : State} {m : MethodId} {args : Array Value} {below : List Frame} {meth : Method} {c : Code} {Q : State → Prop} {dC : Nat → ClassId} {dI : Nat → Nat → Nat} {cI cJ cB cZ : ClassId} {A : Nat → Prop} (C0 : Cx p s m meth c args cX9_operatorOf 5 (some .int) wsX9_operatorOf RX9) (hK : va_K (dC, dI) vwCl [(cI, .int), (cJ, .long), (cB, .byte), (cZ, .boolean)] s) (hN : NW s) (hA : ∀ q, s.heap.size ≤ q → A q) (aM : Nat → Nat) (M_nodes : Int32) (M_operators : Int32) (M_textSize : Int32) (M_wordCount : Int32) (M_isParsed : Int32) (M_isTaken : Int32) (M_items : Int32) (M_piled : Int32) (M_outSize : Int32) (M_told : Int32) (M_standing : Int32) (M_elements : Nat → Int64) (M_elementCount : Nat → Int32) (M_stands : Nat → Int64) (M_standsTree : Nat → Int32) (res : Int32) (RET : RT_X9_operatorOf p l e s m args below meth c Q dC dI cI cJ cB cZ A aM M_nodes M_operators M_textSize M_wordCount M_isParsed M_isTaken M_items M_piled M_outSize M_told M_standing M_elements M_elementCount M_stands M_standsTree res)   : ∀ (n : Nat) (x1 : Int32) (x2 : Int32), m_X9_operatorOf_2 M_operators M_standing M_elements M_elementCount M_stands M_standsTree n x1 x2 = some res → ∀ (H : Heap) (locs : List Loc), va_P (dC, dI) vwCl [((aM 0), .inr (9, oX9 aM M_nodes M_operators M_textSize M_wordCount M_isParsed M_isTaken M_items M_piled M_outSize M_told M_standing)), ((aM 4), .inl (cJ, 270, .inr (.inl M_elements))), ((aM 5), .inl (cI, 30, .inl M_elementCount)), ((aM 50), .inl (cJ, 760, .inr (.inl M_stands))), ((aM 51), .inl (cI, 760, .inl M_standsTree))] H → va_D A [((aM 0), .inr (9, oX9 aM M_nodes M_operators M_textSize M_wordCount M_isParsed M_isTaken M_items M_piled M_outSize M_told M_standing)), ((aM 4), .inl (cJ, 270, .inr (.inl M_elements))), ((aM 5), .inl (cI, 30, .inl M_elementCount)), ((aM 50), .inl (cJ, 760, .inr (.inl M_stands))), ((aM 51), .inl (cI, 760, .inl M_standsTree))] → va_S A s.heap H locs → ∀ (ls : Array Slot), lv_has ls 5 [(0, .ref (aM 0)), (1, .int x1), (2, .int x2)] → W p l e rm_X9_operatorOf s m args below meth c H locs 0 0 Q (F0 m 2 ls []) := by
  obtain ⟨⟨hx, hb, hml, hown, hts⟩, hr, hlocks⟩ := id C0
  intro n
  induction n with
  | zero =>
    intro x1 x2 hm
    exact absurd hm (by intro h; cases h)
  | succ n ih =>
    intro x1 x2 hm H locs hP hD hS ls hl
    have hm : (if M_operators ≤ x2 then (some (-1)) else (gd x2 30 (if (M_elementCount x2.toNatClampNeg) = (M_standing - x1) then (m_X9_operatorOf_30 M_operators M_standing M_elements M_elementCount M_stands M_standsTree (m_X9_operatorOf_2 M_operators M_standing M_elements M_elementCount M_stands M_standsTree n) x1 x2 1) else (m_X9_operatorOf_30 M_operators M_standing M_elements M_elementCount M_stands M_standsTree (m_X9_operatorOf_2 M_operators M_standing M_elements M_elementCount M_stands M_standsTree n) x1 x2 0)))) = some res := hm
    refine lv_iload_n hx hb dX9_operatorOf_2 rfl (lv_at hl 2 rfl) ?_
    refine lv_aload_n hx hb dX9_operatorOf_3 rfl (lv_at hl 0 rfl) ?_
    refine va_get (D := (dC, dI)) (ci := 9) (v := .int M_operators) (C := RX9) (T := TX9) (N := 53) hx hb hts X9_operatorOf_inX9 hown hK hP 0 rfl rfl 2 (by decide) (hts (.fieldLink RX9 151 "MixfixDeskModel" "operators" "I") (List.mem_of_getElem? (i := 1) rfl)) (fun _ h9 => h9) rfl dX9_operatorOf_4 ?_
    refine lv_icmp_ge (tgt := 140) hx hb dX9_operatorOf_7 (by decide) (fun c_15 => ?_) (fun c_15 => ?_)
    · have hm := it_some c_15 hm
      refine lv_iconst (v := (-1)) hx hb dX9_operatorOf_140 (by decide) ?_
      exact RET (-1) hm _ H locs ls dX9_operatorOf_141 hP hD hS
    · have hm := if_some' c_15 hm
      refine lv_aload_n hx hb dX9_operatorOf_10 rfl (lv_at hl 0 rfl) ?_
      refine va_get (D := (dC, dI)) (ci := 9) (v := .ref (aM 5)) (C := RX9) (T := TX9) (N := 53) hx hb hts X9_operatorOf_inX9 hown hK hP 0 rfl rfl 4 (by decide) (hts (.fieldLink RX9 17 "MixfixDeskModel" "elementCount" "[I") (List.mem_of_getElem? (i := 2) rfl)) (fun _ h9 => h9) rfl dX9_operatorOf_11 ?_
      refine lv_iload_n hx hb dX9_operatorOf_14 rfl (lv_at hl 2 rfl) ?_
      obtain ⟨hi_16, hm⟩ := gd_some hm
      refine va_iald (D := (dC, dI)) hx hb hK hP 2 0 rfl rfl hi_16 dX9_operatorOf_15 ?_
      refine lv_aload_n hx hb dX9_operatorOf_16 rfl (lv_at hl 0 rfl) ?_
      refine va_get (D := (dC, dI)) (ci := 9) (v := .int M_standing) (C := RX9) (T := TX9) (N := 53) hx hb hts X9_operatorOf_inX9 hown hK hP 0 rfl rfl 52 (by decide) (hts (.fieldLink RX9 281 "MixfixDeskModel" "standing" "I") (List.mem_of_getElem? (i := 3) rfl)) (fun _ h9 => h9) rfl dX9_operatorOf_17 ?_
      refine lv_iload_n hx hb dX9_operatorOf_20 rfl (lv_at hl 1 rfl) ?_
      refine lv_isub hx hb dX9_operatorOf_21 ?_
      refine lv_icmp_ne (tgt := 29) hx hb dX9_operatorOf_22 (by decide) (fun c_17 => ?_) (fun c_17 => ?_)
      · have hm := if_some' c_17 hm
        refine lv_iconst (v := 0) hx hb dX9_operatorOf_29 (by decide) ?_
        exact k_X9_operatorOf_30 C0 hK hN hA aM M_nodes M_operators M_textSize M_wordCount M_isParsed M_isTaken M_items M_piled M_outSize M_told M_standing M_elements M_elementCount M_stands M_standsTree res RET (m_X9_operatorOf_2 M_operators M_standing M_elements M_elementCount M_stands M_standsTree n) ih x1 x2 0 hm H locs hP hD hS ls hl
      · have hm := it_some c_17 hm
        refine lv_iconst (v := 1) hx hb dX9_operatorOf_25 (by decide) ?_
        refine lv_goto (tgt := 30) hx hb dX9_operatorOf_26 (by decide) ?_
        exact k_X9_operatorOf_30 C0 hK hN hA aM M_nodes M_operators M_textSize M_wordCount M_isParsed M_isTaken M_items M_piled M_outSize M_told M_standing M_elements M_elementCount M_stands M_standsTree res RET (m_X9_operatorOf_2 M_operators M_standing M_elements M_elementCount M_stands M_standsTree n) ih x1 x2 1 hm H locs hP hD hS ls hl
set_option maxHeartbeats 4000000 in
set_option maxRecDepth 100000 in
theorem k_X9_operatorOf_E {p : Program} {l : Launch} {e : Env} {s : State} {m : MethodId} {args : Array Value} {below : List Frame} {meth : Method} {c : Code} {Q : State → Prop} {dC : Nat → ClassId} {dI : Nat → Nat → Nat} {cI cJ cB cZ : ClassId} {A : Nat → Prop} (C0 : Cx p s m meth c args cX9_operatorOf 5 (some .int) wsX9_operatorOf RX9) (hK : va_K (dC, dI) vwCl [(cI, .int), (cJ, .long), (cB, .byte), (cZ, .boolean)] s) (hN : NW s) (hA : ∀ q, s.heap.size ≤ q → A q) (aM : Nat → Nat) (M_nodes : Int32) (M_operators : Int32) (M_textSize : Int32) (M_wordCount : Int32) (M_isParsed : Int32) (M_isTaken : Int32) (M_items : Int32) (M_piled : Int32) (M_outSize : Int32) (M_told : Int32) (M_standing : Int32) (M_elements : Nat → Int64) (M_elementCount : Nat → Int32) (M_stands : Nat → Int64) (M_standsTree : Nat → Int32) (res : Int32) (RET : RT_X9_operatorOf p l e s m args below meth c Q dC dI cI cJ cB cZ A aM M_nodes M_operators M_textSize M_wordCount M_isParsed M_isTaken M_items M_piled M_outSize M_told M_standing M_elements M_elementCount M_stands M_standsTree res) : ∀ (p0 : Int32), m_X9_operatorOf M_operators M_elements M_elementCount M_stands M_standsTree M_standing p0 = some res → ∀ (H : Heap) (locs : List Loc), va_P (dC, dI) vwCl [((aM 0), .inr (9, oX9 aM M_nodes M_operators M_textSize M_wordCount M_isParsed M_isTaken M_items M_piled M_outSize M_told M_standing)), ((aM 4), .inl (cJ, 270, .inr (.inl M_elements))), ((aM 5), .inl (cI, 30, .inl M_elementCount)), ((aM 50), .inl (cJ, 760, .inr (.inl M_stands))), ((aM 51), .inl (cI, 760, .inl M_standsTree))] H → va_D A [((aM 0), .inr (9, oX9 aM M_nodes M_operators M_textSize M_wordCount M_isParsed M_isTaken M_items M_piled M_outSize M_told M_standing)), ((aM 4), .inl (cJ, 270, .inr (.inl M_elements))), ((aM 5), .inl (cI, 30, .inl M_elementCount)), ((aM 50), .inl (cJ, 760, .inr (.inl M_stands))), ((aM 51), .inl (cI, 760, .inl M_standsTree))] → va_S A s.heap H locs → ∀ (ls : Array Slot), lv_has ls 5 [(0, .ref (aM 0)), (1, .int p0)] → W p l e rm_X9_operatorOf s m args below meth c H locs 0 0 Q (F0 m 0 ls []) := by
  obtain ⟨⟨hx, hb, hml, hown, hts⟩, hr, hlocks⟩ := id C0
  intro p0 hm H locs hP hD hS ls hl
  have hm : (m_X9_operatorOf_2 M_operators M_standing M_elements M_elementCount M_stands M_standsTree FU p0 0) = some res := hm
  refine lv_iconst (v := 0) hx hb dX9_operatorOf_0 (by decide) ?_
  refine lv_istore_n (lv' := [(2, .int 0), (0, .ref (aM 0)), (1, .int p0)]) hx hb dX9_operatorOf_1 rfl hl (by decide) rfl (fun ls hl => ?_)
  exact k_X9_operatorOf_2 C0 hK hN hA aM M_nodes M_operators M_textSize M_wordCount M_isParsed M_isTaken M_items M_piled M_outSize M_told M_standing M_elements M_elementCount M_stands M_standsTree res RET FU p0 0 hm H locs hP hD hS ls (lv_sub hl [1, 2, 0] rfl)
set_option maxHeartbeats 4000000 in
set_option maxRecDepth 100000 in
theorem c_X9_operatorOf (l : Launch) (dC : Nat → ClassId) (dI : Nat → Nat → Nat) (cI cJ cB cZ : ClassId) (aM : Nat → Nat) (sz : Nat) (M_nodes : Int32) (M_operators : Int32) (M_textSize : Int32) (M_wordCount : Int32) (M_isParsed : Int32) (M_isTaken : Int32) (M_items : Int32) (M_piled : Int32) (M_outSize : Int32) (M_told : Int32) (M_standing : Int32) (M_elements : Nat → Int64) (M_elementCount : Nat → Int32) (M_stands : Nat → Int64) (M_standsTree : Nat → Int32) (p0 : Int32) (res : Int32) (hm : m_X9_operatorOf M_operators M_elements M_elementCount M_stands M_standsTree M_standing p0 = some res) : Met l yX9_operatorOf wsX9_operatorOf rm_X9_operatorOf (cP (dC, dI) vwCl [(cI, .int), (cJ, .long), (cB, .byte), (cZ, .boolean)] [.ref (aM 0), .int p0] [((aM 0), .inr (9, oX9 aM M_nodes M_operators M_textSize M_wordCount M_isParsed M_isTaken M_items M_piled M_outSize M_told M_standing)), ((aM 4), .inl (cJ, 270, .inr (.inl M_elements))), ((aM 5), .inl (cI, 30, .inl M_elementCount)), ((aM 50), .inl (cJ, 760, .inr (.inl M_stands))), ((aM 51), .inl (cI, 760, .inl M_standsTree))] sz) (cQi res (dC, dI) vwCl [((aM 0), .inr (9, oX9 aM M_nodes M_operators M_textSize M_wordCount M_isParsed M_isTaken M_items M_piled M_outSize M_told M_standing)), ((aM 4), .inl (cJ, 270, .inr (.inl M_elements))), ((aM 5), .inl (cI, 30, .inl M_elementCount)), ((aM 50), .inl (cJ, 760, .inr (.inl M_stands))), ((aM 51), .inl (cI, 760, .inl M_standsTree))] [((aM 0), .inr (9, oX9 aM M_nodes M_operators M_textSize M_wordCount M_isParsed M_isTaken M_items M_piled M_outSize M_told M_standing)), ((aM 4), .inl (cJ, 270, .inr (.inl M_elements))), ((aM 5), .inl (cI, 30, .inl M_elementCount)), ((aM 50), .inl (cJ, 760, .inr (.inl M_stands))), ((aM 51), .inl (cI, 760, .inl M_standsTree))] sz) 0 0 (va_A [((aM 0), .inr (9, oX9 aM M_nodes M_operators M_textSize M_wordCount M_isParsed M_isTaken M_items M_piled M_outSize M_told M_standing)), ((aM 4), .inl (cJ, 270, .inr (.inl M_elements))), ((aM 5), .inl (cI, 30, .inl M_elementCount)), ((aM 50), .inl (cJ, 760, .inr (.inl M_stands))), ((aM 51), .inl (cI, 760, .inl M_standsTree))] sz) := by
  refine cx_of (cc := cX9_operatorOf) (maxL := 5) (ret := (some .int)) (own := RX9) (by decide) rfl rfl (Nat.le_of_ble_eq_true rfl) ?_
  intro p e s m below meth c A C0 hinN hK hN hsz hAe hA hP hD hS ls hl
  refine k_X9_operatorOf_E C0 hK hN hA aM M_nodes M_operators M_textSize M_wordCount M_isParsed M_isTaken M_items M_piled M_outSize M_told M_standing M_elements M_elementCount M_stands M_standsTree res ?_ p0 hm _ _ hP hD hS ls hl
  intro v he pc H locs ls hdg hP hD hS
  have he := Option.some.inj he
  subst he
  exact cx_reti C0 hsz hAe hdg hP hD hS

