theorem dX9_count_0 : decode cX9_count 0 = .ok (.iload_n 1, 1) := by decide +kernel
theorem dX9_count_1 : decode cX9_count 1 = .ok (.tableswitch 95 0 3 #[31, 36, 41, 77], 31) := by decide +kernel
theorem dX9_count_32 : decode cX9_count 32 = .ok (.aload_n 0, 1) := by decide +kernel
theorem dX9_count_33 : decode cX9_count 33 = .ok (.getfield 141, 3) := by decide +kernel
theorem dX9_count_36 : decode cX9_count 36 = .ok (.ireturn, 1) := by decide +kernel
theorem dX9_count_37 : decode cX9_count 37 = .ok (.aload_n 0, 1) := by decide +kernel
theorem dX9_count_38 : decode cX9_count 38 = .ok (.getfield 151, 3) := by decide +kernel
theorem dX9_count_41 : decode cX9_count 41 = .ok (.ireturn, 1) := by decide +kernel
theorem dX9_count_42 : decode cX9_count 42 = .ok (.iconst 0, 1) := by decide +kernel
theorem dX9_count_43 : decode cX9_count 43 = .ok (.istore_n 2, 1) := by decide +kernel
theorem dX9_count_44 : decode cX9_count 44 = .ok (.iconst 0, 1) := by decide +kernel
theorem dX9_count_45 : decode cX9_count 45 = .ok (.istore_n 3, 1) := by decide +kernel
theorem dX9_count_46 : decode cX9_count 46 = .ok (.iload_n 3, 1) := by decide +kernel
theorem dX9_count_47 : decode cX9_count 47 = .ok (.sipush 256, 3) := by decide +kernel
theorem dX9_count_50 : decode cX9_count 50 = .ok (.if_icmp .ge 26, 3) := by decide +kernel
theorem dX9_count_53 : decode cX9_count 53 = .ok (.iload_n 2, 1) := by decide +kernel
theorem dX9_count_54 : decode cX9_count 54 = .ok (.aload_n 0, 1) := by decide +kernel
theorem dX9_count_55 : decode cX9_count 55 = .ok (.getfield 7, 3) := by decide +kernel
theorem dX9_count_58 : decode cX9_count 58 = .ok (.iload_n 3, 1) := by decide +kernel
theorem dX9_count_59 : decode cX9_count 59 = .ok (.baload, 1) := by decide +kernel
theorem dX9_count_60 : decode cX9_count 60 = .ok (.ifCond .eq 7, 3) := by decide +kernel
theorem dX9_count_63 : decode cX9_count 63 = .ok (.iconst 1, 1) := by decide +kernel
theorem dX9_count_64 : decode cX9_count 64 = .ok (.goto 4, 3) := by decide +kernel
theorem dX9_count_67 : decode cX9_count 67 = .ok (.iconst 0, 1) := by decide +kernel
theorem dX9_count_68 : decode cX9_count 68 = .ok (.iadd, 1) := by decide +kernel
theorem dX9_count_69 : decode cX9_count 69 = .ok (.istore_n 2, 1) := by decide +kernel
theorem dX9_count_70 : decode cX9_count 70 = .ok (.iinc 3 1, 3) := by decide +kernel
theorem dX9_count_73 : decode cX9_count 73 = .ok (.goto (-27), 3) := by decide +kernel
theorem dX9_count_76 : decode cX9_count 76 = .ok (.iload_n 2, 1) := by decide +kernel
theorem dX9_count_77 : decode cX9_count 77 = .ok (.ireturn, 1) := by decide +kernel
theorem dX9_count_78 : decode cX9_count 78 = .ok (.aload_n 0, 1) := by decide +kernel
theorem dX9_count_79 : decode cX9_count 79 = .ok (.getfield 215, 3) := by decide +kernel
theorem dX9_count_82 : decode cX9_count 82 = .ok (.ifCond .eq 12, 3) := by decide +kernel
theorem dX9_count_85 : decode cX9_count 85 = .ok (.aload_n 0, 1) := by decide +kernel
theorem dX9_count_86 : decode cX9_count 86 = .ok (.getfield 39, 3) := by decide +kernel
theorem dX9_count_89 : decode cX9_count 89 = .ok (.iconst 0, 1) := by decide +kernel
theorem dX9_count_90 : decode cX9_count 90 = .ok (.iaload, 1) := by decide +kernel
theorem dX9_count_91 : decode cX9_count 91 = .ok (.goto 4, 3) := by decide +kernel
theorem dX9_count_94 : decode cX9_count 94 = .ok (.iconst 0, 1) := by decide +kernel
theorem dX9_count_95 : decode cX9_count 95 = .ok (.ireturn, 1) := by decide +kernel
theorem dX9_count_96 : decode cX9_count 96 = .ok (.bipush (-2), 2) := by decide +kernel
theorem dX9_count_98 : decode cX9_count 98 = .ok (.ireturn, 1) := by decide +kernel
/-! MixfixDeskModel.count(I)I -/
abbrev rm_X9_count : Room := { frames := 0, cells := 0, slots := 0, locals := 0 }
theorem X9_count_inX9 : ∀ w ∈ wsX90, w ∈ wsX9_count := by exact fun w h => List.mem_cons_of_mem _ (List.mem_append_right _ h)
abbrev RT_X9_count (p : Program) (l : Launch) (e : Env) (s : State) (m : MethodId) (args : Array Value) (below : List Frame) (meth : Method) (c : Code) (Q : State → Prop) (dC : Nat → ClassId) (dI : Nat → Nat → Nat) (cI cJ cB cZ : ClassId) (A : Nat → Prop) (aM : Nat → Nat) (M_nodes : Int32) (M_operators : Int32) (M_textSize : Int32) (M_wordCount : Int32) (M_isParsed : Int32) (M_isTaken : Int32) (M_items : Int32) (M_piled : Int32) (M_outSize : Int32) (M_told : Int32) (M_standing : Int32) (M_isTighter : Nat → Int32) (M_chartSize : Nat → Int32) (res : Int32) : Prop := ∀ (v : Int32) , some v = some res → ∀ (pc : Nat) (H : Heap) (locs : List Loc) (ls : Array Slot), decode cX9_count pc = .ok (.ireturn, 1) → va_P (dC, dI) vwCl [((aM 0), .inr (9, oX9 aM M_nodes M_operators M_textSize M_wordCount M_isParsed M_isTaken M_items M_piled M_outSize M_told M_standing)), ((aM 2), .inl (cZ, 256, .inl M_isTighter)), ((aM 14), .inl (cI, 2, .inl M_chartSize))] H → va_D A [((aM 0), .inr (9, oX9 aM M_nodes M_operators M_textSize M_wordCount M_isParsed M_isTaken M_items M_piled M_outSize M_told M_standing)), ((aM 2), .inl (cZ, 256, .inl M_isTighter)), ((aM 14), .inl (cI, 2, .inl M_chartSize))] → va_S A s.heap H locs → W p l e rm_X9_count s m args below meth c H locs 0 0 Q (F0 m pc ls [.int v])
set_option maxHeartbeats 4000000 in
set_option maxRecDepth 100000 in
theorem k_X9_count_68 {p : Program} {l : Launch} {e : Env} {s : State} {m : MethodId} {args : Array Value} {below : List Frame} {meth : Method} {c : Code} {Q : State → Prop} {dC : Nat → ClassId} {dI : Nat → Nat → Nat} {cI cJ cB cZ : ClassId} {A : Nat → Prop} (C0 : Cx p s m meth c args cX9_count 4 (some .int) wsX9_count RX9) (hK : va_K (dC, dI) vwCl [(cI, .int), (cJ, .long), (cB, .byte), (cZ, .boolean)] s) (hN : NW s) (hA : ∀ q, s.heap.size ≤ q → A q) (aM : Nat → Nat) (M_nodes : Int32) (M_operators : Int32) (M_textSize : Int32) (M_wordCount : Int32) (M_isParsed : Int32) (M_isTaken : Int32) (M_items : Int32) (M_piled : Int32) (M_outSize : Int32) (M_told : Int32) (M_standing : Int32) (M_isTighter : Nat → Int32) (M_chartSize : Nat → Int32) (res : Int32) (RET : RT_X9_count p l e s m args below meth c Q dC dI cI cJ cB cZ A aM M_nodes M_operators M_textSize M_wordCount M_isParsed M_isTaken M_items M_piled M_outSize M_told M_standing M_isTighter M_chartSize res) (k46 : Int32 → Int32 → Option (Int32)) (hk46 : ∀ (x2 : Int32) (x3 : Int32), k46 x2 x3 = some res → ∀ (H : Heap) (locs : List Loc), va_P (dC, dI) vwCl [((aM 0), .inr (9, oX9 aM M_nodes M_operators M_textSize M_wordCount M_isParsed M_isTaken M_items M_piled M_outSize M_told M_standing)), ((aM 2), .inl (cZ, 256, .inl M_isTighter)), ((aM 14), .inl (cI, 2, .inl M_chartSize))] H → va_D A [((aM 0), .inr (9, oX9 aM M_nodes M_operators M_textSize M_wordCount M_isParsed M_isTaken M_items M_piled M_outSize M_told M_standing)), ((aM 2), .inl (cZ, 256, .inl M_isTighter)), ((aM 14), .inl (cI, 2, .inl M_chartSize))] → va_S A s.heap H locs → ∀ (ls : Array Slot), lv_has ls 4 [(0, .ref (aM 0)), (2, .int x2), (3, .int x3)] → W p l e rm_X9_count s m args below meth c H locs 0 0 Q (F0 m 46 ls [])) : ∀ (x3 : Int32) (y0 : Int32) (y1 : Int32), m_X9_count_68 M_nodes M_operators M_isParsed M_isTighter M_chartSize k46 x3 y0 y1 = some res → ∀ (H : Heap) (locs : List Loc), va_P (dC, dI) vwCl [((aM 0), .inr (9, oX9 aM M_nodes M_operators M_textSize M_wordCount M_isParsed M_isTaken M_items M_piled M_outSize M_told M_standing)), ((aM 2), .inl (cZ, 256, .inl M_isTighter)), ((aM 14), .inl (cI, 2, .inl M_chartSize))] H → va_D A [((aM 0), .inr (9, oX9 aM M_nodes M_operators M_textSize M_wordCount M_isParsed M_isTaken M_items M_piled M_outSize M_told M_standing)), ((aM 2), .inl (cZ, 256, .inl M_isTighter)), ((aM 14), .inl (cI, 2, .inl M_chartSize))] → va_S A s.heap H locs → ∀ (ls : Array Slot), lv_has ls 4 [(0, .ref (aM 0)), (3, .int x3)] → W p l e rm_X9_count s m args below meth c H locs 0 0 Q (F0 m 68 ls [.int y0, .int y1]) := by
  obtain ⟨⟨hx, hb, hml, hown, hts⟩, hr, hlocks⟩ := id C0
  intro x3 y0 y1 hm H locs hP hD hS ls hl
  have hm : (k46 (y1 + y0) (x3 + 1)) = some res := hm
  refine lv_iadd hx hb dX9_count_68 ?_
  refine lv_istore_n (lv' := [(2, .int (y1 + y0)), (0, .ref (aM 0)), (3, .int x3)]) hx hb dX9_count_69 rfl hl (by decide) rfl (fun ls hl => ?_)
  refine lv_iinc (v := x3 + 1) (lv' := [(3, .int (x3 + 1)), (2, .int (y1 + y0)), (0, .ref (aM 0))]) hx hb dX9_count_70 hl (k := 2) rfl rfl (by decide) rfl (fun ls hl => ?_)
  refine lv_goto (tgt := 46) hx hb dX9_count_73 (by decide) ?_
  exact hk46 (y1 + y0) (x3 + 1) hm H locs hP hD hS ls (lv_sub hl [2, 1, 0] rfl)
set_option maxHeartbeats 4000000 in
set_option maxRecDepth 100000 in
theorem k_X9_count_46 {p : Program} {l : Launch} {e : Env} {s : State} {m : MethodId} {args : Array Value} {below : List Frame} {meth : Method} {c : Code} {Q : State → Prop} {dC : Nat → ClassId} {dI : Nat → Nat → Nat} {cI cJ cB cZ : ClassId} {A : Nat → Prop} (C0 : Cx p s m meth c args cX9_count 4 (some .int) wsX9_count RX9) (hK : va_K (dC, dI) vwCl [(cI, .int), (cJ, .long), (cB, .byte), (cZ, .boolean)] s) (hN : NW s) (hA : ∀ q, s.heap.size ≤ q → A q) (aM : Nat → Nat) (M_nodes : Int32) (M_operators : Int32) (M_textSize : Int32) (M_wordCount : Int32) (M_isParsed : Int32) (M_isTaken : Int32) (M_items : Int32) (M_piled : Int32) (M_outSize : Int32) (M_told : Int32) (M_standing : Int32) (M_isTighter : Nat → Int32) (M_chartSize : Nat → Int32) (res : Int32) (RET : RT_X9_count p l e s m args below meth c Q dC dI cI cJ cB cZ A aM M_nodes M_operators M_textSize M_wordCount M_isParsed M_isTaken M_items M_piled M_outSize M_told M_standing M_isTighter M_chartSize res)   : ∀ (n : Nat) (x2 : Int32) (x3 : Int32), m_X9_count_46 M_nodes M_operators M_isParsed M_isTighter M_chartSize n x2 x3 = some res → ∀ (H : Heap) (locs : List Loc), va_P (dC, dI) vwCl [((aM 0), .inr (9, oX9 aM M_nodes M_operators M_textSize M_wordCount M_isParsed M_isTaken M_items M_piled M_outSize M_told M_standing)), ((aM 2), .inl (cZ, 256, .inl M_isTighter)), ((aM 14), .inl (cI, 2, .inl M_chartSize))] H → va_D A [((aM 0), .inr (9, oX9 aM M_nodes M_operators M_textSize M_wordCount M_isParsed M_isTaken M_items M_piled M_outSize M_told M_standing)), ((aM 2), .inl (cZ, 256, .inl M_isTighter)), ((aM 14), .inl (cI, 2, .inl M_chartSize))] → va_S A s.heap H locs → ∀ (ls : Array Slot), lv_has ls 4 [(0, .ref (aM 0)), (2, .int x2), (3, .int x3)] → W p l e rm_X9_count s m args below meth c H locs 0 0 Q (F0 m 46 ls []) := by
  obtain ⟨⟨hx, hb, hml, hown, hts⟩, hr, hlocks⟩ := id C0
  intro n
  induction n with
  | zero =>
    intro x2 x3 hm
    exact absurd hm (by intro h; cases h)
  | succ n ih =>
    intro x2 x3 hm H locs hP hD hS ls hl
    have hm : (if 256 ≤ x3 then (some x2) else (gd x3 256 (if (M_isTighter x3.toNatClampNeg) = 0 then (m_X9_count_68 M_nodes M_operators M_isParsed M_isTighter M_chartSize (m_X9_count_46 M_nodes M_operators M_isParsed M_isTighter M_chartSize n) x3 0 x2) else (m_X9_count_68 M_nodes M_operators M_isParsed M_isTighter M_chartSize (m_X9_count_46 M_nodes M_operators M_isParsed M_isTighter M_chartSize n) x3 1 x2)))) = some res := hm
    refine lv_iload_n hx hb dX9_count_46 rfl (lv_at hl 2 rfl) ?_
    refine lv_sipush (v := 256) hx hb dX9_count_47 (by decide) ?_
    refine lv_icmp_ge (tgt := 76) hx hb dX9_count_50 (by decide) (fun c_1 => ?_) (fun c_1 => ?_)
    · have hm := it_some c_1 hm
      refine lv_iload_n hx hb dX9_count_76 rfl (lv_at hl 1 rfl) ?_
      exact RET x2 hm _ H locs ls dX9_count_77 hP hD hS
    · have hm := if_some' c_1 hm
      refine lv_iload_n hx hb dX9_count_53 rfl (lv_at hl 1 rfl) ?_
      refine lv_aload_n hx hb dX9_count_54 rfl (lv_at hl 0 rfl) ?_
      refine va_get (D := (dC, dI)) (ci := 9) (v := .ref (aM 2)) (C := RX9) (T := TX9) (N := 53) hx hb hts X9_count_inX9 hown hK hP 0 rfl rfl 1 (by decide) (hts (.fieldLink RX9 7 "MixfixDeskModel" "isTighter" "[Z") (List.mem_of_getElem? (i := 3) rfl)) (fun _ h9 => h9) rfl dX9_count_55 ?_
      refine lv_iload_n hx hb dX9_count_58 rfl (lv_at hl 2 rfl) ?_
      obtain ⟨hi_2, hm⟩ := gd_some hm
      refine va_zald (D := (dC, dI)) hx hb hK hP 1 3 rfl rfl hi_2 dX9_count_59 ?_
      refine lv_if_eq (tgt := 67) hx hb dX9_count_60 (by decide) (fun c_3 => ?_) (fun c_3 => ?_)
      · have hm := it_some c_3 hm
        refine lv_iconst (v := 0) hx hb dX9_count_67 (by decide) ?_
        exact k_X9_count_68 C0 hK hN hA aM M_nodes M_operators M_textSize M_wordCount M_isParsed M_isTaken M_items M_piled M_outSize M_told M_standing M_isTighter M_chartSize res RET (m_X9_count_46 M_nodes M_operators M_isParsed M_isTighter M_chartSize n) ih x3 0 x2 hm H locs hP hD hS ls (lv_sub hl [0, 2] rfl)
      · have hm := if_some' c_3 hm
        refine lv_iconst (v := 1) hx hb dX9_count_63 (by decide) ?_
        refine lv_goto (tgt := 68) hx hb dX9_count_64 (by decide) ?_
        exact k_X9_count_68 C0 hK hN hA aM M_nodes M_operators M_textSize M_wordCount M_isParsed M_isTaken M_items M_piled M_outSize M_told M_standing M_isTighter M_chartSize res RET (m_X9_count_46 M_nodes M_operators M_isParsed M_isTighter M_chartSize n) ih x3 1 x2 hm H locs hP hD hS ls (lv_sub hl [0, 2] rfl)
set_option maxHeartbeats 4000000 in
set_option maxRecDepth 100000 in
theorem k_X9_count_E {p : Program} {l : Launch} {e : Env} {s : State} {m : MethodId} {args : Array Value} {below : List Frame} {meth : Method} {c : Code} {Q : State → Prop} {dC : Nat → ClassId} {dI : Nat → Nat → Nat} {cI cJ cB cZ : ClassId} {A : Nat → Prop} (C0 : Cx p s m meth c args cX9_count 4 (some .int) wsX9_count RX9) (hK : va_K (dC, dI) vwCl [(cI, .int), (cJ, .long), (cB, .byte), (cZ, .boolean)] s) (hN : NW s) (hA : ∀ q, s.heap.size ≤ q → A q) (aM : Nat → Nat) (M_nodes : Int32) (M_operators : Int32) (M_textSize : Int32) (M_wordCount : Int32) (M_isParsed : Int32) (M_isTaken : Int32) (M_items : Int32) (M_piled : Int32) (M_outSize : Int32) (M_told : Int32) (M_standing : Int32) (M_isTighter : Nat → Int32) (M_chartSize : Nat → Int32) (res : Int32) (RET : RT_X9_count p l e s m args below meth c Q dC dI cI cJ cB cZ A aM M_nodes M_operators M_textSize M_wordCount M_isParsed M_isTaken M_items M_piled M_outSize M_told M_standing M_isTighter M_chartSize res) : ∀ (p0 : Int32), m_X9_count M_nodes M_isTighter M_operators M_chartSize M_isParsed p0 = some res → ∀ (H : Heap) (locs : List Loc), va_P (dC, dI) vwCl [((aM 0), .inr (9, oX9 aM M_nodes M_operators M_textSize M_wordCount M_isParsed M_isTaken M_items M_piled M_outSize M_told M_standing)), ((aM 2), .inl (cZ, 256, .inl M_isTighter)), ((aM 14), .inl (cI, 2, .inl M_chartSize))] H → va_D A [((aM 0), .inr (9, oX9 aM M_nodes M_operators M_textSize M_wordCount M_isParsed M_isTaken M_items M_piled M_outSize M_told M_standing)), ((aM 2), .inl (cZ, 256, .inl M_isTighter)), ((aM 14), .inl (cI, 2, .inl M_chartSize))] → va_S A s.heap H locs → ∀ (ls : Array Slot), lv_has ls 4 [(0, .ref (aM 0)), (1, .int p0)] → W p l e rm_X9_count s m args below meth c H locs 0 0 Q (F0 m 0 ls []) := by
  obtain ⟨⟨hx, hb, hml, hown, hts⟩, hr, hlocks⟩ := id C0
  intro p0 hm H locs hP hD hS ls hl
  have hm : (if p0 = 0 then (some M_nodes) else if p0 = 1 then (some M_operators) else if p0 = 2 then (m_X9_count_46 M_nodes M_operators M_isParsed M_isTighter M_chartSize FU 0 0) else if p0 = 3 then (if M_isParsed = 0 then (some 0) else (gd 0 2 (some (M_chartSize (0 : Int32).toNatClampNeg)))) else (some (-2))) = some res := hm
  refine lv_iload_n hx hb dX9_count_0 rfl (lv_at hl 1 rfl) ?_
  by_cases c_4 : p0 = 0
  · have hm := it_some c_4 hm
    refine lv_tableIn (tgt := 32) hx hb dX9_count_1 (by rw [c_4]; decide) (by rw [c_4]; decide) (by rw [c_4]; rfl) (by decide) ?_
    refine lv_aload_n hx hb dX9_count_32 rfl (lv_at hl 0 rfl) ?_
    refine va_get (D := (dC, dI)) (ci := 9) (v := .int M_nodes) (C := RX9) (T := TX9) (N := 53) hx hb hts X9_count_inX9 hown hK hP 0 rfl rfl 0 (by decide) (hts (.fieldLink RX9 141 "MixfixDeskModel" "nodes" "I") (List.mem_of_getElem? (i := 1) rfl)) (fun _ h9 => h9) rfl dX9_count_33 ?_
    exact RET M_nodes hm _ H locs ls dX9_count_36 hP hD hS
  · have hm := if_some' c_4 hm
    by_cases c_5 : p0 = 1
    · have hm := it_some c_5 hm
      refine lv_tableIn (tgt := 37) hx hb dX9_count_1 (by rw [c_5]; decide) (by rw [c_5]; decide) (by rw [c_5]; rfl) (by decide) ?_
      refine lv_aload_n hx hb dX9_count_37 rfl (lv_at hl 0 rfl) ?_
      refine va_get (D := (dC, dI)) (ci := 9) (v := .int M_operators) (C := RX9) (T := TX9) (N := 53) hx hb hts X9_count_inX9 hown hK hP 0 rfl rfl 2 (by decide) (hts (.fieldLink RX9 151 "MixfixDeskModel" "operators" "I") (List.mem_of_getElem? (i := 2) rfl)) (fun _ h9 => h9) rfl dX9_count_38 ?_
      exact RET M_operators hm _ H locs ls dX9_count_41 hP hD hS
    · have hm := if_some' c_5 hm
      by_cases c_6 : p0 = 2
      · have hm := it_some c_6 hm
        refine lv_tableIn (tgt := 42) hx hb dX9_count_1 (by rw [c_6]; decide) (by rw [c_6]; decide) (by rw [c_6]; rfl) (by decide) ?_
        refine lv_iconst (v := 0) hx hb dX9_count_42 (by decide) ?_
        refine lv_istore_n (lv' := [(2, .int 0), (0, .ref (aM 0)), (1, .int p0)]) hx hb dX9_count_43 rfl hl (by decide) rfl (fun ls hl => ?_)
        refine lv_iconst (v := 0) hx hb dX9_count_44 (by decide) ?_
        refine lv_istore_n (lv' := [(3, .int 0), (2, .int 0), (0, .ref (aM 0)), (1, .int p0)]) hx hb dX9_count_45 rfl hl (by decide) rfl (fun ls hl => ?_)
        exact k_X9_count_46 C0 hK hN hA aM M_nodes M_operators M_textSize M_wordCount M_isParsed M_isTaken M_items M_piled M_outSize M_told M_standing M_isTighter M_chartSize res RET FU 0 0 hm H locs hP hD hS ls (lv_sub hl [2, 1, 0] rfl)
      · have hm := if_some' c_6 hm
        by_cases c_7 : p0 = 3
        · have hm := it_some c_7 hm
          refine lv_tableIn (tgt := 78) hx hb dX9_count_1 (by rw [c_7]; decide) (by rw [c_7]; decide) (by rw [c_7]; rfl) (by decide) ?_
          refine lv_aload_n hx hb dX9_count_78 rfl (lv_at hl 0 rfl) ?_
          refine va_get (D := (dC, dI)) (ci := 9) (v := .int M_isParsed) (C := RX9) (T := TX9) (N := 53) hx hb hts X9_count_inX9 hown hK hP 0 rfl rfl 16 (by decide) (hts (.fieldLink RX9 215 "MixfixDeskModel" "isParsed" "Z") (List.mem_of_getElem? (i := 4) rfl)) (fun _ h9 => h9) rfl dX9_count_79 ?_
          refine lv_if_eq (tgt := 94) hx hb dX9_count_82 (by decide) (fun c_8 => ?_) (fun c_8 => ?_)
          · have hm := it_some c_8 hm
            refine lv_iconst (v := 0) hx hb dX9_count_94 (by decide) ?_
            exact RET 0 hm _ H locs ls dX9_count_95 hP hD hS
          · have hm := if_some' c_8 hm
            refine lv_aload_n hx hb dX9_count_85 rfl (lv_at hl 0 rfl) ?_
            refine va_get (D := (dC, dI)) (ci := 9) (v := .ref (aM 14)) (C := RX9) (T := TX9) (N := 53) hx hb hts X9_count_inX9 hown hK hP 0 rfl rfl 13 (by decide) (hts (.fieldLink RX9 39 "MixfixDeskModel" "chartSize" "[I") (List.mem_of_getElem? (i := 5) rfl)) (fun _ h9 => h9) rfl dX9_count_86 ?_
            refine lv_iconst (v := 0) hx hb dX9_count_89 (by decide) ?_
            obtain ⟨hi_9, hm⟩ := gd_some hm
            refine va_iald (D := (dC, dI)) hx hb hK hP 2 0 rfl rfl hi_9 dX9_count_90 ?_
            refine lv_goto (tgt := 95) hx hb dX9_count_91 (by decide) ?_
            exact RET (M_chartSize (0 : Int32).toNatClampNeg) hm _ H locs ls dX9_count_95 hP hD hS
        · have hm := if_some' c_7 hm
          refine lv_tableOut (tgt := 96) hx hb dX9_count_1 (by have := sw_ne (k := 0) (0) (by decide) c_4; have := sw_ne (k := 1) (1) (by decide) c_5; have := sw_ne (k := 2) (2) (by decide) c_6; have := sw_ne (k := 3) (3) (by decide) c_7; omega) (by decide) ?_
          refine lv_bipush (v := (-2)) hx hb dX9_count_96 (by decide) ?_
          exact RET (-2) hm _ H locs ls dX9_count_98 hP hD hS
set_option maxHeartbeats 4000000 in
set_option maxRecDepth 100000 in
theorem c_X9_count (l : Launch) (dC : Nat → ClassId) (dI : Nat → Nat → Nat) (cI cJ cB cZ : ClassId) (aM : Nat → Nat) (sz : Nat) (M_nodes : Int32) (M_operators : Int32) (M_textSize : Int32) (M_wordCount : Int32) (M_isParsed : Int32) (M_isTaken : Int32) (M_items : Int32) (M_piled : Int32) (M_outSize : Int32) (M_told : Int32) (M_standing : Int32) (M_isTighter : Nat → Int32) (M_chartSize : Nat → Int32) (p0 : Int32) (res : Int32) (hm : m_X9_count M_nodes M_isTighter M_operators M_chartSize M_isParsed p0 = some res) : Met l yX9_count wsX9_count rm_X9_count (cP (dC, dI) vwCl [(cI, .int), (cJ, .long), (cB, .byte), (cZ, .boolean)] [.ref (aM 0), .int p0] [((aM 0), .inr (9, oX9 aM M_nodes M_operators M_textSize M_wordCount M_isParsed M_isTaken M_items M_piled M_outSize M_told M_standing)), ((aM 2), .inl (cZ, 256, .inl M_isTighter)), ((aM 14), .inl (cI, 2, .inl M_chartSize))] sz) (cQi res (dC, dI) vwCl [((aM 0), .inr (9, oX9 aM M_nodes M_operators M_textSize M_wordCount M_isParsed M_isTaken M_items M_piled M_outSize M_told M_standing)), ((aM 2), .inl (cZ, 256, .inl M_isTighter)), ((aM 14), .inl (cI, 2, .inl M_chartSize))] [((aM 0), .inr (9, oX9 aM M_nodes M_operators M_textSize M_wordCount M_isParsed M_isTaken M_items M_piled M_outSize M_told M_standing)), ((aM 2), .inl (cZ, 256, .inl M_isTighter)), ((aM 14), .inl (cI, 2, .inl M_chartSize))] sz) 0 0 (va_A [((aM 0), .inr (9, oX9 aM M_nodes M_operators M_textSize M_wordCount M_isParsed M_isTaken M_items M_piled M_outSize M_told M_standing)), ((aM 2), .inl (cZ, 256, .inl M_isTighter)), ((aM 14), .inl (cI, 2, .inl M_chartSize))] sz) := by
  refine cx_of (cc := cX9_count) (maxL := 4) (ret := (some .int)) (own := RX9) (by decide) rfl rfl (Nat.le_of_ble_eq_true rfl) ?_
  intro p e s m below meth c A C0 hinN hK hN hsz hAe hA hP hD hS ls hl
  refine k_X9_count_E C0 hK hN hA aM M_nodes M_operators M_textSize M_wordCount M_isParsed M_isTaken M_items M_piled M_outSize M_told M_standing M_isTighter M_chartSize res ?_ p0 hm _ _ hP hD hS ls hl
  intro v he pc H locs ls hdg hP hD hS
  have he := Option.some.inj he
  subst he
  exact cx_reti C0 hsz hAe hdg hP hD hS

theorem dX9_isSpan_0 : decode cX9_isSpan 0 = .ok (.iload_n 1, 1) := by decide +kernel
theorem dX9_isSpan_1 : decode cX9_isSpan 1 = .ok (.ifCond .lt 34, 3) := by decide +kernel
theorem dX9_isSpan_4 : decode cX9_isSpan 4 = .ok (.iload_n 1, 1) := by decide +kernel
theorem dX9_isSpan_5 : decode cX9_isSpan 5 = .ok (.aload_n 0, 1) := by decide +kernel
theorem dX9_isSpan_6 : decode cX9_isSpan 6 = .ok (.getfield 39, 3) := by decide +kernel
theorem dX9_isSpan_9 : decode cX9_isSpan 9 = .ok (.iconst 0, 1) := by decide +kernel
theorem dX9_isSpan_10 : decode cX9_isSpan 10 = .ok (.iaload, 1) := by decide +kernel
theorem dX9_isSpan_11 : decode cX9_isSpan 11 = .ok (.if_icmp .ge 24, 3) := by decide +kernel
theorem dX9_isSpan_14 : decode cX9_isSpan 14 = .ok (.iload_n 2, 1) := by decide +kernel
theorem dX9_isSpan_15 : decode cX9_isSpan 15 = .ok (.iconst 1, 1) := by decide +kernel
theorem dX9_isSpan_16 : decode cX9_isSpan 16 = .ok (.if_icmp .lt 19, 3) := by decide +kernel
theorem dX9_isSpan_19 : decode cX9_isSpan 19 = .ok (.iload_n 2, 1) := by decide +kernel
theorem dX9_isSpan_20 : decode cX9_isSpan 20 = .ok (.aload_n 0, 1) := by decide +kernel
theorem dX9_isSpan_21 : decode cX9_isSpan 21 = .ok (.getfield 39, 3) := by decide +kernel
theorem dX9_isSpan_24 : decode cX9_isSpan 24 = .ok (.iconst 0, 1) := by decide +kernel
theorem dX9_isSpan_25 : decode cX9_isSpan 25 = .ok (.iaload, 1) := by decide +kernel
theorem dX9_isSpan_26 : decode cX9_isSpan 26 = .ok (.iload_n 1, 1) := by decide +kernel
theorem dX9_isSpan_27 : decode cX9_isSpan 27 = .ok (.isub, 1) := by decide +kernel
theorem dX9_isSpan_28 : decode cX9_isSpan 28 = .ok (.if_icmp .gt 7, 3) := by decide +kernel
theorem dX9_isSpan_31 : decode cX9_isSpan 31 = .ok (.iconst 1, 1) := by decide +kernel
theorem dX9_isSpan_32 : decode cX9_isSpan 32 = .ok (.goto 4, 3) := by decide +kernel
theorem dX9_isSpan_35 : decode cX9_isSpan 35 = .ok (.iconst 0, 1) := by decide +kernel
theorem dX9_isSpan_36 : decode cX9_isSpan 36 = .ok (.ireturn, 1) := by decide +kernel
/-! MixfixDeskModel.isSpan(II)Z -/
abbrev rm_X9_isSpan : Room := { frames := 0, cells := 0, slots := 0, locals := 0 }
theorem X9_isSpan_inX9 : ∀ w ∈ wsX90, w ∈ wsX9_isSpan := by exact fun w h => List.mem_cons_of_mem _ (List.mem_append_right _ h)
abbrev RT_X9_isSpan (p : Program) (l : Launch) (e : Env) (s : State) (m : MethodId) (args : Array Value) (below : List Frame) (meth : Method) (c : Code) (Q : State → Prop) (dC : Nat → ClassId) (dI : Nat → Nat → Nat) (cI cJ cB cZ : ClassId) (A : Nat → Prop) (aM : Nat → Nat) (M_nodes : Int32) (M_operators : Int32) (M_textSize : Int32) (M_wordCount : Int32) (M_isParsed : Int32) (M_isTaken : Int32) (M_items : Int32) (M_piled : Int32) (M_outSize : Int32) (M_told : Int32) (M_standing : Int32) (M_chartSize : Nat → Int32) (res : Int32) : Prop := ∀ (v : Int32) , some v = some res → narrow .boolean (.int v) = .int v → ∀ (pc : Nat) (H : Heap) (locs : List Loc) (ls : Array Slot), decode cX9_isSpan pc = .ok (.ireturn, 1) → va_P (dC, dI) vwCl [((aM 0), .inr (9, oX9 aM M_nodes M_operators M_textSize M_wordCount M_isParsed M_isTaken M_items M_piled M_outSize M_told M_standing)), ((aM 14), .inl (cI, 2, .inl M_chartSize))] H → va_D A [((aM 0), .inr (9, oX9 aM M_nodes M_operators M_textSize M_wordCount M_isParsed M_isTaken M_items M_piled M_outSize M_told M_standing)), ((aM 14), .inl (cI, 2, .inl M_chartSize))] → va_S A s.heap H locs → W p l e rm_X9_isSpan s m args below meth c H locs 0 0 Q (F0 m pc ls [.int v])
set_option maxHeartbeats 4000000 in
set_option maxRecDepth 100000 in
theorem k_X9_isSpan_E {p : Program} {l : Launch} {e : Env} {s : State} {m : MethodId} {args : Array Value} {below : List Frame} {meth : Method} {c : Code} {Q : State → Prop} {dC : Nat → ClassId} {dI : Nat → Nat → Nat} {cI cJ cB cZ : ClassId} {A : Nat → Prop} (C0 : Cx p s m meth c args cX9_isSpan 3 (some .boolean) wsX9_isSpan RX9) (hK : va_K (dC, dI) vwCl [(cI, .int), (cJ, .long), (cB, .byte), (cZ, .boolean)] s) (hN : NW s) (hA : ∀ q, s.heap.size ≤ q → A q) (aM : Nat → Nat) (M_nodes : Int32) (M_operators : Int32) (M_textSize : Int32) (M_wordCount : Int32) (M_isParsed : Int32) (M_isTaken : Int32) (M_items : Int32) (M_piled : Int32) (M_outSize : Int32) (M_told : Int32) (M_standing : Int32) (M_chartSize : Nat → Int32) (res : Int32) (RET : RT_X9_isSpan p l e s m args below meth c Q dC dI cI cJ cB cZ A aM M_nodes M_operators M_textSize M_wordCount M_isParsed M_isTaken M_items M_piled M_outSize M_told M_standing M_chartSize res) : ∀ (p0 : Int32) (p1 : Int32), m_X9_isSpan M_chartSize p0 p1 = some res → ∀ (H : Heap) (locs : List Loc), va_P (dC, dI) vwCl [((aM 0), .inr (9, oX9 aM M_nodes M_operators M_textSize M_wordCount M_isParsed M_isTaken M_items M_piled M_outSize M_told M_standing)), ((aM 14), .inl (cI, 2, .inl M_chartSize))] H → va_D A [((aM 0), .inr (9, oX9 aM M_nodes M_operators M_textSize M_wordCount M_isParsed M_isTaken M_items M_piled M_outSize M_told M_standing)), ((aM 14), .inl (cI, 2, .inl M_chartSize))] → va_S A s.heap H locs → ∀ (ls : Array Slot), lv_has ls 3 [(0, .ref (aM 0)), (1, .int p0), (2, .int p1)] → W p l e rm_X9_isSpan s m args below meth c H locs 0 0 Q (F0 m 0 ls []) := by
  obtain ⟨⟨hx, hb, hml, hown, hts⟩, hr, hlocks⟩ := id C0
  intro p0 p1 hm H locs hP hD hS ls hl
  have hm : (if p0 < 0 then (some 0) else (gd 0 2 (if (M_chartSize (0 : Int32).toNatClampNeg) ≤ p0 then (some 0) else (if p1 < 1 then (some 0) else (gd 0 2 (if ((M_chartSize (0 : Int32).toNatClampNeg) - p0) < p1 then (some 0) else (some 1))))))) = some res := hm
  refine lv_iload_n hx hb dX9_isSpan_0 rfl (lv_at hl 1 rfl) ?_
  refine lv_if_lt (tgt := 35) hx hb dX9_isSpan_1 (by decide) (fun c_1 => ?_) (fun c_1 => ?_)
  · have hm := it_some c_1 hm
    refine lv_iconst (v := 0) hx hb dX9_isSpan_35 (by decide) ?_
    exact RET 0 hm rfl _ H locs ls dX9_isSpan_36 hP hD hS
  · have hm := if_some' c_1 hm
    refine lv_iload_n hx hb dX9_isSpan_4 rfl (lv_at hl 1 rfl) ?_
    refine lv_aload_n hx hb dX9_isSpan_5 rfl (lv_at hl 0 rfl) ?_
    refine va_get (D := (dC, dI)) (ci := 9) (v := .ref (aM 14)) (C := RX9) (T := TX9) (N := 53) hx hb hts X9_isSpan_inX9 hown hK hP 0 rfl rfl 13 (by decide) (hts (.fieldLink RX9 39 "MixfixDeskModel" "chartSize" "[I") (List.mem_of_getElem? (i := 1) rfl)) (fun _ h9 => h9) rfl dX9_isSpan_6 ?_
    refine lv_iconst (v := 0) hx hb dX9_isSpan_9 (by decide) ?_
    obtain ⟨hi_2, hm⟩ := gd_some hm
    refine va_iald (D := (dC, dI)) hx hb hK hP 1 0 rfl rfl hi_2 dX9_isSpan_10 ?_
    refine lv_icmp_ge (tgt := 35) hx hb dX9_isSpan_11 (by decide) (fun c_3 => ?_) (fun c_3 => ?_)
    · have hm := it_some c_3 hm
      refine lv_iconst (v := 0) hx hb dX9_isSpan_35 (by decide) ?_
      exact RET 0 hm rfl _ H locs ls dX9_isSpan_36 hP hD hS
    · have hm := if_some' c_3 hm
      refine lv_iload_n hx hb dX9_isSpan_14 rfl (lv_at hl 2 rfl) ?_
      refine lv_iconst (v := 1) hx hb dX9_isSpan_15 (by decide) ?_
      refine lv_icmp_lt (tgt := 35) hx hb dX9_isSpan_16 (by decide) (fun c_4 => ?_) (fun c_4 => ?_)
      · have hm := it_some c_4 hm
        refine lv_iconst (v := 0) hx hb dX9_isSpan_35 (by decide) ?_
        exact RET 0 hm rfl _ H locs ls dX9_isSpan_36 hP hD hS
      · have hm := if_some' c_4 hm
        refine lv_iload_n hx hb dX9_isSpan_19 rfl (lv_at hl 2 rfl) ?_
        refine lv_aload_n hx hb dX9_isSpan_20 rfl (lv_at hl 0 rfl) ?_
        refine va_get (D := (dC, dI)) (ci := 9) (v := .ref (aM 14)) (C := RX9) (T := TX9) (N := 53) hx hb hts X9_isSpan_inX9 hown hK hP 0 rfl rfl 13 (by decide) (hts (.fieldLink RX9 39 "MixfixDeskModel" "chartSize" "[I") (List.mem_of_getElem? (i := 1) rfl)) (fun _ h9 => h9) rfl dX9_isSpan_21 ?_
        refine lv_iconst (v := 0) hx hb dX9_isSpan_24 (by decide) ?_
        obtain ⟨hi_5, hm⟩ := gd_some hm
        refine va_iald (D := (dC, dI)) hx hb hK hP 1 0 rfl rfl hi_5 dX9_isSpan_25 ?_
        refine lv_iload_n hx hb dX9_isSpan_26 rfl (lv_at hl 1 rfl) ?_
        refine lv_isub hx hb dX9_isSpan_27 ?_
        refine lv_icmp_gt (tgt := 35) hx hb dX9_isSpan_28 (by decide) (fun c_6 => ?_) (fun c_6 => ?_)
        · have hm := it_some c_6 hm
          refine lv_iconst (v := 0) hx hb dX9_isSpan_35 (by decide) ?_
          exact RET 0 hm rfl _ H locs ls dX9_isSpan_36 hP hD hS
        · have hm := if_some' c_6 hm
          refine lv_iconst (v := 1) hx hb dX9_isSpan_31 (by decide) ?_
          refine lv_goto (tgt := 36) hx hb dX9_isSpan_32 (by decide) ?_
          exact RET 1 hm rfl _ H locs ls dX9_isSpan_36 hP hD hS
set_option maxHeartbeats 4000000 in
set_option maxRecDepth 100000 in
theorem c_X9_isSpan (l : Launch) (dC : Nat → ClassId) (dI : Nat → Nat → Nat) (cI cJ cB cZ : ClassId) (aM : Nat → Nat) (sz : Nat) (M_nodes : Int32) (M_operators : Int32) (M_textSize : Int32) (M_wordCount : Int32) (M_isParsed : Int32) (M_isTaken : Int32) (M_items : Int32) (M_piled : Int32) (M_outSize : Int32) (M_told : Int32) (M_standing : Int32) (M_chartSize : Nat → Int32) (p0 : Int32) (p1 : Int32) (res : Int32) (hm : m_X9_isSpan M_chartSize p0 p1 = some res) : Met l yX9_isSpan wsX9_isSpan rm_X9_isSpan (cP (dC, dI) vwCl [(cI, .int), (cJ, .long), (cB, .byte), (cZ, .boolean)] [.ref (aM 0), .int p0, .int p1] [((aM 0), .inr (9, oX9 aM M_nodes M_operators M_textSize M_wordCount M_isParsed M_isTaken M_items M_piled M_outSize M_told M_standing)), ((aM 14), .inl (cI, 2, .inl M_chartSize))] sz) (cQi res (dC, dI) vwCl [((aM 0), .inr (9, oX9 aM M_nodes M_operators M_textSize M_wordCount M_isParsed M_isTaken M_items M_piled M_outSize M_told M_standing)), ((aM 14), .inl (cI, 2, .inl M_chartSize))] [((aM 0), .inr (9, oX9 aM M_nodes M_operators M_textSize M_wordCount M_isParsed M_isTaken M_items M_piled M_outSize M_told M_standing)), ((aM 14), .inl (cI, 2, .inl M_chartSize))] sz) 0 0 (va_A [((aM 0), .inr (9, oX9 aM M_nodes M_operators M_textSize M_wordCount M_isParsed M_isTaken M_items M_piled M_outSize M_told M_standing)), ((aM 14), .inl (cI, 2, .inl M_chartSize))] sz) := by
  refine cx_of (cc := cX9_isSpan) (maxL := 3) (ret := (some .boolean)) (own := RX9) (by decide) rfl rfl (Nat.le_of_ble_eq_true rfl) ?_
  intro p e s m below meth c A C0 hinN hK hN hsz hAe hA hP hD hS ls hl
  refine k_X9_isSpan_E C0 hK hN hA aM M_nodes M_operators M_textSize M_wordCount M_isParsed M_isTaken M_items M_piled M_outSize M_told M_standing M_chartSize res ?_ p0 p1 hm _ _ hP hD hS ls hl
  intro v he hn pc H locs ls hdg hP hD hS
  have he := Option.some.inj he
  subst he
  exact cx_retz C0 hn hsz hAe hdg hP hD hS

set_option maxRecDepth 20000 in
theorem ggX9_trees_X9_isSpan : GoodIn wsX9_trees wsX9_isSpan := goodIn_r _ [6, 7, 14, 15, 16, 17, 18, 19, 20, 21, 22, 23, 24, 25, 26, 27, 28, 29, 30, 31, 32, 33, 34, 35, 36, 37, 38, 39, 40, 41, 42, 43, 44, 45, 46, 47, 48, 49, 50, 51, 52, 53, 54, 55, 56, 57, 58, 59, 60, 61, 62, 63, 64, 65, 66] (by decide +kernel) (by decide +kernel)
set_option maxRecDepth 20000 in
theorem gX9_trees_X9_isSpan : GoodIn wsX9_trees (wsV RX9 247 RX9 yX9_isSpan wsX9_isSpan) := goodIn_app (goodIn_of _ (by decide +kernel)) ggX9_trees_X9_isSpan
set_option maxRecDepth 20000 in
theorem ggX9_trees_X9_holeAt : GoodIn wsX9_trees wsX9_holeAt := goodIn_r _ [11, 12, 13, 14, 15, 16, 17, 18, 19, 20, 21, 22, 23, 24, 25, 26, 27, 28, 29, 30, 31, 32, 33, 34, 35, 36, 37, 38, 39, 40, 41, 42, 43, 44, 45, 46, 47, 48, 49, 50, 51, 52, 53, 54, 55, 56, 57, 58, 59, 60, 61, 62, 63, 64, 65, 66] (by decide +kernel) (by decide +kernel)
set_option maxRecDepth 20000 in
theorem gX9_trees_X9_holeAt : GoodIn wsX9_trees (wsV RX9 193 RX9 yX9_holeAt wsX9_holeAt) := goodIn_app (goodIn_of _ (by decide +kernel)) ggX9_trees_X9_holeAt
theorem dX9_trees_0 : decode cX9_trees 0 = .ok (.aload_n 0, 1) := by decide +kernel
theorem dX9_trees_1 : decode cX9_trees 1 = .ok (.getfield 215, 3) := by decide +kernel
theorem dX9_trees_4 : decode cX9_trees 4 = .ok (.ifCond .ne 8, 3) := by decide +kernel
theorem dX9_trees_7 : decode cX9_trees 7 = .ok (.bipush (-3), 2) := by decide +kernel
theorem dX9_trees_9 : decode cX9_trees 9 = .ok (.goto 24, 3) := by decide +kernel
theorem dX9_trees_12 : decode cX9_trees 12 = .ok (.aload_n 0, 1) := by decide +kernel
theorem dX9_trees_13 : decode cX9_trees 13 = .ok (.iload_n 1, 1) := by decide +kernel
theorem dX9_trees_14 : decode cX9_trees 14 = .ok (.iload_n 2, 1) := by decide +kernel
theorem dX9_trees_15 : decode cX9_trees 15 = .ok (.invokevirtual 247, 3) := by decide +kernel
theorem dX9_trees_18 : decode cX9_trees 18 = .ok (.ifCond .ne 7, 3) := by decide +kernel
theorem dX9_trees_21 : decode cX9_trees 21 = .ok (.iconst (-1), 1) := by decide +kernel
theorem dX9_trees_22 : decode cX9_trees 22 = .ok (.goto 11, 3) := by decide +kernel
theorem dX9_trees_25 : decode cX9_trees 25 = .ok (.aload_n 0, 1) := by decide +kernel
theorem dX9_trees_26 : decode cX9_trees 26 = .ok (.iconst 0, 1) := by decide +kernel
theorem dX9_trees_27 : decode cX9_trees 27 = .ok (.iconst 0, 1) := by decide +kernel
theorem dX9_trees_28 : decode cX9_trees 28 = .ok (.iload_n 1, 1) := by decide +kernel
theorem dX9_trees_29 : decode cX9_trees 29 = .ok (.iload_n 2, 1) := by decide +kernel
theorem dX9_trees_30 : decode cX9_trees 30 = .ok (.invokevirtual 193, 3) := by decide +kernel
theorem dX9_trees_33 : decode cX9_trees 33 = .ok (.ireturn, 1) := by decide +kernel
/-! MixfixDeskModel.trees(II)I -/
abbrev rm_X9_trees : Room := { frames := 1, cells := 0, slots := 0, locals := 24 }
theorem X9_trees_inX9 : ∀ w ∈ wsX90, w ∈ wsX9_trees := by exact fun w h => List.mem_cons_of_mem _ (List.mem_append_right _ h)
abbrev RT_X9_trees (p : Program) (l : Launch) (e : Env) (s : State) (m : MethodId) (args : Array Value) (below : List Frame) (meth : Method) (c : Code) (Q : State → Prop) (dC : Nat → ClassId) (dI : Nat → Nat → Nat) (cI cJ cB cZ : ClassId) (A : Nat → Prop) (aM : Nat → Nat) (M_nodes : Int32) (M_operators : Int32) (M_textSize : Int32) (M_wordCount : Int32) (M_isParsed : Int32) (M_isTaken : Int32) (M_items : Int32) (M_piled : Int32) (M_outSize : Int32) (M_told : Int32) (M_standing : Int32) (M_chartSize : Nat → Int32) (M_inHole : Nat → Int32) (res : Int32) : Prop := ∀ (v : Int32) , some v = some res → ∀ (pc : Nat) (H : Heap) (locs : List Loc) (ls : Array Slot), decode cX9_trees pc = .ok (.ireturn, 1) → va_P (dC, dI) vwCl [((aM 0), .inr (9, oX9 aM M_nodes M_operators M_textSize M_wordCount M_isParsed M_isTaken M_items M_piled M_outSize M_told M_standing)), ((aM 14), .inl (cI, 2, .inl M_chartSize)), ((aM 16), .inl (cI, 205082, .inl M_inHole))] H → va_D A [((aM 0), .inr (9, oX9 aM M_nodes M_operators M_textSize M_wordCount M_isParsed M_isTaken M_items M_piled M_outSize M_told M_standing)), ((aM 14), .inl (cI, 2, .inl M_chartSize)), ((aM 16), .inl (cI, 205082, .inl M_inHole))] → va_S A s.heap H locs → W p l e rm_X9_trees s m args below meth c H locs 0 0 Q (F0 m pc ls [.int v])
set_option maxHeartbeats 4000000 in
set_option maxRecDepth 100000 in
theorem k_X9_trees_E {p : Program} {l : Launch} {e : Env} {s : State} {m : MethodId} {args : Array Value} {below : List Frame} {meth : Method} {c : Code} {Q : State → Prop} {dC : Nat → ClassId} {dI : Nat → Nat → Nat} {cI cJ cB cZ : ClassId} {A : Nat → Prop} (C0 : Cx p s m meth c args cX9_trees 3 (some .int) wsX9_trees RX9) (hK : va_K (dC, dI) vwCl [(cI, .int), (cJ, .long), (cB, .byte), (cZ, .boolean)] s) (hN : NW s) (hA : ∀ q, s.heap.size ≤ q → A q) (aM : Nat → Nat) (M_nodes : Int32) (M_operators : Int32) (M_textSize : Int32) (M_wordCount : Int32) (M_isParsed : Int32) (M_isTaken : Int32) (M_items : Int32) (M_piled : Int32) (M_outSize : Int32) (M_told : Int32) (M_standing : Int32) (M_chartSize : Nat → Int32) (M_inHole : Nat → Int32) (res : Int32) (RET : RT_X9_trees p l e s m args below meth c Q dC dI cI cJ cB cZ A aM M_nodes M_operators M_textSize M_wordCount M_isParsed M_isTaken M_items M_piled M_outSize M_told M_standing M_chartSize M_inHole res) : ∀ (p0 : Int32) (p1 : Int32), m_X9_trees M_chartSize M_inHole M_isParsed p0 p1 = some res → ∀ (H : Heap) (locs : List Loc), va_P (dC, dI) vwCl [((aM 0), .inr (9, oX9 aM M_nodes M_operators M_textSize M_wordCount M_isParsed M_isTaken M_items M_piled M_outSize M_told M_standing)), ((aM 14), .inl (cI, 2, .inl M_chartSize)), ((aM 16), .inl (cI, 205082, .inl M_inHole))] H → va_D A [((aM 0), .inr (9, oX9 aM M_nodes M_operators M_textSize M_wordCount M_isParsed M_isTaken M_items M_piled M_outSize M_told M_standing)), ((aM 14), .inl (cI, 2, .inl M_chartSize)), ((aM 16), .inl (cI, 205082, .inl M_inHole))] → va_S A s.heap H locs → ∀ (ls : Array Slot), lv_has ls 3 [(0, .ref (aM 0)), (1, .int p0), (2, .int p1)] → W p l e rm_X9_trees s m args below meth c H locs 0 0 Q (F0 m 0 ls []) := by
  obtain ⟨⟨hx, hb, hml, hown, hts⟩, hr, hlocks⟩ := id C0
  intro p0 p1 hm H locs hP hD hS ls hl
  have hm : (if M_isParsed = 0 then (some (-3)) else (Option.bind (m_X9_isSpan M_chartSize p0 p1) (fun r_2 => if r_2 = 0 then (some (-1)) else (Option.bind (m_X9_holeAt M_inHole 0 0 p0 p1) (fun r_5 => some r_5))))) = some res := hm
  refine lv_aload_n hx hb dX9_trees_0 rfl (lv_at hl 0 rfl) ?_
  refine va_get (D := (dC, dI)) (ci := 9) (v := .int M_isParsed) (C := RX9) (T := TX9) (N := 53) hx hb hts X9_trees_inX9 hown hK hP 0 rfl rfl 16 (by decide) (hts (.fieldLink RX9 215 "MixfixDeskModel" "isParsed" "Z") (List.mem_of_getElem? (i := 1) rfl)) (fun _ h9 => h9) rfl dX9_trees_1 ?_
  refine lv_if_ne (tgt := 12) hx hb dX9_trees_4 (by decide) (fun c_1 => ?_) (fun c_1 => ?_)
  · have hm := if_some' c_1 hm
    refine lv_aload_n hx hb dX9_trees_12 rfl (lv_at hl 0 rfl) ?_
    refine lv_iload_n hx hb dX9_trees_13 rfl (lv_at hl 1 rfl) ?_
    refine lv_iload_n hx hb dX9_trees_14 rfl (lv_at hl 2 rfl) ?_
    obtain ⟨r_2, hc_3, hm⟩ := ob_some hm
    refine cx_i (wr := [((aM 16), .inl (cI, 205082, .inl M_inHole))]) (va_runV (As := [.int p0, .int p1]) (rest := []) C0.1 (c_X9_isSpan l dC dI cI cJ cB cZ aM H.size M_nodes M_operators M_textSize M_wordCount M_isParsed M_isTaken M_items M_piled M_outSize M_told M_standing M_chartSize p0 p1 r_2 hc_3) (cwV 2 hts gX9_trees_X9_isSpan rfl rfl rfl (by decide +kernel) ⟨Nat.le_of_ble_eq_true rfl, Nat.le_of_ble_eq_true rfl⟩) (cP_V (ci := 9) (q0 := 0) hK hN hP hD rfl rfl [0, 1] (by decide) rfl) rfl rfl hl.1 rfl (lv_room (Nat.le_of_ble_eq_true rfl)) dX9_trees_15 ⟨Nat.le_of_ble_eq_true rfl, Nat.le_of_ble_eq_true rfl⟩) hP hD hS hA [0, 1] [2] rfl rfl (by decide) (by decide) (fun H locs hP hD hS => ?_)
    have hP : va_P (dC, dI) vwCl [((aM 16), .inl (cI, 205082, .inl M_inHole)), ((aM 0), .inr (9, oX9 aM M_nodes M_operators M_textSize M_wordCount M_isParsed M_isTaken M_items M_piled M_outSize M_told M_standing)), ((aM 14), .inl (cI, 2, .inl M_chartSize))] H := hP
    have hD : va_D A [((aM 16), .inl (cI, 205082, .inl M_inHole)), ((aM 0), .inr (9, oX9 aM M_nodes M_operators M_textSize M_wordCount M_isParsed M_isTaken M_items M_piled M_outSize M_told M_standing)), ((aM 14), .inl (cI, 2, .inl M_chartSize))] := hD
    refine lv_if_ne (tgt := 25) hx hb dX9_trees_18 (by decide) (fun c_4 => ?_) (fun c_4 => ?_)
    · have hm := if_some' c_4 hm
      refine lv_aload_n hx hb dX9_trees_25 rfl (lv_at hl 0 rfl) ?_
      refine lv_iconst (v := 0) hx hb dX9_trees_26 (by decide) ?_
      refine lv_iconst (v := 0) hx hb dX9_trees_27 (by decide) ?_
      refine lv_iload_n hx hb dX9_trees_28 rfl (lv_at hl 1 rfl) ?_
      refine lv_iload_n hx hb dX9_trees_29 rfl (lv_at hl 2 rfl) ?_
      obtain ⟨r_5, hc_6, hm⟩ := ob_some hm
      refine cx_i (wr := [((aM 14), .inl (cI, 2, .inl M_chartSize))]) (va_runV (As := [.int 0, .int 0, .int p0, .int p1]) (rest := []) C0.1 (c_X9_holeAt l dC dI cI cJ cB cZ aM H.size M_nodes M_operators M_textSize M_wordCount M_isParsed M_isTaken M_items M_piled M_outSize M_told M_standing M_inHole 0 0 p0 p1 r_5 hc_6) (cwV 4 hts gX9_trees_X9_holeAt rfl rfl rfl (by decide +kernel) ⟨Nat.le_of_ble_eq_true rfl, Nat.le_of_ble_eq_true rfl⟩) (cP_V (ci := 9) (q0 := 1) hK hN hP hD rfl rfl [1, 0] (by decide) rfl) rfl rfl hl.1 rfl (lv_room (Nat.le_of_ble_eq_true rfl)) dX9_trees_30 ⟨Nat.le_of_ble_eq_true rfl, Nat.le_of_ble_eq_true rfl⟩) hP hD hS hA [1, 0] [2] rfl rfl (by decide) (by decide) (fun H locs hP hD hS => ?_)
      have hP : va_P (dC, dI) vwCl [((aM 14), .inl (cI, 2, .inl M_chartSize)), ((aM 0), .inr (9, oX9 aM M_nodes M_operators M_textSize M_wordCount M_isParsed M_isTaken M_items M_piled M_outSize M_told M_standing)), ((aM 16), .inl (cI, 205082, .inl M_inHole))] H := hP
      have hD : va_D A [((aM 14), .inl (cI, 2, .inl M_chartSize)), ((aM 0), .inr (9, oX9 aM M_nodes M_operators M_textSize M_wordCount M_isParsed M_isTaken M_items M_piled M_outSize M_told M_standing)), ((aM 16), .inl (cI, 205082, .inl M_inHole))] := hD
      exact RET r_5 hm _ H locs ls dX9_trees_33 (P_sub' hP [1, 0, 2] rfl) (hD.sub [1, 0, 2] (by decide) rfl) hS
    · have hm := it_some c_4 hm
      refine lv_iconst (v := (-1)) hx hb dX9_trees_21 (by decide) ?_
      refine lv_goto (tgt := 33) hx hb dX9_trees_22 (by decide) ?_
      exact RET (-1) hm _ H locs ls dX9_trees_33 (P_sub' hP [1, 2, 0] rfl) (hD.sub [1, 2, 0] (by decide) rfl) hS
  · have hm := it_some c_1 hm
    refine lv_bipush (v := (-3)) hx hb dX9_trees_7 (by decide) ?_
    refine lv_goto (tgt := 33) hx hb dX9_trees_9 (by decide) ?_
    exact RET (-3) hm _ H locs ls dX9_trees_33 hP hD hS
set_option maxHeartbeats 4000000 in
set_option maxRecDepth 100000 in
theorem c_X9_trees (l : Launch) (dC : Nat → ClassId) (dI : Nat → Nat → Nat) (cI cJ cB cZ : ClassId) (aM : Nat → Nat) (sz : Nat) (M_nodes : Int32) (M_operators : Int32) (M_textSize : Int32) (M_wordCount : Int32) (M_isParsed : Int32) (M_isTaken : Int32) (M_items : Int32) (M_piled : Int32) (M_outSize : Int32) (M_told : Int32) (M_standing : Int32) (M_chartSize : Nat → Int32) (M_inHole : Nat → Int32) (p0 : Int32) (p1 : Int32) (res : Int32) (hm : m_X9_trees M_chartSize M_inHole M_isParsed p0 p1 = some res) : Met l yX9_trees wsX9_trees rm_X9_trees (cP (dC, dI) vwCl [(cI, .int), (cJ, .long), (cB, .byte), (cZ, .boolean)] [.ref (aM 0), .int p0, .int p1] [((aM 0), .inr (9, oX9 aM M_nodes M_operators M_textSize M_wordCount M_isParsed M_isTaken M_items M_piled M_outSize M_told M_standing)), ((aM 14), .inl (cI, 2, .inl M_chartSize)), ((aM 16), .inl (cI, 205082, .inl M_inHole))] sz) (cQi res (dC, dI) vwCl [((aM 0), .inr (9, oX9 aM M_nodes M_operators M_textSize M_wordCount M_isParsed M_isTaken M_items M_piled M_outSize M_told M_standing)), ((aM 14), .inl (cI, 2, .inl M_chartSize)), ((aM 16), .inl (cI, 205082, .inl M_inHole))] [((aM 0), .inr (9, oX9 aM M_nodes M_operators M_textSize M_wordCount M_isParsed M_isTaken M_items M_piled M_outSize M_told M_standing)), ((aM 14), .inl (cI, 2, .inl M_chartSize)), ((aM 16), .inl (cI, 205082, .inl M_inHole))] sz) 0 0 (va_A [((aM 0), .inr (9, oX9 aM M_nodes M_operators M_textSize M_wordCount M_isParsed M_isTaken M_items M_piled M_outSize M_told M_standing)), ((aM 14), .inl (cI, 2, .inl M_chartSize)), ((aM 16), .inl (cI, 205082, .inl M_inHole))] sz) := by
  refine cx_of (cc := cX9_trees) (maxL := 3) (ret := (some .int)) (own := RX9) (by decide) rfl rfl (Nat.le_of_ble_eq_true rfl) ?_
  intro p e s m below meth c A C0 hinN hK hN hsz hAe hA hP hD hS ls hl
  refine k_X9_trees_E C0 hK hN hA aM M_nodes M_operators M_textSize M_wordCount M_isParsed M_isTaken M_items M_piled M_outSize M_told M_standing M_chartSize M_inHole res ?_ p0 p1 hm _ _ hP hD hS ls hl
  intro v he pc H locs ls hdg hP hD hS
  have he := Option.some.inj he
  subst he
  exact cx_reti C0 hsz hAe hdg hP hD hS

set_option maxRecDepth 20000 in
theorem ggX9_with_X9_isSpan : GoodIn wsX9_with wsX9_isSpan := goodIn_r _ [8, 9, 27, 28, 29, 30, 31, 32, 33, 34, 35, 36, 37, 38, 39, 40, 41, 42, 43, 44, 45, 46, 47, 48, 49, 50, 51, 52, 53, 54, 55, 56, 57, 58, 59, 60, 61, 62, 63, 64, 65, 66, 67, 68, 69, 70, 71, 72, 73, 74, 75, 76, 77, 78, 79] (by decide +kernel) (by decide +kernel)
set_option maxRecDepth 20000 in
theorem gX9_with_X9_isSpan : GoodIn wsX9_with (wsV RX9 247 RX9 yX9_isSpan wsX9_isSpan) := goodIn_app (goodIn_of _ (by decide +kernel)) ggX9_with_X9_isSpan
set_option maxRecDepth 20000 in
theorem ggX9_with_X9_isAtom : GoodIn wsX9_with wsX9_isAtom := goodIn_r _ [13, 14, 15, 16, 17, 7, 18, 2, 19, 20, 27, 28, 29, 30, 31, 32, 33, 34, 35, 36, 37, 38, 39, 40, 41, 42, 43, 44, 45, 46, 47, 48, 49, 50, 51, 52, 53, 54, 55, 56, 57, 58, 59, 60, 61, 62, 63, 64, 65, 66, 67, 68, 69, 70, 71, 72, 73, 74, 75, 76, 77, 78, 79] (by decide +kernel) (by decide +kernel)
set_option maxRecDepth 20000 in
theorem gX9_with_X9_isAtom : GoodIn wsX9_with (wsV RX9 205 RX9 yX9_isAtom wsX9_isAtom) := goodIn_app (goodIn_of _ (by decide +kernel)) ggX9_with_X9_isAtom
set_option maxRecDepth 20000 in
theorem ggX9_with_X9_withAt : GoodIn wsX9_with wsX9_withAt := goodIn_r _ [24, 25, 26, 27, 28, 29, 30, 31, 32, 33, 34, 35, 36, 37, 38, 39, 40, 41, 42, 43, 44, 45, 46, 47, 48, 49, 50, 51, 52, 53, 54, 55, 56, 57, 58, 59, 60, 61, 62, 63, 64, 65, 66, 67, 68, 69, 70, 71, 72, 73, 74, 75, 76, 77, 78, 79] (by decide +kernel) (by decide +kernel)
set_option maxRecDepth 20000 in
theorem gX9_with_X9_withAt : GoodIn wsX9_with (wsV RX9 208 RX9 yX9_withAt wsX9_withAt) := goodIn_app (goodIn_of _ (by decide +kernel)) ggX9_with_X9_withAt
theorem dX9_with_0 : decode cX9_with 0 = .ok (.aload_n 0, 1) := by decide +kernel
theorem dX9_with_1 : decode cX9_with 1 = .ok (.getfield 215, 3) := by decide +kernel
theorem dX9_with_4 : decode cX9_with 4 = .ok (.ifCond .ne 6, 3) := by decide +kernel
theorem dX9_with_7 : decode cX9_with 7 = .ok (.bipush (-3), 2) := by decide +kernel
theorem dX9_with_9 : decode cX9_with 9 = .ok (.ireturn, 1) := by decide +kernel
theorem dX9_with_10 : decode cX9_with 10 = .ok (.aload_n 0, 1) := by decide +kernel
theorem dX9_with_11 : decode cX9_with 11 = .ok (.iload_n 1, 1) := by decide +kernel
theorem dX9_with_12 : decode cX9_with 12 = .ok (.iload_n 2, 1) := by decide +kernel
theorem dX9_with_13 : decode cX9_with 13 = .ok (.invokevirtual 247, 3) := by decide +kernel
theorem dX9_with_16 : decode cX9_with 16 = .ok (.ifCond .eq 16, 3) := by decide +kernel
theorem dX9_with_19 : decode cX9_with 19 = .ok (.iload_n 3, 1) := by decide +kernel
theorem dX9_with_20 : decode cX9_with 20 = .ok (.iconst (-1), 1) := by decide +kernel
theorem dX9_with_21 : decode cX9_with 21 = .ok (.if_icmp .lt 11, 3) := by decide +kernel
theorem dX9_with_24 : decode cX9_with 24 = .ok (.iload_n 3, 1) := by decide +kernel
theorem dX9_with_25 : decode cX9_with 25 = .ok (.aload_n 0, 1) := by decide +kernel
theorem dX9_with_26 : decode cX9_with 26 = .ok (.getfield 151, 3) := by decide +kernel
theorem dX9_with_29 : decode cX9_with 29 = .ok (.if_icmp .lt 5, 3) := by decide +kernel
theorem dX9_with_32 : decode cX9_with 32 = .ok (.iconst (-1), 1) := by decide +kernel
theorem dX9_with_33 : decode cX9_with 33 = .ok (.ireturn, 1) := by decide +kernel
theorem dX9_with_34 : decode cX9_with 34 = .ok (.iload_n 3, 1) := by decide +kernel
theorem dX9_with_35 : decode cX9_with 35 = .ok (.ifCond .ge 29, 3) := by decide +kernel
theorem dX9_with_38 : decode cX9_with 38 = .ok (.iload_n 2, 1) := by decide +kernel
theorem dX9_with_39 : decode cX9_with 39 = .ok (.iconst 1, 1) := by decide +kernel
theorem dX9_with_40 : decode cX9_with 40 = .ok (.if_icmp .ne 20, 3) := by decide +kernel
theorem dX9_with_43 : decode cX9_with 43 = .ok (.aload_n 0, 1) := by decide +kernel
theorem dX9_with_44 : decode cX9_with 44 = .ok (.aload_n 0, 1) := by decide +kernel
theorem dX9_with_45 : decode cX9_with 45 = .ok (.getfield 36, 3) := by decide +kernel
theorem dX9_with_48 : decode cX9_with 48 = .ok (.iload_n 1, 1) := by decide +kernel
theorem dX9_with_49 : decode cX9_with 49 = .ok (.laload, 1) := by decide +kernel
theorem dX9_with_50 : decode cX9_with 50 = .ok (.invokevirtual 205, 3) := by decide +kernel
theorem dX9_with_53 : decode cX9_with 53 = .ok (.ifCond .eq 7, 3) := by decide +kernel
theorem dX9_with_56 : decode cX9_with 56 = .ok (.iconst 1, 1) := by decide +kernel
theorem dX9_with_57 : decode cX9_with 57 = .ok (.goto 15, 3) := by decide +kernel
theorem dX9_with_60 : decode cX9_with 60 = .ok (.iconst 0, 1) := by decide +kernel
theorem dX9_with_61 : decode cX9_with 61 = .ok (.goto 11, 3) := by decide +kernel
theorem dX9_with_64 : decode cX9_with 64 = .ok (.aload_n 0, 1) := by decide +kernel
theorem dX9_with_65 : decode cX9_with 65 = .ok (.iconst 0, 1) := by decide +kernel
theorem dX9_with_66 : decode cX9_with 66 = .ok (.iload_n 3, 1) := by decide +kernel
theorem dX9_with_67 : decode cX9_with 67 = .ok (.iload_n 1, 1) := by decide +kernel
theorem dX9_with_68 : decode cX9_with 68 = .ok (.iload_n 2, 1) := by decide +kernel
theorem dX9_with_69 : decode cX9_with 69 = .ok (.invokevirtual 208, 3) := by decide +kernel
theorem dX9_with_72 : decode cX9_with 72 = .ok (.ireturn, 1) := by decide +kernel
/-! MixfixDeskModel.with(III)I -/
abbrev rm_X9_with : Room := { frames := 2, cells := 0, slots := 0, locals := 47 }
theorem X9_with_inX9 : ∀ w ∈ wsX90, w ∈ wsX9_with := by exact fun w h => List.mem_cons_of_mem _ (List.mem_append_right _ h)
abbrev RT_X9_with (p : Program) (l : Launch) (e : Env) (s : State) (m : MethodId) (args : Array Value) (below : List Frame) (meth : Method) (c : Code) (Q : State → Prop) (dC : Nat → ClassId) (dI : Nat → Nat → Nat) (cI cJ cB cZ : ClassId) (A : Nat → Prop) (aM : Nat → Nat) (M_nodes : Int32) (M_operators : Int32) (M_textSize : Int32) (M_wordCount : Int32) (M_isParsed : Int32) (M_isTaken : Int32) (M_items : Int32) (M_piled : Int32) (M_outSize : Int32) (M_told : Int32) (M_standing : Int32) (M_elements : Nat → Int64) (M_elementCount : Nat → Int32) (M_chartWord : Nat → Int64) (M_chartSize : Nat → Int32) (M_withOperator : Nat → Int32) (res : Int32) : Prop := ∀ (v : Int32) , some v = some res → ∀ (pc : Nat) (H : Heap) (locs : List Loc) (ls : Array Slot), decode cX9_with pc = .ok (.ireturn, 1) → va_P (dC, dI) vwCl [((aM 0), .inr (9, oX9 aM M_nodes M_operators M_textSize M_wordCount M_isParsed M_isTaken M_items M_piled M_outSize M_told M_standing)), ((aM 4), .inl (cJ, 270, .inr (.inl M_elements))), ((aM 5), .inl (cI, 30, .inl M_elementCount)), ((aM 13), .inl (cJ, 80, .inr (.inl M_chartWord))), ((aM 14), .inl (cI, 2, .inl M_chartSize)), ((aM 15), .inl (cI, 100860, .inl M_withOperator))] H → va_D A [((aM 0), .inr (9, oX9 aM M_nodes M_operators M_textSize M_wordCount M_isParsed M_isTaken M_items M_piled M_outSize M_told M_standing)), ((aM 4), .inl (cJ, 270, .inr (.inl M_elements))), ((aM 5), .inl (cI, 30, .inl M_elementCount)), ((aM 13), .inl (cJ, 80, .inr (.inl M_chartWord))), ((aM 14), .inl (cI, 2, .inl M_chartSize)), ((aM 15), .inl (cI, 100860, .inl M_withOperator))] → va_S A s.heap H locs → W p l e rm_X9_with s m args below meth c H locs 0 0 Q (F0 m pc ls [.int v])
set_option maxHeartbeats 4000000 in
set_option maxRecDepth 100000 in
theorem k_X9_with_E {p : Program} {l : Launch} {e : Env} {s : State} {m : MethodId} {args : Array Value} {below : List Frame} {meth : Method} {c : Code} {Q : State → Prop} {dC : Nat → ClassId} {dI : Nat → Nat → Nat} {cI cJ cB cZ : ClassId} {A : Nat → Prop} (C0 : Cx p s m meth c args cX9_with 4 (some .int) wsX9_with RX9) (hK : va_K (dC, dI) vwCl [(cI, .int), (cJ, .long), (cB, .byte), (cZ, .boolean)] s) (hN : NW s) (hA : ∀ q, s.heap.size ≤ q → A q) (aM : Nat → Nat) (M_nodes : Int32) (M_operators : Int32) (M_textSize : Int32) (M_wordCount : Int32) (M_isParsed : Int32) (M_isTaken : Int32) (M_items : Int32) (M_piled : Int32) (M_outSize : Int32) (M_told : Int32) (M_standing : Int32) (M_elements : Nat → Int64) (M_elementCount : Nat → Int32) (M_chartWord : Nat → Int64) (M_chartSize : Nat → Int32) (M_withOperator : Nat → Int32) (res : Int32) (RET : RT_X9_with p l e s m args below meth c Q dC dI cI cJ cB cZ A aM M_nodes M_operators M_textSize M_wordCount M_isParsed M_isTaken M_items M_piled M_outSize M_told M_standing M_elements M_elementCount M_chartWord M_chartSize M_withOperator res) : ∀ (p0 : Int32) (p1 : Int32) (p2 : Int32), m_X9_with M_operators M_elements M_elementCount M_chartWord M_chartSize M_withOperator M_isParsed p0 p1 p2 = some res → ∀ (H : Heap) (locs : List Loc), va_P (dC, dI) vwCl [((aM 0), .inr (9, oX9 aM M_nodes M_operators M_textSize M_wordCount M_isParsed M_isTaken M_items M_piled M_outSize M_told M_standing)), ((aM 4), .inl (cJ, 270, .inr (.inl M_elements))), ((aM 5), .inl (cI, 30, .inl M_elementCount)), ((aM 13), .inl (cJ, 80, .inr (.inl M_chartWord))), ((aM 14), .inl (cI, 2, .inl M_chartSize)), ((aM 15), .inl (cI, 100860, .inl M_withOperator))] H → va_D A [((aM 0), .inr (9, oX9 aM M_nodes M_operators M_textSize M_wordCount M_isParsed M_isTaken M_items M_piled M_outSize M_told M_standing)), ((aM 4), .inl (cJ, 270, .inr (.inl M_elements))), ((aM 5), .inl (cI, 30, .inl M_elementCount)), ((aM 13), .inl (cJ, 80, .inr (.inl M_chartWord))), ((aM 14), .inl (cI, 2, .inl M_chartSize)), ((aM 15), .inl (cI, 100860, .inl M_withOperator))] → va_S A s.heap H locs → ∀ (ls : Array Slot), lv_has ls 4 [(0, .ref (aM 0)), (1, .int p0), (2, .int p1), (3, .int p2)] → W p l e rm_X9_with s m args below meth c H locs 0 0 Q (F0 m 0 ls []) := by
  obtain ⟨⟨hx, hb, hml, hown, hts⟩, hr, hlocks⟩ := id C0
  intro p0 p1 p2 hm H locs hP hD hS ls hl
  have hm : (if M_isParsed = 0 then (some (-3)) else (Option.bind (m_X9_isSpan M_chartSize p0 p1) (fun r_2 => if r_2 = 0 then (some (-1)) else (if p2 < (-1) then (some (-1)) else (if p2 < M_operators then (if 0 ≤ p2 then (Option.bind (m_X9_withAt M_withOperator 0 p2 p0 p1) (fun r_8 => some r_8)) else (if p1 = 1 then (gd p0 80 (Option.bind (m_X9_isAtom M_operators M_elements M_elementCount (M_chartWord p0.toNatClampNeg)) (fun r_12 => if r_12 = 0 then (some 0) else (some 1)))) else (some 0))) else (some (-1))))))) = some res := hm
  refine lv_aload_n hx hb dX9_with_0 rfl (lv_at hl 0 rfl) ?_
  refine va_get (D := (dC, dI)) (ci := 9) (v := .int M_isParsed) (C := RX9) (T := TX9) (N := 53) hx hb hts X9_with_inX9 hown hK hP 0 rfl rfl 16 (by decide) (hts (.fieldLink RX9 215 "MixfixDeskModel" "isParsed" "Z") (List.mem_of_getElem? (i := 1) rfl)) (fun _ h9 => h9) rfl dX9_with_1 ?_
  refine lv_if_ne (tgt := 10) hx hb dX9_with_4 (by decide) (fun c_1 => ?_) (fun c_1 => ?_)
  · have hm := if_some' c_1 hm
    refine lv_aload_n hx hb dX9_with_10 rfl (lv_at hl 0 rfl) ?_
    refine lv_iload_n hx hb dX9_with_11 rfl (lv_at hl 1 rfl) ?_
    refine lv_iload_n hx hb dX9_with_12 rfl (lv_at hl 2 rfl) ?_
    obtain ⟨r_2, hc_3, hm⟩ := ob_some hm
    refine cx_i (wr := [((aM 4), .inl (cJ, 270, .inr (.inl M_elements))), ((aM 5), .inl (cI, 30, .inl M_elementCount)), ((aM 13), .inl (cJ, 80, .inr (.inl M_chartWord))), ((aM 15), .inl (cI, 100860, .inl M_withOperator))]) (va_runV (As := [.int p0, .int p1]) (rest := []) C0.1 (c_X9_isSpan l dC dI cI cJ cB cZ aM H.size M_nodes M_operators M_textSize M_wordCount M_isParsed M_isTaken M_items M_piled M_outSize M_told M_standing M_chartSize p0 p1 r_2 hc_3) (cwV 2 hts gX9_with_X9_isSpan rfl rfl rfl (by decide +kernel) ⟨Nat.le_of_ble_eq_true rfl, Nat.le_of_ble_eq_true rfl⟩) (cP_V (ci := 9) (q0 := 0) hK hN hP hD rfl rfl [0, 4] (by decide) rfl) rfl rfl hl.1 rfl (lv_room (Nat.le_of_ble_eq_true rfl)) dX9_with_13 ⟨Nat.le_of_ble_eq_true rfl, Nat.le_of_ble_eq_true rfl⟩) hP hD hS hA [0, 4] [1, 2, 3, 5] rfl rfl (by decide) (by decide) (fun H locs hP hD hS => ?_)
    have hP : va_P (dC, dI) vwCl [((aM 4), .inl (cJ, 270, .inr (.inl M_elements))), ((aM 5), .inl (cI, 30, .inl M_elementCount)), ((aM 13), .inl (cJ, 80, .inr (.inl M_chartWord))), ((aM 15), .inl (cI, 100860, .inl M_withOperator)), ((aM 0), .inr (9, oX9 aM M_nodes M_operators M_textSize M_wordCount M_isParsed M_isTaken M_items M_piled M_outSize M_told M_standing)), ((aM 14), .inl (cI, 2, .inl M_chartSize))] H := hP
    have hD : va_D A [((aM 4), .inl (cJ, 270, .inr (.inl M_elements))), ((aM 5), .inl (cI, 30, .inl M_elementCount)), ((aM 13), .inl (cJ, 80, .inr (.inl M_chartWord))), ((aM 15), .inl (cI, 100860, .inl M_withOperator)), ((aM 0), .inr (9, oX9 aM M_nodes M_operators M_textSize M_wordCount M_isParsed M_isTaken M_items M_piled M_outSize M_told M_standing)), ((aM 14), .inl (cI, 2, .inl M_chartSize))] := hD
    refine lv_if_eq (tgt := 32) hx hb dX9_with_16 (by decide) (fun c_4 => ?_) (fun c_4 => ?_)
    · have hm := it_some c_4 hm
      refine lv_iconst (v := (-1)) hx hb dX9_with_32 (by decide) ?_
      exact RET (-1) hm _ H locs ls dX9_with_33 (P_sub' hP [4, 0, 1, 2, 5, 3] rfl) (hD.sub [4, 0, 1, 2, 5, 3] (by decide) rfl) hS
    · have hm := if_some' c_4 hm
      refine lv_iload_n hx hb dX9_with_19 rfl (lv_at hl 3 rfl) ?_
      refine lv_iconst (v := (-1)) hx hb dX9_with_20 (by decide) ?_
      refine lv_icmp_lt (tgt := 32) hx hb dX9_with_21 (by decide) (fun c_5 => ?_) (fun c_5 => ?_)
      · have hm := it_some c_5 hm
        refine lv_iconst (v := (-1)) hx hb dX9_with_32 (by decide) ?_
        exact RET (-1) hm _ H locs ls dX9_with_33 (P_sub' hP [4, 0, 1, 2, 5, 3] rfl) (hD.sub [4, 0, 1, 2, 5, 3] (by decide) rfl) hS
      · have hm := if_some' c_5 hm
        refine lv_iload_n hx hb dX9_with_24 rfl (lv_at hl 3 rfl) ?_
        refine lv_aload_n hx hb dX9_with_25 rfl (lv_at hl 0 rfl) ?_
        refine va_get (D := (dC, dI)) (ci := 9) (v := .int M_operators) (C := RX9) (T := TX9) (N := 53) hx hb hts X9_with_inX9 hown hK hP 4 rfl rfl 2 (by decide) (hts (.fieldLink RX9 151 "MixfixDeskModel" "operators" "I") (List.mem_of_getElem? (i := 2) rfl)) (fun _ h9 => h9) rfl dX9_with_26 ?_
        refine lv_icmp_lt (tgt := 34) hx hb dX9_with_29 (by decide) (fun c_6 => ?_) (fun c_6 => ?_)
        · have hm := it_some c_6 hm
          refine lv_iload_n hx hb dX9_with_34 rfl (lv_at hl 3 rfl) ?_
          refine lv_if_ge (tgt := 64) hx hb dX9_with_35 (by decide) (fun c_7 => ?_) (fun c_7 => ?_)
          · have hm := it_some c_7 hm
            refine lv_aload_n hx hb dX9_with_64 rfl (lv_at hl 0 rfl) ?_
            refine lv_iconst (v := 0) hx hb dX9_with_65 (by decide) ?_
            refine lv_iload_n hx hb dX9_with_66 rfl (lv_at hl 3 rfl) ?_
            refine lv_iload_n hx hb dX9_with_67 rfl (lv_at hl 1 rfl) ?_
            refine lv_iload_n hx hb dX9_with_68 rfl (lv_at hl 2 rfl) ?_
            obtain ⟨r_8, hc_9, hm⟩ := ob_some hm
            refine cx_i (wr := [((aM 4), .inl (cJ, 270, .inr (.inl M_elements))), ((aM 5), .inl (cI, 30, .inl M_elementCount)), ((aM 13), .inl (cJ, 80, .inr (.inl M_chartWord))), ((aM 14), .inl (cI, 2, .inl M_chartSize))]) (va_runV (As := [.int 0, .int p2, .int p0, .int p1]) (rest := []) C0.1 (c_X9_withAt l dC dI cI cJ cB cZ aM H.size M_nodes M_operators M_textSize M_wordCount M_isParsed M_isTaken M_items M_piled M_outSize M_told M_standing M_withOperator 0 p2 p0 p1 r_8 hc_9) (cwV 4 hts gX9_with_X9_withAt rfl rfl rfl (by decide +kernel) ⟨Nat.le_of_ble_eq_true rfl, Nat.le_of_ble_eq_true rfl⟩) (cP_V (ci := 9) (q0 := 4) hK hN hP hD rfl rfl [4, 3] (by decide) rfl) rfl rfl hl.1 rfl (lv_room (Nat.le_of_ble_eq_true rfl)) dX9_with_69 ⟨Nat.le_of_ble_eq_true rfl, Nat.le_of_ble_eq_true rfl⟩) hP hD hS hA [4, 3] [0, 1, 2, 5] rfl rfl (by decide) (by decide) (fun H locs hP hD hS => ?_)
            have hP : va_P (dC, dI) vwCl [((aM 4), .inl (cJ, 270, .inr (.inl M_elements))), ((aM 5), .inl (cI, 30, .inl M_elementCount)), ((aM 13), .inl (cJ, 80, .inr (.inl M_chartWord))), ((aM 14), .inl (cI, 2, .inl M_chartSize)), ((aM 0), .inr (9, oX9 aM M_nodes M_operators M_textSize M_wordCount M_isParsed M_isTaken M_items M_piled M_outSize M_told M_standing)), ((aM 15), .inl (cI, 100860, .inl M_withOperator))] H := hP
            have hD : va_D A [((aM 4), .inl (cJ, 270, .inr (.inl M_elements))), ((aM 5), .inl (cI, 30, .inl M_elementCount)), ((aM 13), .inl (cJ, 80, .inr (.inl M_chartWord))), ((aM 14), .inl (cI, 2, .inl M_chartSize)), ((aM 0), .inr (9, oX9 aM M_nodes M_operators M_textSize M_wordCount M_isParsed M_isTaken M_items M_piled M_outSize M_told M_standing)), ((aM 15), .inl (cI, 100860, .inl M_withOperator))] := hD
            exact RET r_8 hm _ H locs ls dX9_with_72 (P_sub' hP [4, 0, 1, 2, 3, 5] rfl) (hD.sub [4, 0, 1, 2, 3, 5] (by decide) rfl) hS
          · have hm := if_some' c_7 hm
            refine lv_iload_n hx hb dX9_with_38 rfl (lv_at hl 2 rfl) ?_
            refine lv_iconst (v := 1) hx hb dX9_with_39 (by decide) ?_
            refine lv_icmp_ne (tgt := 60) hx hb dX9_with_40 (by decide) (fun c_10 => ?_) (fun c_10 => ?_)
            · have hm := if_some' c_10 hm
              refine lv_iconst (v := 0) hx hb dX9_with_60 (by decide) ?_
              refine lv_goto (tgt := 72) hx hb dX9_with_61 (by decide) ?_
              exact RET 0 hm _ H locs ls dX9_with_72 (P_sub' hP [4, 0, 1, 2, 5, 3] rfl) (hD.sub [4, 0, 1, 2, 5, 3] (by decide) rfl) hS
            · have hm := it_some c_10 hm
              refine lv_aload_n hx hb dX9_with_43 rfl (lv_at hl 0 rfl) ?_
              refine lv_aload_n hx hb dX9_with_44 rfl (lv_at hl 0 rfl) ?_
              refine va_get (D := (dC, dI)) (ci := 9) (v := .ref (aM 13)) (C := RX9) (T := TX9) (N := 53) hx hb hts X9_with_inX9 hown hK hP 4 rfl rfl 12 (by decide) (hts (.fieldLink RX9 36 "MixfixDeskModel" "chartWord" "[J") (List.mem_of_getElem? (i := 3) rfl)) (fun _ h9 => h9) rfl dX9_with_45 ?_
              refine lv_iload_n hx hb dX9_with_48 rfl (lv_at hl 1 rfl) ?_
              obtain ⟨hi_11, hm⟩ := gd_some hm
              refine va_lald (D := (dC, dI)) hx hb hK hP 2 1 rfl rfl hi_11 dX9_with_49 ?_
              obtain ⟨r_12, hc_13, hm⟩ := ob_some hm
              refine cx_i (wr := [((aM 13), .inl (cJ, 80, .inr (.inl M_chartWord))), ((aM 15), .inl (cI, 100860, .inl M_withOperator)), ((aM 14), .inl (cI, 2, .inl M_chartSize))]) (va_runV (As := [.long (M_chartWord p0.toNatClampNeg)]) (rest := []) C0.1 (c_X9_isAtom l dC dI cI cJ cB cZ aM H.size M_nodes M_operators M_textSize M_wordCount M_isParsed M_isTaken M_items M_piled M_outSize M_told M_standing M_elements M_elementCount (M_chartWord p0.toNatClampNeg) r_12 hc_13) (cwV 1 hts gX9_with_X9_isAtom rfl rfl rfl (by decide +kernel) ⟨Nat.le_of_ble_eq_true rfl, Nat.le_of_ble_eq_true rfl⟩) (cP_V (ci := 9) (q0 := 4) hK hN hP hD rfl rfl [4, 0, 1] (by decide) rfl) rfl rfl hl.1 rfl (lv_room (Nat.le_of_ble_eq_true rfl)) dX9_with_50 ⟨Nat.le_of_ble_eq_true rfl, Nat.le_of_ble_eq_true rfl⟩) hP hD hS hA [4, 0, 1] [2, 3, 5] rfl rfl (by decide) (by decide) (fun H locs hP hD hS => ?_)
              have hP : va_P (dC, dI) vwCl [((aM 13), .inl (cJ, 80, .inr (.inl M_chartWord))), ((aM 15), .inl (cI, 100860, .inl M_withOperator)), ((aM 14), .inl (cI, 2, .inl M_chartSize)), ((aM 0), .inr (9, oX9 aM M_nodes M_operators M_textSize M_wordCount M_isParsed M_isTaken M_items M_piled M_outSize M_told M_standing)), ((aM 4), .inl (cJ, 270, .inr (.inl M_elements))), ((aM 5), .inl (cI, 30, .inl M_elementCount))] H := hP
              have hD : va_D A [((aM 13), .inl (cJ, 80, .inr (.inl M_chartWord))), ((aM 15), .inl (cI, 100860, .inl M_withOperator)), ((aM 14), .inl (cI, 2, .inl M_chartSize)), ((aM 0), .inr (9, oX9 aM M_nodes M_operators M_textSize M_wordCount M_isParsed M_isTaken M_items M_piled M_outSize M_told M_standing)), ((aM 4), .inl (cJ, 270, .inr (.inl M_elements))), ((aM 5), .inl (cI, 30, .inl M_elementCount))] := hD
              refine lv_if_eq (tgt := 60) hx hb dX9_with_53 (by decide) (fun c_14 => ?_) (fun c_14 => ?_)
              · have hm := it_some c_14 hm
                refine lv_iconst (v := 0) hx hb dX9_with_60 (by decide) ?_
                refine lv_goto (tgt := 72) hx hb dX9_with_61 (by decide) ?_
                exact RET 0 hm _ H locs ls dX9_with_72 (P_sub' hP [3, 4, 5, 0, 2, 1] rfl) (hD.sub [3, 4, 5, 0, 2, 1] (by decide) rfl) hS
              · have hm := if_some' c_14 hm
                refine lv_iconst (v := 1) hx hb dX9_with_56 (by decide) ?_
                refine lv_goto (tgt := 72) hx hb dX9_with_57 (by decide) ?_
                exact RET 1 hm _ H locs ls dX9_with_72 (P_sub' hP [3, 4, 5, 0, 2, 1] rfl) (hD.sub [3, 4, 5, 0, 2, 1] (by decide) rfl) hS
        · have hm := if_some' c_6 hm
          refine lv_iconst (v := (-1)) hx hb dX9_with_32 (by decide) ?_
          exact RET (-1) hm _ H locs ls dX9_with_33 (P_sub' hP [4, 0, 1, 2, 5, 3] rfl) (hD.sub [4, 0, 1, 2, 5, 3] (by decide) rfl) hS
  · have hm := it_some c_1 hm
    refine lv_bipush (v := (-3)) hx hb dX9_with_7 (by decide) ?_
    exact RET (-3) hm _ H locs ls dX9_with_9 hP hD hS
set_option maxHeartbeats 4000000 in
set_option maxRecDepth 100000 in
theorem c_X9_with (l : Launch) (dC : Nat → ClassId) (dI : Nat → Nat → Nat) (cI cJ cB cZ : ClassId) (aM : Nat → Nat) (sz : Nat) (M_nodes : Int32) (M_operators : Int32) (M_textSize : Int32) (M_wordCount : Int32) (M_isParsed : Int32) (M_isTaken : Int32) (M_items : Int32) (M_piled : Int32) (M_outSize : Int32) (M_told : Int32) (M_standing : Int32) (M_elements : Nat → Int64) (M_elementCount : Nat → Int32) (M_chartWord : Nat → Int64) (M_chartSize : Nat → Int32) (M_withOperator : Nat → Int32) (p0 : Int32) (p1 : Int32) (p2 : Int32) (res : Int32) (hm : m_X9_with M_operators M_elements M_elementCount M_chartWord M_chartSize M_withOperator M_isParsed p0 p1 p2 = some res) : Met l yX9_with wsX9_with rm_X9_with (cP (dC, dI) vwCl [(cI, .int), (cJ, .long), (cB, .byte), (cZ, .boolean)] [.ref (aM 0), .int p0, .int p1, .int p2] [((aM 0), .inr (9, oX9 aM M_nodes M_operators M_textSize M_wordCount M_isParsed M_isTaken M_items M_piled M_outSize M_told M_standing)), ((aM 4), .inl (cJ, 270, .inr (.inl M_elements))), ((aM 5), .inl (cI, 30, .inl M_elementCount)), ((aM 13), .inl (cJ, 80, .inr (.inl M_chartWord))), ((aM 14), .inl (cI, 2, .inl M_chartSize)), ((aM 15), .inl (cI, 100860, .inl M_withOperator))] sz) (cQi res (dC, dI) vwCl [((aM 0), .inr (9, oX9 aM M_nodes M_operators M_textSize M_wordCount M_isParsed M_isTaken M_items M_piled M_outSize M_told M_standing)), ((aM 4), .inl (cJ, 270, .inr (.inl M_elements))), ((aM 5), .inl (cI, 30, .inl M_elementCount)), ((aM 13), .inl (cJ, 80, .inr (.inl M_chartWord))), ((aM 14), .inl (cI, 2, .inl M_chartSize)), ((aM 15), .inl (cI, 100860, .inl M_withOperator))] [((aM 0), .inr (9, oX9 aM M_nodes M_operators M_textSize M_wordCount M_isParsed M_isTaken M_items M_piled M_outSize M_told M_standing)), ((aM 4), .inl (cJ, 270, .inr (.inl M_elements))), ((aM 5), .inl (cI, 30, .inl M_elementCount)), ((aM 13), .inl (cJ, 80, .inr (.inl M_chartWord))), ((aM 14), .inl (cI, 2, .inl M_chartSize)), ((aM 15), .inl (cI, 100860, .inl M_withOperator))] sz) 0 0 (va_A [((aM 0), .inr (9, oX9 aM M_nodes M_operators M_textSize M_wordCount M_isParsed M_isTaken M_items M_piled M_outSize M_told M_standing)), ((aM 4), .inl (cJ, 270, .inr (.inl M_elements))), ((aM 5), .inl (cI, 30, .inl M_elementCount)), ((aM 13), .inl (cJ, 80, .inr (.inl M_chartWord))), ((aM 14), .inl (cI, 2, .inl M_chartSize)), ((aM 15), .inl (cI, 100860, .inl M_withOperator))] sz) := by
  refine cx_of (cc := cX9_with) (maxL := 4) (ret := (some .int)) (own := RX9) (by decide) rfl rfl (Nat.le_of_ble_eq_true rfl) ?_
  intro p e s m below meth c A C0 hinN hK hN hsz hAe hA hP hD hS ls hl
  refine k_X9_with_E C0 hK hN hA aM M_nodes M_operators M_textSize M_wordCount M_isParsed M_isTaken M_items M_piled M_outSize M_told M_standing M_elements M_elementCount M_chartWord M_chartSize M_withOperator res ?_ p0 p1 p2 hm _ _ hP hD hS ls hl
  intro v he pc H locs ls hdg hP hD hS
  have he := Option.some.inj he
  subst he
  exact cx_reti C0 hsz hAe hdg hP hD hS

