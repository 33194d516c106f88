/-- the fields of a MixfixDeskModel -/
abbrev oX9 (a : Nat → Nat) (nodes operators textSize wordCount isParsed isTaken items piled outSize told standing : Int32) : List Value := [.int nodes, .ref (a 2), .int operators, .ref (a 4), .ref (a 5), .ref (a 6), .ref (a 7), .ref (a 8), .ref (a 9), .int textSize, .ref (a 11), .int wordCount, .ref (a 13), .ref (a 14), .ref (a 15), .ref (a 16), .int isParsed, .ref (a 18), .ref (a 19), .int isTaken, .ref (a 21), .ref (a 22), .ref (a 23), .ref (a 24), .int items, .ref (a 26), .ref (a 27), .ref (a 28), .ref (a 29), .ref (a 30), .int piled, .ref (a 32), .int outSize, .ref (a 34), .ref (a 35), .ref (a 36), .ref (a 37), .ref (a 38), .ref (a 39), .ref (a 40), .ref (a 41), .ref (a 42), .ref (a 43), .ref (a 44), .ref (a 45), .ref (a 46), .ref (a 47), .int told, .ref (a 49), .ref (a 50), .ref (a 51), .ref (a 52), .int standing]
theorem dX9_findWords_0 : decode cX9_findWords 0 = .ok (.aload_n 0, 1) := by decide +kernel
theorem dX9_findWords_1 : decode cX9_findWords 1 = .ok (.iconst 0, 1) := by decide +kernel
theorem dX9_findWords_2 : decode cX9_findWords 2 = .ok (.putfield 145, 3) := by decide +kernel
theorem dX9_findWords_5 : decode cX9_findWords 5 = .ok (.iconst 0, 1) := by decide +kernel
theorem dX9_findWords_6 : decode cX9_findWords 6 = .ok (.istore_n 1, 1) := by decide +kernel
theorem dX9_findWords_7 : decode cX9_findWords 7 = .ok (.iconst 1, 1) := by decide +kernel
theorem dX9_findWords_8 : decode cX9_findWords 8 = .ok (.istore_n 2, 1) := by decide +kernel
theorem dX9_findWords_9 : decode cX9_findWords 9 = .ok (.iload_n 1, 1) := by decide +kernel
theorem dX9_findWords_10 : decode cX9_findWords 10 = .ok (.aload_n 0, 1) := by decide +kernel
theorem dX9_findWords_11 : decode cX9_findWords 11 = .ok (.getfield 148, 3) := by decide +kernel
theorem dX9_findWords_14 : decode cX9_findWords 14 = .ok (.if_icmp .ge 132, 3) := by decide +kernel
theorem dX9_findWords_17 : decode cX9_findWords 17 = .ok (.iload_n 2, 1) := by decide +kernel
theorem dX9_findWords_18 : decode cX9_findWords 18 = .ok (.ifCond .eq 128, 3) := by decide +kernel
theorem dX9_findWords_21 : decode cX9_findWords 21 = .ok (.aload_n 0, 1) := by decide +kernel
theorem dX9_findWords_22 : decode cX9_findWords 22 = .ok (.getfield 30, 3) := by decide +kernel
theorem dX9_findWords_25 : decode cX9_findWords 25 = .ok (.iload_n 1, 1) := by decide +kernel
theorem dX9_findWords_26 : decode cX9_findWords 26 = .ok (.iaload, 1) := by decide +kernel
theorem dX9_findWords_27 : decode cX9_findWords 27 = .ok (.bipush 32, 2) := by decide +kernel
theorem dX9_findWords_29 : decode cX9_findWords 29 = .ok (.if_icmp .ne 9, 3) := by decide +kernel
theorem dX9_findWords_32 : decode cX9_findWords 32 = .ok (.iinc 1 1, 3) := by decide +kernel
theorem dX9_findWords_35 : decode cX9_findWords 35 = .ok (.goto (-26), 3) := by decide +kernel
theorem dX9_findWords_38 : decode cX9_findWords 38 = .ok (.lconst 0, 1) := by decide +kernel
theorem dX9_findWords_39 : decode cX9_findWords 39 = .ok (.lstore_n 3, 1) := by decide +kernel
theorem dX9_findWords_40 : decode cX9_findWords 40 = .ok (.iconst 0, 1) := by decide +kernel
theorem dX9_findWords_41 : decode cX9_findWords 41 = .ok (.istore 5, 2) := by decide +kernel
theorem dX9_findWords_43 : decode cX9_findWords 43 = .ok (.iload_n 1, 1) := by decide +kernel
theorem dX9_findWords_44 : decode cX9_findWords 44 = .ok (.aload_n 0, 1) := by decide +kernel
theorem dX9_findWords_45 : decode cX9_findWords 45 = .ok (.getfield 148, 3) := by decide +kernel
theorem dX9_findWords_48 : decode cX9_findWords 48 = .ok (.if_icmp .ge 75, 3) := by decide +kernel
theorem dX9_findWords_51 : decode cX9_findWords 51 = .ok (.aload_n 0, 1) := by decide +kernel
theorem dX9_findWords_52 : decode cX9_findWords 52 = .ok (.getfield 30, 3) := by decide +kernel
theorem dX9_findWords_55 : decode cX9_findWords 55 = .ok (.iload_n 1, 1) := by decide +kernel
theorem dX9_findWords_56 : decode cX9_findWords 56 = .ok (.iaload, 1) := by decide +kernel
theorem dX9_findWords_57 : decode cX9_findWords 57 = .ok (.bipush 32, 2) := by decide +kernel
theorem dX9_findWords_59 : decode cX9_findWords 59 = .ok (.if_icmp .eq 64, 3) := by decide +kernel
theorem dX9_findWords_62 : decode cX9_findWords 62 = .ok (.iload_n 2, 1) := by decide +kernel
theorem dX9_findWords_63 : decode cX9_findWords 63 = .ok (.ifCond .eq 60, 3) := by decide +kernel
theorem dX9_findWords_66 : decode cX9_findWords 66 = .ok (.aload_n 0, 1) := by decide +kernel
theorem dX9_findWords_67 : decode cX9_findWords 67 = .ok (.getfield 30, 3) := by decide +kernel
theorem dX9_findWords_70 : decode cX9_findWords 70 = .ok (.iload_n 1, 1) := by decide +kernel
theorem dX9_findWords_71 : decode cX9_findWords 71 = .ok (.iaload, 1) := by decide +kernel
theorem dX9_findWords_72 : decode cX9_findWords 72 = .ok (.bipush 33, 2) := by decide +kernel
theorem dX9_findWords_74 : decode cX9_findWords 74 = .ok (.if_icmp .lt 25, 3) := by decide +kernel
theorem dX9_findWords_77 : decode cX9_findWords 77 = .ok (.aload_n 0, 1) := by decide +kernel
theorem dX9_findWords_78 : decode cX9_findWords 78 = .ok (.getfield 30, 3) := by decide +kernel
theorem dX9_findWords_81 : decode cX9_findWords 81 = .ok (.iload_n 1, 1) := by decide +kernel
theorem dX9_findWords_82 : decode cX9_findWords 82 = .ok (.iaload, 1) := by decide +kernel
theorem dX9_findWords_83 : decode cX9_findWords 83 = .ok (.bipush 126, 2) := by decide +kernel
theorem dX9_findWords_85 : decode cX9_findWords 85 = .ok (.if_icmp .gt 14, 3) := by decide +kernel
theorem dX9_findWords_88 : decode cX9_findWords 88 = .ok (.iload 5, 2) := by decide +kernel
theorem dX9_findWords_90 : decode cX9_findWords 90 = .ok (.bipush 8, 2) := by decide +kernel
theorem dX9_findWords_92 : decode cX9_findWords 92 = .ok (.if_icmp .ge 7, 3) := by decide +kernel
theorem dX9_findWords_95 : decode cX9_findWords 95 = .ok (.iconst 1, 1) := by decide +kernel
theorem dX9_findWords_96 : decode cX9_findWords 96 = .ok (.goto 4, 3) := by decide +kernel
theorem dX9_findWords_99 : decode cX9_findWords 99 = .ok (.iconst 0, 1) := by decide +kernel
theorem dX9_findWords_100 : decode cX9_findWords 100 = .ok (.istore_n 2, 1) := by decide +kernel
theorem dX9_findWords_101 : decode cX9_findWords 101 = .ok (.lload_n 3, 1) := by decide +kernel
theorem dX9_findWords_102 : decode cX9_findWords 102 = .ok (.bipush 8, 2) := by decide +kernel
theorem dX9_findWords_104 : decode cX9_findWords 104 = .ok (.lshl, 1) := by decide +kernel
theorem dX9_findWords_105 : decode cX9_findWords 105 = .ok (.aload_n 0, 1) := by decide +kernel
theorem dX9_findWords_106 : decode cX9_findWords 106 = .ok (.getfield 30, 3) := by decide +kernel
theorem dX9_findWords_109 : decode cX9_findWords 109 = .ok (.iload_n 1, 1) := by decide +kernel
theorem dX9_findWords_110 : decode cX9_findWords 110 = .ok (.iaload, 1) := by decide +kernel
theorem dX9_findWords_111 : decode cX9_findWords 111 = .ok (.i2l, 1) := by decide +kernel
theorem dX9_findWords_112 : decode cX9_findWords 112 = .ok (.lor, 1) := by decide +kernel
theorem dX9_findWords_113 : decode cX9_findWords 113 = .ok (.lstore_n 3, 1) := by decide +kernel
theorem dX9_findWords_114 : decode cX9_findWords 114 = .ok (.iinc 5 1, 3) := by decide +kernel
theorem dX9_findWords_117 : decode cX9_findWords 117 = .ok (.iinc 1 1, 3) := by decide +kernel
theorem dX9_findWords_120 : decode cX9_findWords 120 = .ok (.goto (-77), 3) := by decide +kernel
theorem dX9_findWords_123 : decode cX9_findWords 123 = .ok (.aload_n 0, 1) := by decide +kernel
theorem dX9_findWords_124 : decode cX9_findWords 124 = .ok (.getfield 33, 3) := by decide +kernel
theorem dX9_findWords_127 : decode cX9_findWords 127 = .ok (.aload_n 0, 1) := by decide +kernel
theorem dX9_findWords_128 : decode cX9_findWords 128 = .ok (.getfield 145, 3) := by decide +kernel
theorem dX9_findWords_131 : decode cX9_findWords 131 = .ok (.lload_n 3, 1) := by decide +kernel
theorem dX9_findWords_132 : decode cX9_findWords 132 = .ok (.lastore, 1) := by decide +kernel
theorem dX9_findWords_133 : decode cX9_findWords 133 = .ok (.aload_n 0, 1) := by decide +kernel
theorem dX9_findWords_134 : decode cX9_findWords 134 = .ok (.dup, 1) := by decide +kernel
theorem dX9_findWords_135 : decode cX9_findWords 135 = .ok (.getfield 145, 3) := by decide +kernel
theorem dX9_findWords_138 : decode cX9_findWords 138 = .ok (.iconst 1, 1) := by decide +kernel
theorem dX9_findWords_139 : decode cX9_findWords 139 = .ok (.iadd, 1) := by decide +kernel
theorem dX9_findWords_140 : decode cX9_findWords 140 = .ok (.putfield 145, 3) := by decide +kernel
theorem dX9_findWords_143 : decode cX9_findWords 143 = .ok (.goto (-134), 3) := by decide +kernel
theorem dX9_findWords_146 : decode cX9_findWords 146 = .ok (.iload_n 2, 1) := by decide +kernel
theorem dX9_findWords_147 : decode cX9_findWords 147 = .ok (.ireturn, 1) := by decide +kernel
/-! MixfixDeskModel.findWords()Z -/
abbrev rm_X9_findWords : Room := { frames := 0, cells := 0, slots := 0, locals := 0 }
theorem X9_findWords_inX9 : ∀ w ∈ wsX90, w ∈ wsX9_findWords := by exact fun w h => List.mem_cons_of_mem _ (List.mem_append_right _ h)
abbrev RT_X9_findWords (p : Program) (l : Launch) (e : Env) (s : State) (m : MethodId) (args : Array Value) (below : List Frame) (meth : Method) (c : Code) (Q : State → Prop) (dC : Nat → ClassId) (dI : Nat → Nat → Nat) (cI cJ cB cZ : ClassId) (A : Nat → Prop) (aM : Nat → Nat) (M_nodes : Int32) (M_operators : Int32) (M_textSize : Int32) (M_isParsed : Int32) (M_isTaken : Int32) (M_items : Int32) (M_piled : Int32) (M_outSize : Int32) (M_told : Int32) (M_standing : Int32) (M_text : Nat → Int32) (res : Int32 × (Nat → Int64) × Int32) : Prop := ∀ (v : Int32) (M_word : Nat → Int64) (M_wordCount : Int32), some (v, M_word, M_wordCount) = some res → narrow .boolean (.int v) = .int v → ∀ (pc : Nat) (H : Heap) (locs : List Loc) (ls : Array Slot), decode cX9_findWords pc = .ok (.ireturn, 1) → va_P (dC, dI) vwCl [((aM 0), .inr (9, oX9 aM M_nodes M_operators M_textSize M_wordCount M_isParsed M_isTaken M_items M_piled M_outSize M_told M_standing)), ((aM 9), .inl (cI, 1500, .inl M_text)), ((aM 11), .inl (cJ, 760, .inr (.inl M_word)))] H → va_D A [((aM 0), .inr (9, oX9 aM M_nodes M_operators M_textSize M_wordCount M_isParsed M_isTaken M_items M_piled M_outSize M_told M_standing)), ((aM 9), .inl (cI, 1500, .inl M_text)), ((aM 11), .inl (cJ, 760, .inr (.inl M_word)))] → va_S A s.heap H locs → W p l e rm_X9_findWords s m args below meth c H locs 0 0 Q (F0 m pc ls [.int v])
set_option maxHeartbeats 4000000 in
set_option maxRecDepth 100000 in
theorem k_X9_findWords_100 {p : Program} {l : Launch} {e : Env} {s : State} {m : MethodId} {args : Array Value} {below : List Frame} {meth : Method} {c : Code} {Q : State → Prop} {dC : Nat → ClassId} {dI : Nat → Nat → Nat} {cI cJ cB cZ : ClassId} {A : Nat → Prop} (C0 : Cx p s m meth c args cX9_findWords 6 (some .boolean) wsX9_findWords RX9) (hK : va_K (dC, dI) vwCl [(cI, .int), (cJ, .long), (cB, .byte), (cZ, .boolean)] s) (hN : NW s) (hA : ∀ q, s.heap.size ≤ q → A q) (aM : Nat → Nat) (M_nodes : Int32) (M_operators : Int32) (M_textSize : Int32) (M_isParsed : Int32) (M_isTaken : Int32) (M_items : Int32) (M_piled : Int32) (M_outSize : Int32) (M_told : Int32) (M_standing : Int32) (M_text : Nat → Int32) (res : Int32 × (Nat → Int64) × Int32) (RET : RT_X9_findWords p l e s m args below meth c Q dC dI cI cJ cB cZ A aM M_nodes M_operators M_textSize M_isParsed M_isTaken M_items M_piled M_outSize M_told M_standing M_text res) (k9 : (Nat → Int64) → Int32 → Int32 → Int32 → Option (Int32 × (Nat → Int64) × Int32)) (k43 : (Nat → Int64) → Int32 → Int32 → Int32 → Int64 → Int32 → Option (Int32 × (Nat → Int64) × Int32)) (hk9 : ∀ (M_word : Nat → Int64) (M_wordCount : Int32) (x1 : Int32) (x2 : Int32), k9 M_word M_wordCount x1 x2 = some res → ∀ (H : Heap) (locs : List Loc), va_P (dC, dI) vwCl [((aM 0), .inr (9, oX9 aM M_nodes M_operators M_textSize M_wordCount M_isParsed M_isTaken M_items M_piled M_outSize M_told M_standing)), ((aM 9), .inl (cI, 1500, .inl M_text)), ((aM 11), .inl (cJ, 760, .inr (.inl M_word)))] H → va_D A [((aM 0), .inr (9, oX9 aM M_nodes M_operators M_textSize M_wordCount M_isParsed M_isTaken M_items M_piled M_outSize M_told M_standing)), ((aM 9), .inl (cI, 1500, .inl M_text)), ((aM 11), .inl (cJ, 760, .inr (.inl M_word)))] → va_S A s.heap H locs → ∀ (ls : Array Slot), lv_has ls 6 [(0, .ref (aM 0)), (1, .int x1), (2, .int x2)] → W p l e rm_X9_findWords s m args below meth c H locs 0 0 Q (F0 m 9 ls [])) (hk43 : ∀ (M_word : Nat → Int64) (M_wordCount : Int32) (x1 : Int32) (x2 : Int32) (x3 : Int64) (x5 : Int32), k43 M_word M_wordCount x1 x2 x3 x5 = some res → ∀ (H : Heap) (locs : List Loc), va_P (dC, dI) vwCl [((aM 0), .inr (9, oX9 aM M_nodes M_operators M_textSize M_wordCount M_isParsed M_isTaken M_items M_piled M_outSize M_told M_standing)), ((aM 9), .inl (cI, 1500, .inl M_text)), ((aM 11), .inl (cJ, 760, .inr (.inl M_word)))] H → va_D A [((aM 0), .inr (9, oX9 aM M_nodes M_operators M_textSize M_wordCount M_isParsed M_isTaken M_items M_piled M_outSize M_told M_standing)), ((aM 9), .inl (cI, 1500, .inl M_text)), ((aM 11), .inl (cJ, 760, .inr (.inl M_word)))] → va_S A s.heap H locs → ∀ (ls : Array Slot), lv_has ls 6 [(0, .ref (aM 0)), (1, .int x1), (2, .int x2), (3, .long x3), (5, .int x5)] → W p l e rm_X9_findWords s m args below meth c H locs 0 0 Q (F0 m 43 ls [])) : ∀ (M_word : Nat → Int64) (M_wordCount : Int32) (x1 : Int32) (x3 : Int64) (x5 : Int32) (y0 : Int32), m_X9_findWords_100 M_textSize M_text k9 k43 M_word M_wordCount x1 x3 x5 y0 = some res → ∀ (H : Heap) (locs : List Loc), va_P (dC, dI) vwCl [((aM 0), .inr (9, oX9 aM M_nodes M_operators M_textSize M_wordCount M_isParsed M_isTaken M_items M_piled M_outSize M_told M_standing)), ((aM 9), .inl (cI, 1500, .inl M_text)), ((aM 11), .inl (cJ, 760, .inr (.inl M_word)))] H → va_D A [((aM 0), .inr (9, oX9 aM M_nodes M_operators M_textSize M_wordCount M_isParsed M_isTaken M_items M_piled M_outSize M_told M_standing)), ((aM 9), .inl (cI, 1500, .inl M_text)), ((aM 11), .inl (cJ, 760, .inr (.inl M_word)))] → va_S A s.heap H locs → ∀ (ls : Array Slot), lv_has ls 6 [(0, .ref (aM 0)), (1, .int x1), (3, .long x3), (5, .int x5)] → W p l e rm_X9_findWords s m args below meth c H locs 0 0 Q (F0 m 100 ls [.int y0]) := by
  obtain ⟨⟨hx, hb, hml, hown, hts⟩, hr, hlocks⟩ := id C0
  intro M_word M_wordCount x1 x3 x5 y0 hm H locs hP hD hS ls hl
  have hm : (gd x1 1500 (k43 M_word M_wordCount (x1 + 1) y0 ((x3 <<< ((8 : Int32).toInt64 &&& 63)) ||| ((M_text x1.toNatClampNeg).toInt64)) (x5 + 1))) = some res := hm
  refine lv_istore_n (lv' := [(2, .int y0), (0, .ref (aM 0)), (1, .int x1), (3, .long x3), (5, .int x5)]) hx hb dX9_findWords_100 rfl hl (by decide) rfl (fun ls hl => ?_)
  refine lv_lload_n hx hb dX9_findWords_101 rfl (lv_at hl 3 rfl) ?_
  refine lv_bipush (v := 8) hx hb dX9_findWords_102 (by decide) ?_
  refine lv_lshl (v := x3 <<< ((8 : Int32).toInt64 &&& 63)) hx hb dX9_findWords_104 rfl ?_
  refine lv_aload_n hx hb dX9_findWords_105 rfl (lv_at hl 1 rfl) ?_
  refine va_get (D := (dC, dI)) (ci := 9) (v := .ref (aM 9)) (C := RX9) (T := TX9) (N := 53) hx hb hts X9_findWords_inX9 hown hK hP 0 rfl rfl 8 (by decide) (hts (.fieldLink RX9 30 "MixfixDeskModel" "text" "[I") (List.mem_of_getElem? (i := 3) rfl)) (fun _ h9 => h9) rfl dX9_findWords_106 ?_
  refine lv_iload_n hx hb dX9_findWords_109 rfl (lv_at hl 2 rfl) ?_
  obtain ⟨hi_1, hm⟩ := gd_some hm
  refine va_iald (D := (dC, dI)) hx hb hK hP 1 0 rfl rfl hi_1 dX9_findWords_110 ?_
  refine lv_i2l (v := (M_text x1.toNatClampNeg).toInt64) hx hb dX9_findWords_111 rfl ?_
  refine lv_lor hx hb dX9_findWords_112 ?_
  refine lv_lstore_n (lv' := [(3, .long ((x3 <<< ((8 : Int32).toInt64 &&& 63)) ||| ((M_text x1.toNatClampNeg).toInt64))), (2, .int y0), (0, .ref (aM 0)), (1, .int x1), (5, .int x5)]) hx hb dX9_findWords_113 rfl hl (by decide) rfl (fun ls hl => ?_)
  refine lv_iinc (v := x5 + 1) (lv' := [(5, .int (x5 + 1)), (3, .long ((x3 <<< ((8 : Int32).toInt64 &&& 63)) ||| ((M_text x1.toNatClampNeg).toInt64))), (2, .int y0), (0, .ref (aM 0)), (1, .int x1)]) hx hb dX9_findWords_114 hl (k := 4) rfl rfl (by decide) rfl (fun ls hl => ?_)
  refine lv_iinc (v := x1 + 1) (lv' := [(1, .int (x1 + 1)), (5, .int (x5 + 1)), (3, .long ((x3 <<< ((8 : Int32).toInt64 &&& 63)) ||| ((M_text x1.toNatClampNeg).toInt64))), (2, .int y0), (0, .ref (aM 0))]) hx hb dX9_findWords_117 hl (k := 4) rfl rfl (by decide) rfl (fun ls hl => ?_)
  refine lv_goto (tgt := 43) hx hb dX9_findWords_120 (by decide) ?_
  exact hk43 M_word M_wordCount (x1 + 1) y0 ((x3 <<< ((8 : Int32).toInt64 &&& 63)) ||| ((M_text x1.toNatClampNeg).toInt64)) (x5 + 1) hm H locs hP hD hS ls (lv_sub hl [4, 0, 3, 2, 1] rfl)
set_option maxHeartbeats 4000000 in
set_option maxRecDepth 100000 in
theorem k_X9_findWords_99 {p : Program} {l : Launch} {e : Env} {s : State} {m : MethodId} {args : Array Value} {below : List Frame} {meth : Method} {c : Code} {Q : State → Prop} {dC : Nat → ClassId} {dI : Nat → Nat → Nat} {cI cJ cB cZ : ClassId} {A : Nat → Prop} (C0 : Cx p s m meth c args cX9_findWords 6 (some .boolean) wsX9_findWords RX9) (hK : va_K (dC, dI) vwCl [(cI, .int), (cJ, .long), (cB, .byte), (cZ, .boolean)] s) (hN : NW s) (hA : ∀ q, s.heap.size ≤ q → A q) (aM : Nat → Nat) (M_nodes : Int32) (M_operators : Int32) (M_textSize : Int32) (M_isParsed : Int32) (M_isTaken : Int32) (M_items : Int32) (M_piled : Int32) (M_outSize : Int32) (M_told : Int32) (M_standing : Int32) (M_text : Nat → Int32) (res : Int32 × (Nat → Int64) × Int32) (RET : RT_X9_findWords p l e s m args below meth c Q dC dI cI cJ cB cZ A aM M_nodes M_operators M_textSize M_isParsed M_isTaken M_items M_piled M_outSize M_told M_standing M_text res) (k9 : (Nat → Int64) → Int32 → Int32 → Int32 → Option (Int32 × (Nat → Int64) × Int32)) (k43 : (Nat → Int64) → Int32 → Int32 → Int32 → Int64 → Int32 → Option (Int32 × (Nat → Int64) × Int32)) (hk9 : ∀ (M_word : Nat → Int64) (M_wordCount : Int32) (x1 : Int32) (x2 : Int32), k9 M_word M_wordCount x1 x2 = some res → ∀ (H : Heap) (locs : List Loc), va_P (dC, dI) vwCl [((aM 0), .inr (9, oX9 aM M_nodes M_operators M_textSize M_wordCount M_isParsed M_isTaken M_items M_piled M_outSize M_told M_standing)), ((aM 9), .inl (cI, 1500, .inl M_text)), ((aM 11), .inl (cJ, 760, .inr (.inl M_word)))] H → va_D A [((aM 0), .inr (9, oX9 aM M_nodes M_operators M_textSize M_wordCount M_isParsed M_isTaken M_items M_piled M_outSize M_told M_standing)), ((aM 9), .inl (cI, 1500, .inl M_text)), ((aM 11), .inl (cJ, 760, .inr (.inl M_word)))] → va_S A s.heap H locs → ∀ (ls : Array Slot), lv_has ls 6 [(0, .ref (aM 0)), (1, .int x1), (2, .int x2)] → W p l e rm_X9_findWords s m args below meth c H locs 0 0 Q (F0 m 9 ls [])) (hk43 : ∀ (M_word : Nat → Int64) (M_wordCount : Int32) (x1 : Int32) (x2 : Int32) (x3 : Int64) (x5 : Int32), k43 M_word M_wordCount x1 x2 x3 x5 = some res → ∀ (H : Heap) (locs : List Loc), va_P (dC, dI) vwCl [((aM 0), .inr (9, oX9 aM M_nodes M_operators M_textSize M_wordCount M_isParsed M_isTaken M_items M_piled M_outSize M_told M_standing)), ((aM 9), .inl (cI, 1500, .inl M_text)), ((aM 11), .inl (cJ, 760, .inr (.inl M_word)))] H → va_D A [((aM 0), .inr (9, oX9 aM M_nodes M_operators M_textSize M_wordCount M_isParsed M_isTaken M_items M_piled M_outSize M_told M_standing)), ((aM 9), .inl (cI, 1500, .inl M_text)), ((aM 11), .inl (cJ, 760, .inr (.inl M_word)))] → va_S A s.heap H locs → ∀ (ls : Array Slot), lv_has ls 6 [(0, .ref (aM 0)), (1, .int x1), (2, .int x2), (3, .long x3), (5, .int x5)] → W p l e rm_X9_findWords s m args below meth c H locs 0 0 Q (F0 m 43 ls [])) : ∀ (M_word : Nat → Int64) (M_wordCount : Int32) (x1 : Int32) (x3 : Int64) (x5 : Int32), m_X9_findWords_99 M_textSize M_text k9 k43 M_word M_wordCount x1 x3 x5 = some res → ∀ (H : Heap) (locs : List Loc), va_P (dC, dI) vwCl [((aM 0), .inr (9, oX9 aM M_nodes M_operators M_textSize M_wordCount M_isParsed M_isTaken M_items M_piled M_outSize M_told M_standing)), ((aM 9), .inl (cI, 1500, .inl M_text)), ((aM 11), .inl (cJ, 760, .inr (.inl M_word)))] H → va_D A [((aM 0), .inr (9, oX9 aM M_nodes M_operators M_textSize M_wordCount M_isParsed M_isTaken M_items M_piled M_outSize M_told M_standing)), ((aM 9), .inl (cI, 1500, .inl M_text)), ((aM 11), .inl (cJ, 760, .inr (.inl M_word)))] → va_S A s.heap H locs → ∀ (ls : Array Slot), lv_has ls 6 [(0, .ref (aM 0)), (1, .int x1), (3, .long x3), (5, .int x5)] → W p l e rm_X9_findWords s m args below meth c H locs 0 0 Q (F0 m 99 ls []) := by
  obtain ⟨⟨hx, hb, hml, hown, hts⟩, hr, hlocks⟩ := id C0
  intro M_word M_wordCount x1 x3 x5 hm H locs hP hD hS ls hl
  have hm : (m_X9_findWords_100 M_textSize M_text k9 k43 M_word M_wordCount x1 x3 x5 0) = some res := hm
  refine lv_iconst (v := 0) hx hb dX9_findWords_99 (by decide) ?_
  exact k_X9_findWords_100 C0 hK hN hA aM M_nodes M_operators M_textSize M_isParsed M_isTaken M_items M_piled M_outSize M_told M_standing M_text res RET k9 k43 hk9 hk43 M_word M_wordCount x1 x3 x5 0 hm H locs hP hD hS ls hl
set_option maxHeartbeats 4000000 in
set_option maxRecDepth 100000 in
theorem k_X9_findWords_123 {p : Program} {l : Launch} {e : Env} {s : State} {m : MethodId} {args : Array Value} {below : List Frame} {meth : Method} {c : Code} {Q : State → Prop} {dC : Nat → ClassId} {dI : Nat → Nat → Nat} {cI cJ cB cZ : ClassId} {A : Nat → Prop} (C0 : Cx p s m meth c args cX9_findWords 6 (some .boolean) wsX9_findWords RX9) (hK : va_K (dC, dI) vwCl [(cI, .int), (cJ, .long), (cB, .byte), (cZ, .boolean)] s) (hN : NW s) (hA : ∀ q, s.heap.size ≤ q → A q) (aM : Nat → Nat) (M_nodes : Int32) (M_operators : Int32) (M_textSize : Int32) (M_isParsed : Int32) (M_isTaken : Int32) (M_items : Int32) (M_piled : Int32) (M_outSize : Int32) (M_told : Int32) (M_standing : Int32) (M_text : Nat → Int32) (res : Int32 × (Nat → Int64) × Int32) (RET : RT_X9_findWords p l e s m args below meth c Q dC dI cI cJ cB cZ A aM M_nodes M_operators M_textSize M_isParsed M_isTaken M_items M_piled M_outSize M_told M_standing M_text res) (k9 : (Nat → Int64) → Int32 → Int32 → Int32 → Option (Int32 × (Nat → Int64) × Int32)) (hk9 : ∀ (M_word : Nat → Int64) (M_wordCount : Int32) (x1 : Int32) (x2 : Int32), k9 M_word M_wordCount x1 x2 = some res → ∀ (H : Heap) (locs : List Loc), va_P (dC, dI) vwCl [((aM 0), .inr (9, oX9 aM M_nodes M_operators M_textSize M_wordCount M_isParsed M_isTaken M_items M_piled M_outSize M_told M_standing)), ((aM 9), .inl (cI, 1500, .inl M_text)), ((aM 11), .inl (cJ, 760, .inr (.inl M_word)))] H → va_D A [((aM 0), .inr (9, oX9 aM M_nodes M_operators M_textSize M_wordCount M_isParsed M_isTaken M_items M_piled M_outSize M_told M_standing)), ((aM 9), .inl (cI, 1500, .inl M_text)), ((aM 11), .inl (cJ, 760, .inr (.inl M_word)))] → va_S A s.heap H locs → ∀ (ls : Array Slot), lv_has ls 6 [(0, .ref (aM 0)), (1, .int x1), (2, .int x2)] → W p l e rm_X9_findWords s m args below meth c H locs 0 0 Q (F0 m 9 ls [])) : ∀ (M_word : Nat → Int64) (M_wordCount : Int32) (x1 : Int32) (x2 : Int32) (x3 : Int64), m_X9_findWords_123 M_textSize M_text k9 M_word M_wordCount x1 x2 x3 = some res → ∀ (H : Heap) (locs : List Loc), va_P (dC, dI) vwCl [((aM 0), .inr (9, oX9 aM M_nodes M_operators M_textSize M_wordCount M_isParsed M_isTaken M_items M_piled M_outSize M_told M_standing)), ((aM 9), .inl (cI, 1500, .inl M_text)), ((aM 11), .inl (cJ, 760, .inr (.inl M_word)))] H → va_D A [((aM 0), .inr (9, oX9 aM M_nodes M_operators M_textSize M_wordCount M_isParsed M_isTaken M_items M_piled M_outSize M_told M_standing)), ((aM 9), .inl (cI, 1500, .inl M_text)), ((aM 11), .inl (cJ, 760, .inr (.inl M_word)))] → va_S A s.heap H locs → ∀ (ls : Array Slot), lv_has ls 6 [(0, .ref (aM 0)), (1, .int x1), (2, .int x2), (3, .long x3)] → W p l e rm_X9_findWords s m args below meth c H locs 0 0 Q (F0 m 123 ls []) := by
  obtain ⟨⟨hx, hb, hml, hown, hts⟩, hr, hlocks⟩ := id C0
  intro M_word M_wordCount x1 x2 x3 hm H locs hP hD hS ls hl
  have hm : (gd M_wordCount 760 (k9 (vp_updL M_word M_wordCount.toNatClampNeg x3) (M_wordCount + 1) x1 x2)) = some res := hm
  refine lv_aload_n hx hb dX9_findWords_123 rfl (lv_at hl 0 rfl) ?_
  refine va_get (D := (dC, dI)) (ci := 9) (v := .ref (aM 11)) (C := RX9) (T := TX9) (N := 53) hx hb hts X9_findWords_inX9 hown hK hP 0 rfl rfl 10 (by decide) (hts (.fieldLink RX9 33 "MixfixDeskModel" "word" "[J") (List.mem_of_getElem? (i := 4) rfl)) (fun _ h9 => h9) rfl dX9_findWords_124 ?_
  refine lv_aload_n hx hb dX9_findWords_127 rfl (lv_at hl 0 rfl) ?_
  refine va_get (D := (dC, dI)) (ci := 9) (v := .int M_wordCount) (C := RX9) (T := TX9) (N := 53) hx hb hts X9_findWords_inX9 hown hK hP 0 rfl rfl 11 (by decide) (hts (.fieldLink RX9 145 "MixfixDeskModel" "wordCount" "I") (List.mem_of_getElem? (i := 1) rfl)) (fun _ h9 => h9) rfl dX9_findWords_128 ?_
  refine lv_lload_n hx hb dX9_findWords_131 rfl (lv_at hl 3 rfl) ?_
  obtain ⟨hi_2, hm⟩ := gd_some hm
  refine va_last (D := (dC, dI)) hx hb hK hP hD hS 2 1 rfl rfl hi_2 dX9_findWords_132 (fun H locs hP hD hS => ?_)
  have hP : va_P (dC, dI) vwCl [((aM 0), .inr (9, oX9 aM M_nodes M_operators M_textSize M_wordCount M_isParsed M_isTaken M_items M_piled M_outSize M_told M_standing)), ((aM 9), .inl (cI, 1500, .inl M_text)), ((aM 11), .inl (cJ, 760, .inr (.inl (vp_updL M_word M_wordCount.toNatClampNeg x3))))] H := hP
  have hD : va_D A [((aM 0), .inr (9, oX9 aM M_nodes M_operators M_textSize M_wordCount M_isParsed M_isTaken M_items M_piled M_outSize M_told M_standing)), ((aM 9), .inl (cI, 1500, .inl M_text)), ((aM 11), .inl (cJ, 760, .inr (.inl (vp_updL M_word M_wordCount.toNatClampNeg x3))))] := hD
  refine lv_aload_n hx hb dX9_findWords_133 rfl (lv_at hl 0 rfl) ?_
  refine lv_dup hx hb dX9_findWords_134 rfl ?_
  refine va_get (D := (dC, dI)) (ci := 9) (v := .int M_wordCount) (C := RX9) (T := TX9) (N := 53) hx hb hts X9_findWords_inX9 hown hK hP 0 rfl rfl 11 (by decide) (hts (.fieldLink RX9 145 "MixfixDeskModel" "wordCount" "I") (List.mem_of_getElem? (i := 1) rfl)) (fun _ h9 => h9) rfl dX9_findWords_135 ?_
  refine lv_iconst (v := 1) hx hb dX9_findWords_138 (by decide) ?_
  refine lv_iadd hx hb dX9_findWords_139 ?_
  refine va_put (D := (dC, dI)) (ci := 9) (v := .int (M_wordCount + 1)) (ty := .int) (C := RX9) (T := TX9) (N := 53) hx hb hts X9_findWords_inX9 tyX9 tyX9_ok nmX9 hown hK hP hD hS 0 rfl rfl 11 (by decide) (hts (.fieldLink RX9 145 "MixfixDeskModel" "wordCount" "I") (List.mem_of_getElem? (i := 1) rfl)) (fun _ h9 => h9) rfl (by decide +kernel) rfl rfl (Nat.le_of_ble_eq_true rfl) dX9_findWords_140 (fun H locs hP hD hS => ?_)
  have hP : va_P (dC, dI) vwCl [((aM 0), .inr (9, oX9 aM M_nodes M_operators M_textSize (M_wordCount + 1) M_isParsed M_isTaken M_items M_piled M_outSize M_told M_standing)), ((aM 9), .inl (cI, 1500, .inl M_text)), ((aM 11), .inl (cJ, 760, .inr (.inl (vp_updL M_word M_wordCount.toNatClampNeg x3))))] H := hP
  have hD : va_D A [((aM 0), .inr (9, oX9 aM M_nodes M_operators M_textSize (M_wordCount + 1) M_isParsed M_isTaken M_items M_piled M_outSize M_told M_standing)), ((aM 9), .inl (cI, 1500, .inl M_text)), ((aM 11), .inl (cJ, 760, .inr (.inl (vp_updL M_word M_wordCount.toNatClampNeg x3))))] := hD
  refine lv_goto (tgt := 9) hx hb dX9_findWords_143 (by decide) ?_
  exact hk9 (vp_updL M_word M_wordCount.toNatClampNeg x3) (M_wordCount + 1) x1 x2 hm H locs hP hD hS ls (lv_sub hl [0, 1, 2] rfl)
set_option maxHeartbeats 4000000 in
set_option maxRecDepth 100000 in
theorem k_X9_findWords_43 {p : Program} {l : Launch} {e : Env} {s : State} {m : MethodId} {args : Array Value} {below : List Frame} {meth : Method} {c : Code} {Q : State → Prop} {dC : Nat → ClassId} {dI : Nat → Nat → Nat} {cI cJ cB cZ : ClassId} {A : Nat → Prop} (C0 : Cx p s m meth c args cX9_findWords 6 (some .boolean) wsX9_findWords RX9) (hK : va_K (dC, dI) vwCl [(cI, .int), (cJ, .long), (cB, .byte), (cZ, .boolean)] s) (hN : NW s) (hA : ∀ q, s.heap.size ≤ q → A q) (aM : Nat → Nat) (M_nodes : Int32) (M_operators : Int32) (M_textSize : Int32) (M_isParsed : Int32) (M_isTaken : Int32) (M_items : Int32) (M_piled : Int32) (M_outSize : Int32) (M_told : Int32) (M_standing : Int32) (M_text : Nat → Int32) (res : Int32 × (Nat → Int64) × Int32) (RET : RT_X9_findWords p l e s m args below meth c Q dC dI cI cJ cB cZ A aM M_nodes M_operators M_textSize M_isParsed M_isTaken M_items M_piled M_outSize M_told M_standing M_text res) (k9 : (Nat → Int64) → Int32 → Int32 → Int32 → Option (Int32 × (Nat → Int64) × Int32)) (hk9 : ∀ (M_word : Nat → Int64) (M_wordCount : Int32) (x1 : Int32) (x2 : Int32), k9 M_word M_wordCount x1 x2 = some res → ∀ (H : Heap) (locs : List Loc), va_P (dC, dI) vwCl [((aM 0), .inr (9, oX9 aM M_nodes M_operators M_textSize M_wordCount M_isParsed M_isTaken M_items M_piled M_outSize M_told M_standing)), ((aM 9), .inl (cI, 1500, .inl M_text)), ((aM 11), .inl (cJ, 760, .inr (.inl M_word)))] H → va_D A [((aM 0), .inr (9, oX9 aM M_nodes M_operators M_textSize M_wordCount M_isParsed M_isTaken M_items M_piled M_outSize M_told M_standing)), ((aM 9), .inl (cI, 1500, .inl M_text)), ((aM 11), .inl (cJ, 760, .inr (.inl M_word)))] → va_S A s.heap H locs → ∀ (ls : Array Slot), lv_has ls 6 [(0, .ref (aM 0)), (1, .int x1), (2, .int x2)] → W p l e rm_X9_findWords s m args below meth c H locs 0 0 Q (F0 m 9 ls [])) : ∀ (n : Nat) (M_word : Nat → Int64) (M_wordCount : Int32) (x1 : Int32) (x2 : Int32) (x3 : Int64) (x5 : Int32), m_X9_findWords_43 M_textSize M_text k9 n M_word M_wordCount x1 x2 x3 x5 = some res → ∀ (H : Heap) (locs : List Loc), va_P (dC, dI) vwCl [((aM 0), .inr (9, oX9 aM M_nodes M_operators M_textSize M_wordCount M_isParsed M_isTaken M_items M_piled M_outSize M_told M_standing)), ((aM 9), .inl (cI, 1500, .inl M_text)), ((aM 11), .inl (cJ, 760, .inr (.inl M_word)))] H → va_D A [((aM 0), .inr (9, oX9 aM M_nodes M_operators M_textSize M_wordCount M_isParsed M_isTaken M_items M_piled M_outSize M_told M_standing)), ((aM 9), .inl (cI, 1500, .inl M_text)), ((aM 11), .inl (cJ, 760, .inr (.inl M_word)))] → va_S A s.heap H locs → ∀ (ls : Array Slot), lv_has ls 6 [(0, .ref (aM 0)), (1, .int x1), (2, .int x2), (3, .long x3), (5, .int x5)] → W p l e rm_X9_findWords s m args below meth c H locs 0 0 Q (F0 m 43 ls []) := by
  obtain ⟨⟨hx, hb, hml, hown, hts⟩, hr, hlocks⟩ := id C0
  intro n
  induction n with
  | zero =>
    intro M_word M_wordCount x1 x2 x3 x5 hm
    exact absurd hm (by intro h; cases h)
  | succ n ih =>
    intro M_word M_wordCount x1 x2 x3 x5 hm H locs hP hD hS ls hl
    have hm : (if M_textSize ≤ x1 then (m_X9_findWords_123 M_textSize M_text k9 M_word M_wordCount x1 x2 x3) else (gd x1 1500 (if (M_text x1.toNatClampNeg) = 32 then (m_X9_findWords_123 M_textSize M_text k9 M_word M_wordCount x1 x2 x3) else (if x2 = 0 then (m_X9_findWords_123 M_textSize M_text k9 M_word M_wordCount x1 x2 x3) else (gd x1 1500 (if (M_text x1.toNatClampNeg) < 33 then (m_X9_findWords_99 M_textSize M_text k9 (m_X9_findWords_43 M_textSize M_text k9 n) M_word M_wordCount x1 x3 x5) else (gd x1 1500 (if 126 < (M_text x1.toNatClampNeg) then (m_X9_findWords_99 M_textSize M_text k9 (m_X9_findWords_43 M_textSize M_text k9 n) M_word M_wordCount x1 x3 x5) else (if 8 ≤ x5 then (m_X9_findWords_99 M_textSize M_text k9 (m_X9_findWords_43 M_textSize M_text k9 n) M_word M_wordCount x1 x3 x5) else (m_X9_findWords_100 M_textSize M_text k9 (m_X9_findWords_43 M_textSize M_text k9 n) M_word M_wordCount x1 x3 x5 1)))))))))) = some res := hm
    refine lv_iload_n hx hb dX9_findWords_43 rfl (lv_at hl 1 rfl) ?_
    refine lv_aload_n hx hb dX9_findWords_44 rfl (lv_at hl 0 rfl) ?_
    refine va_get (D := (dC, dI)) (ci := 9) (v := .int M_textSize) (C := RX9) (T := TX9) (N := 53) hx hb hts X9_findWords_inX9 hown hK hP 0 rfl rfl 9 (by decide) (hts (.fieldLink RX9 148 "MixfixDeskModel" "textSize" "I") (List.mem_of_getElem? (i := 2) rfl)) (fun _ h9 => h9) rfl dX9_findWords_45 ?_
    refine lv_icmp_ge (tgt := 123) hx hb dX9_findWords_48 (by decide) (fun c_3 => ?_) (fun c_3 => ?_)
    · have hm := it_some c_3 hm
      exact k_X9_findWords_123 C0 hK hN hA aM M_nodes M_operators M_textSize M_isParsed M_isTaken M_items M_piled M_outSize M_told M_standing M_text res RET k9 hk9 M_word M_wordCount x1 x2 x3 hm H locs hP hD hS ls (lv_sub hl [0, 1, 2, 3] rfl)
    · have hm := if_some' c_3 hm
      refine lv_aload_n hx hb dX9_findWords_51 rfl (lv_at hl 0 rfl) ?_
      refine va_get (D := (dC, dI)) (ci := 9) (v := .ref (aM 9)) (C := RX9) (T := TX9) (N := 53) hx hb hts X9_findWords_inX9 hown hK hP 0 rfl rfl 8 (by decide) (hts (.fieldLink RX9 30 "MixfixDeskModel" "text" "[I") (List.mem_of_getElem? (i := 3) rfl)) (fun _ h9 => h9) rfl dX9_findWords_52 ?_
      refine lv_iload_n hx hb dX9_findWords_55 rfl (lv_at hl 1 rfl) ?_
      obtain ⟨hi_4, hm⟩ := gd_some hm
      refine va_iald (D := (dC, dI)) hx hb hK hP 1 0 rfl rfl hi_4 dX9_findWords_56 ?_
      refine lv_bipush (v := 32) hx hb dX9_findWords_57 (by decide) ?_
      refine lv_icmp_eq (tgt := 123) hx hb dX9_findWords_59 (by decide) (fun c_5 => ?_) (fun c_5 => ?_)
      · have hm := it_some c_5 hm
        exact k_X9_findWords_123 C0 hK hN hA aM M_nodes M_operators M_textSize M_isParsed M_isTaken M_items M_piled M_outSize M_told M_standing M_text res RET k9 hk9 M_word M_wordCount x1 x2 x3 hm H locs hP hD hS ls (lv_sub hl [0, 1, 2, 3] rfl)
      · have hm := if_some' c_5 hm
        refine lv_iload_n hx hb dX9_findWords_62 rfl (lv_at hl 2 rfl) ?_
        refine lv_if_eq (tgt := 123) hx hb dX9_findWords_63 (by decide) (fun c_6 => ?_) (fun c_6 => ?_)
        · have hm := it_some c_6 hm
          exact k_X9_findWords_123 C0 hK hN hA aM M_nodes M_operators M_textSize M_isParsed M_isTaken M_items M_piled M_outSize M_told M_standing M_text res RET k9 hk9 M_word M_wordCount x1 x2 x3 hm H locs hP hD hS ls (lv_sub hl [0, 1, 2, 3] rfl)
        · have hm := if_some' c_6 hm
          refine lv_aload_n hx hb dX9_findWords_66 rfl (lv_at hl 0 rfl) ?_
          refine va_get (D := (dC, dI)) (ci := 9) (v := .ref (aM 9)) (C := RX9) (T := TX9) (N := 53) hx hb hts X9_findWords_inX9 hown hK hP 0 rfl rfl 8 (by decide) (hts (.fieldLink RX9 30 "MixfixDeskModel" "text" "[I") (List.mem_of_getElem? (i := 3) rfl)) (fun _ h9 => h9) rfl dX9_findWords_67 ?_
          refine lv_iload_n hx hb dX9_findWords_70 rfl (lv_at hl 1 rfl) ?_
          obtain ⟨hi_7, hm⟩ := gd_some hm
          refine va_iald (D := (dC, dI)) hx hb hK hP 1 0 rfl rfl hi_7 dX9_findWords_71 ?_
          refine lv_bipush (v := 33) hx hb dX9_findWords_72 (by decide) ?_
          refine lv_icmp_lt (tgt := 99) hx hb dX9_findWords_74 (by decide) (fun c_8 => ?_) (fun c_8 => ?_)
          · have hm := it_some c_8 hm
            exact k_X9_findWords_99 C0 hK hN hA aM M_nodes M_operators M_textSize M_isParsed M_isTaken M_items M_piled M_outSize M_told M_standing M_text res RET k9 (m_X9_findWords_43 M_textSize M_text k9 n) hk9 ih M_word M_wordCount x1 x3 x5 hm H locs hP hD hS ls (lv_sub hl [0, 1, 3, 4] rfl)
          · have hm := if_some' c_8 hm
            refine lv_aload_n hx hb dX9_findWords_77 rfl (lv_at hl 0 rfl) ?_
            refine va_get (D := (dC, dI)) (ci := 9) (v := .ref (aM 9)) (C := RX9) (T := TX9) (N := 53) hx hb hts X9_findWords_inX9 hown hK hP 0 rfl rfl 8 (by decide) (hts (.fieldLink RX9 30 "MixfixDeskModel" "text" "[I") (List.mem_of_getElem? (i := 3) rfl)) (fun _ h9 => h9) rfl dX9_findWords_78 ?_
            refine lv_iload_n hx hb dX9_findWords_81 rfl (lv_at hl 1 rfl) ?_
            obtain ⟨hi_9, hm⟩ := gd_some hm
            refine va_iald (D := (dC, dI)) hx hb hK hP 1 0 rfl rfl hi_9 dX9_findWords_82 ?_
            refine lv_bipush (v := 126) hx hb dX9_findWords_83 (by decide) ?_
            refine lv_icmp_gt (tgt := 99) hx hb dX9_findWords_85 (by decide) (fun c_10 => ?_) (fun c_10 => ?_)
            · have hm := it_some c_10 hm
              exact k_X9_findWords_99 C0 hK hN hA aM M_nodes M_operators M_textSize M_isParsed M_isTaken M_items M_piled M_outSize M_told M_standing M_text res RET k9 (m_X9_findWords_43 M_textSize M_text k9 n) hk9 ih M_word M_wordCount x1 x3 x5 hm H locs hP hD hS ls (lv_sub hl [0, 1, 3, 4] rfl)
            · have hm := if_some' c_10 hm
              refine lv_iload hx hb dX9_findWords_88 (lv_at hl 4 rfl) ?_
              refine lv_bipush (v := 8) hx hb dX9_findWords_90 (by decide) ?_
              refine lv_icmp_ge (tgt := 99) hx hb dX9_findWords_92 (by decide) (fun c_11 => ?_) (fun c_11 => ?_)
              · have hm := it_some c_11 hm
                exact k_X9_findWords_99 C0 hK hN hA aM M_nodes M_operators M_textSize M_isParsed M_isTaken M_items M_piled M_outSize M_told M_standing M_text res RET k9 (m_X9_findWords_43 M_textSize M_text k9 n) hk9 ih M_word M_wordCount x1 x3 x5 hm H locs hP hD hS ls (lv_sub hl [0, 1, 3, 4] rfl)
              · have hm := if_some' c_11 hm
                refine lv_iconst (v := 1) hx hb dX9_findWords_95 (by decide) ?_
                refine lv_goto (tgt := 100) hx hb dX9_findWords_96 (by decide) ?_
                exact k_X9_findWords_100 C0 hK hN hA aM M_nodes M_operators M_textSize M_isParsed M_isTaken M_items M_piled M_outSize M_told M_standing M_text res RET k9 (m_X9_findWords_43 M_textSize M_text k9 n) hk9 ih M_word M_wordCount x1 x3 x5 1 hm H locs hP hD hS ls (lv_sub hl [0, 1, 3, 4] rfl)
set_option maxHeartbeats 4000000 in
set_option maxRecDepth 100000 in
theorem k_X9_findWords_9 {p : Program} {l : Launch} {e : Env} {s : State} {m : MethodId} {args : Array Value} {below : List Frame} {meth : Method} {c : Code} {Q : State → Prop} {dC : Nat → ClassId} {dI : Nat → Nat → Nat} {cI cJ cB cZ : ClassId} {A : Nat → Prop} (C0 : Cx p s m meth c args cX9_findWords 6 (some .boolean) wsX9_findWords RX9) (hK : va_K (dC, dI) vwCl [(cI, .int), (cJ, .long), (cB, .byte), (cZ, .boolean)] s) (hN : NW s) (hA : ∀ q, s.heap.size ≤ q → A q) (aM : Nat → Nat) (M_nodes : Int32) (M_operators : Int32) (M_textSize : Int32) (M_isParsed : Int32) (M_isTaken : Int32) (M_items : Int32) (M_piled : Int32) (M_outSize : Int32) (M_told : Int32) (M_standing : Int32) (M_text : Nat → Int32) (res : Int32 × (Nat → Int64) × Int32) (RET : RT_X9_findWords p l e s m args below meth c Q dC dI cI cJ cB cZ A aM M_nodes M_operators M_textSize M_isParsed M_isTaken M_items M_piled M_outSize M_told M_standing M_text res)   : ∀ (n : Nat) (M_word : Nat → Int64) (M_wordCount : Int32) (x1 : Int32) (x2 : Int32), m_X9_findWords_9 M_textSize M_text n M_word M_wordCount x1 x2 = some res → ∀ (H : Heap) (locs : List Loc), va_P (dC, dI) vwCl [((aM 0), .inr (9, oX9 aM M_nodes M_operators M_textSize M_wordCount M_isParsed M_isTaken M_items M_piled M_outSize M_told M_standing)), ((aM 9), .inl (cI, 1500, .inl M_text)), ((aM 11), .inl (cJ, 760, .inr (.inl M_word)))] H → va_D A [((aM 0), .inr (9, oX9 aM M_nodes M_operators M_textSize M_wordCount M_isParsed M_isTaken M_items M_piled M_outSize M_told M_standing)), ((aM 9), .inl (cI, 1500, .inl M_text)), ((aM 11), .inl (cJ, 760, .inr (.inl M_word)))] → va_S A s.heap H locs → ∀ (ls : Array Slot), lv_has ls 6 [(0, .ref (aM 0)), (1, .int x1), (2, .int x2)] → W p l e rm_X9_findWords s m args below meth c H locs 0 0 Q (F0 m 9 ls []) := by
  obtain ⟨⟨hx, hb, hml, hown, hts⟩, hr, hlocks⟩ := id C0
  intro n
  induction n with
  | zero =>
    intro M_word M_wordCount x1 x2 hm
    exact absurd hm (by intro h; cases h)
  | succ n ih =>
    intro M_word M_wordCount x1 x2 hm H locs hP hD hS ls hl
    have hm : (if M_textSize ≤ x1 then (gb x2 (some (x2, M_word, M_wordCount))) else (if x2 = 0 then (gb x2 (some (x2, M_word, M_wordCount))) else (gd x1 1500 (if (M_text x1.toNatClampNeg) = 32 then (m_X9_findWords_9 M_textSize M_text n M_word M_wordCount (x1 + 1) x2) else (m_X9_findWords_43 M_textSize M_text (m_X9_findWords_9 M_textSize M_text n) FU M_word M_wordCount x1 x2 0 0))))) = some res := hm
    refine lv_iload_n hx hb dX9_findWords_9 rfl (lv_at hl 1 rfl) ?_
    refine lv_aload_n hx hb dX9_findWords_10 rfl (lv_at hl 0 rfl) ?_
    refine va_get (D := (dC, dI)) (ci := 9) (v := .int M_textSize) (C := RX9) (T := TX9) (N := 53) hx hb hts X9_findWords_inX9 hown hK hP 0 rfl rfl 9 (by decide) (hts (.fieldLink RX9 148 "MixfixDeskModel" "textSize" "I") (List.mem_of_getElem? (i := 2) rfl)) (fun _ h9 => h9) rfl dX9_findWords_11 ?_
    refine lv_icmp_ge (tgt := 146) hx hb dX9_findWords_14 (by decide) (fun c_12 => ?_) (fun c_12 => ?_)
    · have hm := it_some c_12 hm
      refine lv_iload_n hx hb dX9_findWords_146 rfl (lv_at hl 2 rfl) ?_
      obtain ⟨hg_13, hm⟩ := gb_some hm
      exact RET x2 M_word M_wordCount hm hg_13 _ H locs ls dX9_findWords_147 hP hD hS
    · have hm := if_some' c_12 hm
      refine lv_iload_n hx hb dX9_findWords_17 rfl (lv_at hl 2 rfl) ?_
      refine lv_if_eq (tgt := 146) hx hb dX9_findWords_18 (by decide) (fun c_14 => ?_) (fun c_14 => ?_)
      · have hm := it_some c_14 hm
        refine lv_iload_n hx hb dX9_findWords_146 rfl (lv_at hl 2 rfl) ?_
        obtain ⟨hg_15, hm⟩ := gb_some hm
        exact RET x2 M_word M_wordCount hm hg_15 _ H locs ls dX9_findWords_147 hP hD hS
      · have hm := if_some' c_14 hm
        refine lv_aload_n hx hb dX9_findWords_21 rfl (lv_at hl 0 rfl) ?_
        refine va_get (D := (dC, dI)) (ci := 9) (v := .ref (aM 9)) (C := RX9) (T := TX9) (N := 53) hx hb hts X9_findWords_inX9 hown hK hP 0 rfl rfl 8 (by decide) (hts (.fieldLink RX9 30 "MixfixDeskModel" "text" "[I") (List.mem_of_getElem? (i := 3) rfl)) (fun _ h9 => h9) rfl dX9_findWords_22 ?_
        refine lv_iload_n hx hb dX9_findWords_25 rfl (lv_at hl 1 rfl) ?_
        obtain ⟨hi_16, hm⟩ := gd_some hm
        refine va_iald (D := (dC, dI)) hx hb hK hP 1 0 rfl rfl hi_16 dX9_findWords_26 ?_
        refine lv_bipush (v := 32) hx hb dX9_findWords_27 (by decide) ?_
        refine lv_icmp_ne (tgt := 38) hx hb dX9_findWords_29 (by decide) (fun c_17 => ?_) (fun c_17 => ?_)
        · have hm := if_some' c_17 hm
          refine lv_lconst (v := 0) hx hb dX9_findWords_38 rfl ?_
          refine lv_lstore_n (lv' := [(3, .long 0), (0, .ref (aM 0)), (1, .int x1), (2, .int x2)]) hx hb dX9_findWords_39 rfl hl (by decide) rfl (fun ls hl => ?_)
          refine lv_iconst (v := 0) hx hb dX9_findWords_40 (by decide) ?_
          refine lv_istore (lv' := [(5, .int 0), (3, .long 0), (0, .ref (aM 0)), (1, .int x1), (2, .int x2)]) hx hb dX9_findWords_41 hl (by decide) rfl (fun ls hl => ?_)
          exact k_X9_findWords_43 C0 hK hN hA aM M_nodes M_operators M_textSize M_isParsed M_isTaken M_items M_piled M_outSize M_told M_standing M_text res RET (m_X9_findWords_9 M_textSize M_text n) ih FU M_word M_wordCount x1 x2 0 0 hm H locs hP hD hS ls (lv_sub hl [2, 3, 4, 1, 0] rfl)
        · have hm := it_some c_17 hm
          refine lv_iinc (v := x1 + 1) (lv' := [(1, .int (x1 + 1)), (0, .ref (aM 0)), (2, .int x2)]) hx hb dX9_findWords_32 hl (k := 1) rfl rfl (by decide) rfl (fun ls hl => ?_)
          refine lv_goto (tgt := 9) hx hb dX9_findWords_35 (by decide) ?_
          exact ih M_word M_wordCount (x1 + 1) x2 hm H locs hP hD hS ls (lv_sub hl [1, 0, 2] rfl)
set_option maxHeartbeats 4000000 in
set_option maxRecDepth 100000 in
theorem k_X9_findWords_E {p : Program} {l : Launch} {e : Env} {s : State} {m : MethodId} {args : Array Value} {below : List Frame} {meth : Method} {c : Code} {Q : State → Prop} {dC : Nat → ClassId} {dI : Nat → Nat → Nat} {cI cJ cB cZ : ClassId} {A : Nat → Prop} (C0 : Cx p s m meth c args cX9_findWords 6 (some .boolean) wsX9_findWords RX9) (hK : va_K (dC, dI) vwCl [(cI, .int), (cJ, .long), (cB, .byte), (cZ, .boolean)] s) (hN : NW s) (hA : ∀ q, s.heap.size ≤ q → A q) (aM : Nat → Nat) (M_nodes : Int32) (M_operators : Int32) (M_textSize : Int32) (M_isParsed : Int32) (M_isTaken : Int32) (M_items : Int32) (M_piled : Int32) (M_outSize : Int32) (M_told : Int32) (M_standing : Int32) (M_text : Nat → Int32) (res : Int32 × (Nat → Int64) × Int32) (RET : RT_X9_findWords p l e s m args below meth c Q dC dI cI cJ cB cZ A aM M_nodes M_operators M_textSize M_isParsed M_isTaken M_items M_piled M_outSize M_told M_standing M_text res) : ∀ (M_word : Nat → Int64) (M_wordCount : Int32), m_X9_findWords M_text M_textSize M_word M_wordCount = some res → ∀ (H : Heap) (locs : List Loc), va_P (dC, dI) vwCl [((aM 0), .inr (9, oX9 aM M_nodes M_operators M_textSize M_wordCount M_isParsed M_isTaken M_items M_piled M_outSize M_told M_standing)), ((aM 9), .inl (cI, 1500, .inl M_text)), ((aM 11), .inl (cJ, 760, .inr (.inl M_word)))] H → va_D A [((aM 0), .inr (9, oX9 aM M_nodes M_operators M_textSize M_wordCount M_isParsed M_isTaken M_items M_piled M_outSize M_told M_standing)), ((aM 9), .inl (cI, 1500, .inl M_text)), ((aM 11), .inl (cJ, 760, .inr (.inl M_word)))] → va_S A s.heap H locs → ∀ (ls : Array Slot), lv_has ls 6 [(0, .ref (aM 0))] → W p l e rm_X9_findWords s m args below meth c H locs 0 0 Q (F0 m 0 ls []) := by
  obtain ⟨⟨hx, hb, hml, hown, hts⟩, hr, hlocks⟩ := id C0
  intro M_word M_wordCount hm H locs hP hD hS ls hl
  have hm : (m_X9_findWords_9 M_textSize M_text FU M_word 0 0 1) = some res := hm
  refine lv_aload_n hx hb dX9_findWords_0 rfl (lv_at hl 0 rfl) ?_
  refine lv_iconst (v := 0) hx hb dX9_findWords_1 (by decide) ?_
  refine va_put (D := (dC, dI)) (ci := 9) (v := .int 0) (ty := .int) (C := RX9) (T := TX9) (N := 53) hx hb hts X9_findWords_inX9 tyX9 tyX9_ok nmX9 hown hK hP hD hS 0 rfl rfl 11 (by decide) (hts (.fieldLink RX9 145 "MixfixDeskModel" "wordCount" "I") (List.mem_of_getElem? (i := 1) rfl)) (fun _ h9 => h9) rfl (by decide +kernel) rfl rfl (Nat.le_of_ble_eq_true rfl) dX9_findWords_2 (fun H locs hP hD hS => ?_)
  have hP : va_P (dC, dI) vwCl [((aM 0), .inr (9, oX9 aM M_nodes M_operators M_textSize 0 M_isParsed M_isTaken M_items M_piled M_outSize M_told M_standing)), ((aM 9), .inl (cI, 1500, .inl M_text)), ((aM 11), .inl (cJ, 760, .inr (.inl M_word)))] H := hP
  have hD : va_D A [((aM 0), .inr (9, oX9 aM M_nodes M_operators M_textSize 0 M_isParsed M_isTaken M_items M_piled M_outSize M_told M_standing)), ((aM 9), .inl (cI, 1500, .inl M_text)), ((aM 11), .inl (cJ, 760, .inr (.inl M_word)))] := hD
  refine lv_iconst (v := 0) hx hb dX9_findWords_5 (by decide) ?_
  refine lv_istore_n (lv' := [(1, .int 0), (0, .ref (aM 0))]) hx hb dX9_findWords_6 rfl hl (by decide) rfl (fun ls hl => ?_)
  refine lv_iconst (v := 1) hx hb dX9_findWords_7 (by decide) ?_
  refine lv_istore_n (lv' := [(2, .int 1), (1, .int 0), (0, .ref (aM 0))]) hx hb dX9_findWords_8 rfl hl (by decide) rfl (fun ls hl => ?_)
  exact k_X9_findWords_9 C0 hK hN hA aM M_nodes M_operators M_textSize M_isParsed M_isTaken M_items M_piled M_outSize M_told M_standing M_text res RET FU M_word 0 0 1 hm H locs hP hD hS ls (lv_sub hl [2, 1, 0] rfl)
set_option maxHeartbeats 4000000 in
set_option maxRecDepth 100000 in
theorem c_X9_findWords (l : Launch) (dC : Nat → ClassId) (dI : Nat → Nat → Nat) (cI cJ cB cZ : ClassId) (aM : Nat → Nat) (sz : Nat) (M_nodes : Int32) (M_operators : Int32) (M_textSize : Int32) (M_wordCount : Int32) (M_isParsed : Int32) (M_isTaken : Int32) (M_items : Int32) (M_piled : Int32) (M_outSize : Int32) (M_told : Int32) (M_standing : Int32) (M_text : Nat → Int32) (M_word : Nat → Int64) (res : Int32 × (Nat → Int64) × Int32) (hm : m_X9_findWords M_text M_textSize M_word M_wordCount = some res) : Met l yX9_findWords wsX9_findWords rm_X9_findWords (cP (dC, dI) vwCl [(cI, .int), (cJ, .long), (cB, .byte), (cZ, .boolean)] [.ref (aM 0)] [((aM 0), .inr (9, oX9 aM M_nodes M_operators M_textSize M_wordCount M_isParsed M_isTaken M_items M_piled M_outSize M_told M_standing)), ((aM 9), .inl (cI, 1500, .inl M_text)), ((aM 11), .inl (cJ, 760, .inr (.inl M_word)))] sz) (cQi res.1 (dC, dI) vwCl [((aM 0), .inr (9, oX9 aM M_nodes M_operators M_textSize res.2.2 M_isParsed M_isTaken M_items M_piled M_outSize M_told M_standing)), ((aM 9), .inl (cI, 1500, .inl M_text)), ((aM 11), .inl (cJ, 760, .inr (.inl res.2.1)))] [((aM 0), .inr (9, oX9 aM M_nodes M_operators M_textSize M_wordCount M_isParsed M_isTaken M_items M_piled M_outSize M_told M_standing)), ((aM 9), .inl (cI, 1500, .inl M_text)), ((aM 11), .inl (cJ, 760, .inr (.inl M_word)))] sz) 0 0 (va_A [((aM 0), .inr (9, oX9 aM M_nodes M_operators M_textSize M_wordCount M_isParsed M_isTaken M_items M_piled M_outSize M_told M_standing)), ((aM 9), .inl (cI, 1500, .inl M_text)), ((aM 11), .inl (cJ, 760, .inr (.inl M_word)))] sz) := by
  refine cx_of (cc := cX9_findWords) (maxL := 6) (ret := (some .boolean)) (own := RX9) (by decide) rfl rfl (Nat.le_of_ble_eq_true rfl) ?_
  intro p e s m below meth c A C0 hinN hK hN hsz hAe hA hP hD hS ls hl
  refine k_X9_findWords_E C0 hK hN hA aM M_nodes M_operators M_textSize M_isParsed M_isTaken M_items M_piled M_outSize M_told M_standing M_text res ?_ M_word M_wordCount hm _ _ hP hD hS ls hl
  intro v M_word M_wordCount he hn pc H locs ls hdg hP hD hS
  have he := Option.some.inj he
  subst he
  exact cx_retz C0 hn hsz hAe hdg hP hD hS

theorem dX9_isPart_0 : decode cX9_isPart 0 = .ok (.iconst 0, 1) := by decide +kernel
theorem dX9_isPart_1 : decode cX9_isPart 1 = .ok (.istore_n 3, 1) := by decide +kernel
theorem dX9_isPart_2 : decode cX9_isPart 2 = .ok (.iconst 0, 1) := by decide +kernel
theorem dX9_isPart_3 : decode cX9_isPart 3 = .ok (.istore 4, 2) := by decide +kernel
theorem dX9_isPart_5 : decode cX9_isPart 5 = .ok (.iload 4, 2) := by decide +kernel
theorem dX9_isPart_7 : decode cX9_isPart 7 = .ok (.aload_n 0, 1) := by decide +kernel
theorem dX9_isPart_8 : decode cX9_isPart 8 = .ok (.getfield 151, 3) := by decide +kernel
theorem dX9_isPart_11 : decode cX9_isPart 11 = .ok (.if_icmp .ge 70, 3) := by decide +kernel
theorem dX9_isPart_14 : decode cX9_isPart 14 = .ok (.iload_n 3, 1) := by decide +kernel
theorem dX9_isPart_15 : decode cX9_isPart 15 = .ok (.ifCond .ne 66, 3) := by decide +kernel
theorem dX9_isPart_18 : decode cX9_isPart 18 = .ok (.iconst 0, 1) := by decide +kernel
theorem dX9_isPart_19 : decode cX9_isPart 19 = .ok (.istore 5, 2) := by decide +kernel
theorem dX9_isPart_21 : decode cX9_isPart 21 = .ok (.iload 5, 2) := by decide +kernel
theorem dX9_isPart_23 : decode cX9_isPart 23 = .ok (.aload_n 0, 1) := by decide +kernel
theorem dX9_isPart_24 : decode cX9_isPart 24 = .ok (.getfield 17, 3) := by decide +kernel
theorem dX9_isPart_27 : decode cX9_isPart 27 = .ok (.iload 4, 2) := by decide +kernel
theorem dX9_isPart_29 : decode cX9_isPart 29 = .ok (.iaload, 1) := by decide +kernel
theorem dX9_isPart_30 : decode cX9_isPart 30 = .ok (.if_icmp .ge 45, 3) := by decide +kernel
theorem dX9_isPart_33 : decode cX9_isPart 33 = .ok (.iload_n 3, 1) := by decide +kernel
theorem dX9_isPart_34 : decode cX9_isPart 34 = .ok (.ifCond .ne 41, 3) := by decide +kernel
theorem dX9_isPart_37 : decode cX9_isPart 37 = .ok (.lload_n 1, 1) := by decide +kernel
theorem dX9_isPart_38 : decode cX9_isPart 38 = .ok (.ldc2_w 154, 3) := by decide +kernel
theorem dX9_isPart_41 : decode cX9_isPart 41 = .ok (.lcmp, 1) := by decide +kernel
theorem dX9_isPart_42 : decode cX9_isPart 42 = .ok (.ifCond .eq 25, 3) := by decide +kernel
theorem dX9_isPart_45 : decode cX9_isPart 45 = .ok (.aload_n 0, 1) := by decide +kernel
theorem dX9_isPart_46 : decode cX9_isPart 46 = .ok (.getfield 13, 3) := by decide +kernel
theorem dX9_isPart_49 : decode cX9_isPart 49 = .ok (.bipush 9, 2) := by decide +kernel
theorem dX9_isPart_51 : decode cX9_isPart 51 = .ok (.iload 4, 2) := by decide +kernel
theorem dX9_isPart_53 : decode cX9_isPart 53 = .ok (.imul, 1) := by decide +kernel
theorem dX9_isPart_54 : decode cX9_isPart 54 = .ok (.iload 5, 2) := by decide +kernel
theorem dX9_isPart_56 : decode cX9_isPart 56 = .ok (.iadd, 1) := by decide +kernel
theorem dX9_isPart_57 : decode cX9_isPart 57 = .ok (.laload, 1) := by decide +kernel
theorem dX9_isPart_58 : decode cX9_isPart 58 = .ok (.lload_n 1, 1) := by decide +kernel
theorem dX9_isPart_59 : decode cX9_isPart 59 = .ok (.lcmp, 1) := by decide +kernel
theorem dX9_isPart_60 : decode cX9_isPart 60 = .ok (.ifCond .ne 7, 3) := by decide +kernel
theorem dX9_isPart_63 : decode cX9_isPart 63 = .ok (.iconst 1, 1) := by decide +kernel
theorem dX9_isPart_64 : decode cX9_isPart 64 = .ok (.goto 4, 3) := by decide +kernel
theorem dX9_isPart_67 : decode cX9_isPart 67 = .ok (.iconst 0, 1) := by decide +kernel
theorem dX9_isPart_68 : decode cX9_isPart 68 = .ok (.istore_n 3, 1) := by decide +kernel
theorem dX9_isPart_69 : decode cX9_isPart 69 = .ok (.iinc 5 1, 3) := by decide +kernel
theorem dX9_isPart_72 : decode cX9_isPart 72 = .ok (.goto (-51), 3) := by decide +kernel
theorem dX9_isPart_75 : decode cX9_isPart 75 = .ok (.iinc 4 1, 3) := by decide +kernel
theorem dX9_isPart_78 : decode cX9_isPart 78 = .ok (.goto (-73), 3) := by decide +kernel
theorem dX9_isPart_81 : decode cX9_isPart 81 = .ok (.iload_n 3, 1) := by decide +kernel
theorem dX9_isPart_82 : decode cX9_isPart 82 = .ok (.ireturn, 1) := by decide +kernel
/-! MixfixDeskModel.isPart(J)Z -/
abbrev rm_X9_isPart : Room := { frames := 0, cells := 0, slots := 0, locals := 0 }
theorem X9_isPart_inX9 : ∀ w ∈ wsX90, w ∈ wsX9_isPart := by exact fun w h => List.mem_cons_of_mem _ (List.mem_append_right _ h)
abbrev RT_X9_isPart (p : Program) (l : Launch) (e : Env) (s : State) (m : MethodId) (args : Array Value) (below : List Frame) (meth : Method) (c : Code) (Q : State → Prop) (dC : Nat → ClassId) (dI : Nat → Nat → Nat) (cI cJ cB cZ : ClassId) (A : Nat → Prop) (aM : Nat → Nat) (M_nodes : Int32) (M_operators : Int32) (M_textSize : Int32) (M_wordCount : Int32) (M_isParsed : Int32) (M_isTaken : Int32) (M_items : Int32) (M_piled : Int32) (M_outSize : Int32) (M_told : Int32) (M_standing : Int32) (M_elements : Nat → Int64) (M_elementCount : Nat → Int32) (res : Int32) : Prop := ∀ (v : Int32) , some v = some res → narrow .boolean (.int v) = .int v → ∀ (pc : Nat) (H : Heap) (locs : List Loc) (ls : Array Slot), decode cX9_isPart pc = .ok (.ireturn, 1) → va_P (dC, dI) vwCl [((aM 0), .inr (9, oX9 aM M_nodes M_operators M_textSize M_wordCount M_isParsed M_isTaken M_items M_piled M_outSize M_told M_standing)), ((aM 4), .inl (cJ, 270, .inr (.inl M_elements))), ((aM 5), .inl (cI, 30, .inl M_elementCount))] H → va_D A [((aM 0), .inr (9, oX9 aM M_nodes M_operators M_textSize M_wordCount M_isParsed M_isTaken M_items M_piled M_outSize M_told M_standing)), ((aM 4), .inl (cJ, 270, .inr (.inl M_elements))), ((aM 5), .inl (cI, 30, .inl M_elementCount))] → va_S A s.heap H locs → W p l e rm_X9_isPart s m args below meth c H locs 0 0 Q (F0 m pc ls [.int v])
set_option maxHeartbeats 4000000 in
set_option maxRecDepth 100000 in
theorem k_X9_isPart_68 {p : Program} {l : Launch} {e : Env} {s : State} {m : MethodId} {args : Array Value} {below : List Frame} {meth : Method} {c : Code} {Q : State → Prop} {dC : Nat → ClassId} {dI : Nat → Nat → Nat} {cI cJ cB cZ : ClassId} {A : Nat → Prop} (C0 : Cx p s m meth c args cX9_isPart 6 (some .boolean) wsX9_isPart RX9) (hK : va_K (dC, dI) vwCl [(cI, .int), (cJ, .long), (cB, .byte), (cZ, .boolean)] s) (hN : NW s) (hA : ∀ q, s.heap.size ≤ q → A q) (aM : Nat → Nat) (M_nodes : Int32) (M_operators : Int32) (M_textSize : Int32) (M_wordCount : Int32) (M_isParsed : Int32) (M_isTaken : Int32) (M_items : Int32) (M_piled : Int32) (M_outSize : Int32) (M_told : Int32) (M_standing : Int32) (M_elements : Nat → Int64) (M_elementCount : Nat → Int32) (res : Int32) (RET : RT_X9_isPart p l e s m args below meth c Q dC dI cI cJ cB cZ A aM M_nodes M_operators M_textSize M_wordCount M_isParsed M_isTaken M_items M_piled M_outSize M_told M_standing M_elements M_elementCount res) (k5 : Int64 → Int32 → Int32 → Option (Int32)) (k21 : Int64 → Int32 → Int32 → Int32 → Option (Int32)) (hk5 : ∀ (x1 : Int64) (x3 : Int32) (x4 : Int32), k5 x1 x3 x4 = some res → ∀ (H : Heap) (locs : List Loc), va_P (dC, dI) vwCl [((aM 0), .inr (9, oX9 aM M_nodes M_operators M_textSize M_wordCount M_isParsed M_isTaken M_items M_piled M_outSize M_told M_standing)), ((aM 4), .inl (cJ, 270, .inr (.inl M_elements))), ((aM 5), .inl (cI, 30, .inl M_elementCount))] H → va_D A [((aM 0), .inr (9, oX9 aM M_nodes M_operators M_textSize M_wordCount M_isParsed M_isTaken M_items M_piled M_outSize M_told M_standing)), ((aM 4), .inl (cJ, 270, .inr (.inl M_elements))), ((aM 5), .inl (cI, 30, .inl M_elementCount))] → va_S A s.heap H locs → ∀ (ls : Array Slot), lv_has ls 6 [(0, .ref (aM 0)), (1, .long x1), (3, .int x3), (4, .int x4)] → W p l e rm_X9_isPart s m args below meth c H locs 0 0 Q (F0 m 5 ls [])) (hk21 : ∀ (x1 : Int64) (x3 : Int32) (x4 : Int32) (x5 : Int32), k21 x1 x3 x4 x5 = some res → ∀ (H : Heap) (locs : List Loc), va_P (dC, dI) vwCl [((aM 0), .inr (9, oX9 aM M_nodes M_operators M_textSize M_wordCount M_isParsed M_isTaken M_items M_piled M_outSize M_told M_standing)), ((aM 4), .inl (cJ, 270, .inr (.inl M_elements))), ((aM 5), .inl (cI, 30, .inl M_elementCount))] H → va_D A [((aM 0), .inr (9, oX9 aM M_nodes M_operators M_textSize M_wordCount M_isParsed M_isTaken M_items M_piled M_outSize M_told M_standing)), ((aM 4), .inl (cJ, 270, .inr (.inl M_elements))), ((aM 5), .inl (cI, 30, .inl M_elementCount))] → va_S A s.heap H locs → ∀ (ls : Array Slot), lv_has ls 6 [(0, .ref (aM 0)), (1, .long x1), (3, .int x3), (4, .int x4), (5, .int x5)] → W p l e rm_X9_isPart s m args below meth c H locs 0 0 Q (F0 m 21 ls [])) : ∀ (x1 : Int64) (x4 : Int32) (x5 : Int32) (y0 : Int32), m_X9_isPart_68 M_operators M_elements M_elementCount k5 k21 x1 x4 x5 y0 = some res → ∀ (H : Heap) (locs : List Loc), va_P (dC, dI) vwCl [((aM 0), .inr (9, oX9 aM M_nodes M_operators M_textSize M_wordCount M_isParsed M_isTaken M_items M_piled M_outSize M_told M_standing)), ((aM 4), .inl (cJ, 270, .inr (.inl M_elements))), ((aM 5), .inl (cI, 30, .inl M_elementCount))] H → va_D A [((aM 0), .inr (9, oX9 aM M_nodes M_operators M_textSize M_wordCount M_isParsed M_isTaken M_items M_piled M_outSize M_told M_standing)), ((aM 4), .inl (cJ, 270, .inr (.inl M_elements))), ((aM 5), .inl (cI, 30, .inl M_elementCount))] → va_S A s.heap H locs → ∀ (ls : Array Slot), lv_has ls 6 [(0, .ref (aM 0)), (1, .long x1), (4, .int x4), (5, .int x5)] → W p l e rm_X9_isPart s m args below meth c H locs 0 0 Q (F0 m 68 ls [.int y0]) := by
  obtain ⟨⟨hx, hb, hml, hown, hts⟩, hr, hlocks⟩ := id C0
  intro x1 x4 x5 y0 hm H locs hP hD hS ls hl
  have hm : (k21 x1 y0 x4 (x5 + 1)) = some res := hm
  refine lv_istore_n (lv' := [(3, .int y0), (0, .ref (aM 0)), (1, .long x1), (4, .int x4), (5, .int x5)]) hx hb dX9_isPart_68 rfl hl (by decide) rfl (fun ls hl => ?_)
  refine lv_iinc (v := x5 + 1) (lv' := [(5, .int (x5 + 1)), (3, .int y0), (0, .ref (aM 0)), (1, .long x1), (4, .int x4)]) hx hb dX9_isPart_69 hl (k := 4) rfl rfl (by decide) rfl (fun ls hl => ?_)
  refine lv_goto (tgt := 21) hx hb dX9_isPart_72 (by decide) ?_
  exact hk21 x1 y0 x4 (x5 + 1) hm H locs hP hD hS ls (lv_sub hl [2, 3, 1, 4, 0] rfl)
set_option maxHeartbeats 4000000 in
set_option maxRecDepth 100000 in
theorem k_X9_isPart_67 {p : Program} {l : Launch} {e : Env} {s : State} {m : MethodId} {args : Array Value} {below : List Frame} {meth : Method} {c : Code} {Q : State → Prop} {dC : Nat → ClassId} {dI : Nat → Nat → Nat} {cI cJ cB cZ : ClassId} {A : Nat → Prop} (C0 : Cx p s m meth c args cX9_isPart 6 (some .boolean) wsX9_isPart RX9) (hK : va_K (dC, dI) vwCl [(cI, .int), (cJ, .long), (cB, .byte), (cZ, .boolean)] s) (hN : NW s) (hA : ∀ q, s.heap.size ≤ q → A q) (aM : Nat → Nat) (M_nodes : Int32) (M_operators : Int32) (M_textSize : Int32) (M_wordCount : Int32) (M_isParsed : Int32) (M_isTaken : Int32) (M_items : Int32) (M_piled : Int32) (M_outSize : Int32) (M_told : Int32) (M_standing : Int32) (M_elements : Nat → Int64) (M_elementCount : Nat → Int32) (res : Int32) (RET : RT_X9_isPart p l e s m args below meth c Q dC dI cI cJ cB cZ A aM M_nodes M_operators M_textSize M_wordCount M_isParsed M_isTaken M_items M_piled M_outSize M_told M_standing M_elements M_elementCount res) (k5 : Int64 → Int32 → Int32 → Option (Int32)) (k21 : Int64 → Int32 → Int32 → Int32 → Option (Int32)) (hk5 : ∀ (x1 : Int64) (x3 : Int32) (x4 : Int32), k5 x1 x3 x4 = some res → ∀ (H : Heap) (locs : List Loc), va_P (dC, dI) vwCl [((aM 0), .inr (9, oX9 aM M_nodes M_operators M_textSize M_wordCount M_isParsed M_isTaken M_items M_piled M_outSize M_told M_standing)), ((aM 4), .inl (cJ, 270, .inr (.inl M_elements))), ((aM 5), .inl (cI, 30, .inl M_elementCount))] H → va_D A [((aM 0), .inr (9, oX9 aM M_nodes M_operators M_textSize M_wordCount M_isParsed M_isTaken M_items M_piled M_outSize M_told M_standing)), ((aM 4), .inl (cJ, 270, .inr (.inl M_elements))), ((aM 5), .inl (cI, 30, .inl M_elementCount))] → va_S A s.heap H locs → ∀ (ls : Array Slot), lv_has ls 6 [(0, .ref (aM 0)), (1, .long x1), (3, .int x3), (4, .int x4)] → W p l e rm_X9_isPart s m args below meth c H locs 0 0 Q (F0 m 5 ls [])) (hk21 : ∀ (x1 : Int64) (x3 : Int32) (x4 : Int32) (x5 : Int32), k21 x1 x3 x4 x5 = some res → ∀ (H : Heap) (locs : List Loc), va_P (dC, dI) vwCl [((aM 0), .inr (9, oX9 aM M_nodes M_operators M_textSize M_wordCount M_isParsed M_isTaken M_items M_piled M_outSize M_told M_standing)), ((aM 4), .inl (cJ, 270, .inr (.inl M_elements))), ((aM 5), .inl (cI, 30, .inl M_elementCount))] H → va_D A [((aM 0), .inr (9, oX9 aM M_nodes M_operators M_textSize M_wordCount M_isParsed M_isTaken M_items M_piled M_outSize M_told M_standing)), ((aM 4), .inl (cJ, 270, .inr (.inl M_elements))), ((aM 5), .inl (cI, 30, .inl M_elementCount))] → va_S A s.heap H locs → ∀ (ls : Array Slot), lv_has ls 6 [(0, .ref (aM 0)), (1, .long x1), (3, .int x3), (4, .int x4), (5, .int x5)] → W p l e rm_X9_isPart s m args below meth c H locs 0 0 Q (F0 m 21 ls [])) : ∀ (x1 : Int64) (x4 : Int32) (x5 : Int32), m_X9_isPart_67 M_operators M_elements M_elementCount k5 k21 x1 x4 x5 = some res → ∀ (H : Heap) (locs : List Loc), va_P (dC, dI) vwCl [((aM 0), .inr (9, oX9 aM M_nodes M_operators M_textSize M_wordCount M_isParsed M_isTaken M_items M_piled M_outSize M_told M_standing)), ((aM 4), .inl (cJ, 270, .inr (.inl M_elements))), ((aM 5), .inl (cI, 30, .inl M_elementCount))] H → va_D A [((aM 0), .inr (9, oX9 aM M_nodes M_operators M_textSize M_wordCount M_isParsed M_isTaken M_items M_piled M_outSize M_told M_standing)), ((aM 4), .inl (cJ, 270, .inr (.inl M_elements))), ((aM 5), .inl (cI, 30, .inl M_elementCount))] → va_S A s.heap H locs → ∀ (ls : Array Slot), lv_has ls 6 [(0, .ref (aM 0)), (1, .long x1), (4, .int x4), (5, .int x5)] → W p l e rm_X9_isPart s m args below meth c H locs 0 0 Q (F0 m 67 ls []) := by
  obtain ⟨⟨hx, hb, hml, hown, hts⟩, hr, hlocks⟩ := id C0
  intro x1 x4 x5 hm H locs hP hD hS ls hl
  have hm : (m_X9_isPart_68 M_operators M_elements M_elementCount k5 k21 x1 x4 x5 0) = some res := hm
  refine lv_iconst (v := 0) hx hb dX9_isPart_67 (by decide) ?_
  exact k_X9_isPart_68 C0 hK hN hA aM M_nodes M_operators M_textSize M_wordCount M_isParsed M_isTaken M_items M_piled M_outSize M_told M_standing M_elements M_elementCount res RET k5 k21 hk5 hk21 x1 x4 x5 0 hm H locs hP hD hS ls hl
set_option maxHeartbeats 4000000 in
set_option maxRecDepth 100000 in
theorem k_X9_isPart_75 {p : Program} {l : Launch} {e : Env} {s : State} {m : MethodId} {args : Array Value} {below : List Frame} {meth : Method} {c : Code} {Q : State → Prop} {dC : Nat → ClassId} {dI : Nat → Nat → Nat} {cI cJ cB cZ : ClassId} {A : Nat → Prop} (C0 : Cx p s m meth c args cX9_isPart 6 (some .boolean) wsX9_isPart RX9) (hK : va_K (dC, dI) vwCl [(cI, .int), (cJ, .long), (cB, .byte), (cZ, .boolean)] s) (hN : NW s) (hA : ∀ q, s.heap.size ≤ q → A q) (aM : Nat → Nat) (M_nodes : Int32) (M_operators : Int32) (M_textSize : Int32) (M_wordCount : Int32) (M_isParsed : Int32) (M_isTaken : Int32) (M_items : Int32) (M_piled : Int32) (M_outSize : Int32) (M_told : Int32) (M_standing : Int32) (M_elements : Nat → Int64) (M_elementCount : Nat → Int32) (res : Int32) (RET : RT_X9_isPart p l e s m args below meth c Q dC dI cI cJ cB cZ A aM M_nodes M_operators M_textSize M_wordCount M_isParsed M_isTaken M_items M_piled M_outSize M_told M_standing M_elements M_elementCount res) (k5 : Int64 → Int32 → Int32 → Option (Int32)) (hk5 : ∀ (x1 : Int64) (x3 : Int32) (x4 : Int32), k5 x1 x3 x4 = some res → ∀ (H : Heap) (locs : List Loc), va_P (dC, dI) vwCl [((aM 0), .inr (9, oX9 aM M_nodes M_operators M_textSize M_wordCount M_isParsed M_isTaken M_items M_piled M_outSize M_told M_standing)), ((aM 4), .inl (cJ, 270, .inr (.inl M_elements))), ((aM 5), .inl (cI, 30, .inl M_elementCount))] H → va_D A [((aM 0), .inr (9, oX9 aM M_nodes M_operators M_textSize M_wordCount M_isParsed M_isTaken M_items M_piled M_outSize M_told M_standing)), ((aM 4), .inl (cJ, 270, .inr (.inl M_elements))), ((aM 5), .inl (cI, 30, .inl M_elementCount))] → va_S A s.heap H locs → ∀ (ls : Array Slot), lv_has ls 6 [(0, .ref (aM 0)), (1, .long x1), (3, .int x3), (4, .int x4)] → W p l e rm_X9_isPart s m args below meth c H locs 0 0 Q (F0 m 5 ls [])) : ∀ (x1 : Int64) (x3 : Int32) (x4 : Int32), m_X9_isPart_75 M_operators M_elements M_elementCount k5 x1 x3 x4 = some res → ∀ (H : Heap) (locs : List Loc), va_P (dC, dI) vwCl [((aM 0), .inr (9, oX9 aM M_nodes M_operators M_textSize M_wordCount M_isParsed M_isTaken M_items M_piled M_outSize M_told M_standing)), ((aM 4), .inl (cJ, 270, .inr (.inl M_elements))), ((aM 5), .inl (cI, 30, .inl M_elementCount))] H → va_D A [((aM 0), .inr (9, oX9 aM M_nodes M_operators M_textSize M_wordCount M_isParsed M_isTaken M_items M_piled M_outSize M_told M_standing)), ((aM 4), .inl (cJ, 270, .inr (.inl M_elements))), ((aM 5), .inl (cI, 30, .inl M_elementCount))] → va_S A s.heap H locs → ∀ (ls : Array Slot), lv_has ls 6 [(0, .ref (aM 0)), (1, .long x1), (3, .int x3), (4, .int x4)] → W p l e rm_X9_isPart s m args below meth c H locs 0 0 Q (F0 m 75 ls []) := by
  obtain ⟨⟨hx, hb, hml, hown, hts⟩, hr, hlocks⟩ := id C0
  intro x1 x3 x4 hm H locs hP hD hS ls hl
  have hm : (k5 x1 x3 (x4 + 1)) = some res := hm
  refine lv_iinc (v := x4 + 1) (lv' := [(4, .int (x4 + 1)), (0, .ref (aM 0)), (1, .long x1), (3, .int x3)]) hx hb dX9_isPart_75 hl (k := 3) rfl rfl (by decide) rfl (fun ls hl => ?_)
  refine lv_goto (tgt := 5) hx hb dX9_isPart_78 (by decide) ?_
  exact hk5 x1 x3 (x4 + 1) hm H locs hP hD hS ls (lv_sub hl [1, 2, 3, 0] rfl)
set_option maxHeartbeats 4000000 in
set_option maxRecDepth 100000 in
theorem k_X9_isPart_21 {p : Program} {l : Launch} {e : Env} {s : State} {m : MethodId} {args : Array Value} {below : List Frame} {meth : Method} {c : Code} {Q : State → Prop} {dC : Nat → ClassId} {dI : Nat → Nat → Nat} {cI cJ cB cZ : ClassId} {A : Nat → Prop} (C0 : Cx p s m meth c args cX9_isPart 6 (some .boolean) wsX9_isPart RX9) (hK : va_K (dC, dI) vwCl [(cI, .int), (cJ, .long), (cB, .byte), (cZ, .boolean)] s) (hN : NW s) (hA : ∀ q, s.heap.size ≤ q → A q) (aM : Nat → Nat) (M_nodes : Int32) (M_operators : Int32) (M_textSize : Int32) (M_wordCount : Int32) (M_isParsed : Int32) (M_isTaken : Int32) (M_items : Int32) (M_piled : Int32) (M_outSize : Int32) (M_told : Int32) (M_standing : Int32) (M_elements : Nat → Int64) (M_elementCount : Nat → Int32) (res : Int32) (RET : RT_X9_isPart p l e s m args below meth c Q dC dI cI cJ cB cZ A aM M_nodes M_operators M_textSize M_wordCount M_isParsed M_isTaken M_items M_piled M_outSize M_told M_standing M_elements M_elementCount res) (k5 : Int64 → Int32 → Int32 → Option (Int32)) (hk5 : ∀ (x1 : Int64) (x3 : Int32) (x4 : Int32), k5 x1 x3 x4 = some res → ∀ (H : Heap) (locs : List Loc), va_P (dC, dI) vwCl [((aM 0), .inr (9, oX9 aM M_nodes M_operators M_textSize M_wordCount M_isParsed M_isTaken M_items M_piled M_outSize M_told M_standing)), ((aM 4), .inl (cJ, 270, .inr (.inl M_elements))), ((aM 5), .inl (cI, 30, .inl M_elementCount))] H → va_D A [((aM 0), .inr (9, oX9 aM M_nodes M_operators M_textSize M_wordCount M_isParsed M_isTaken M_items M_piled M_outSize M_told M_standing)), ((aM 4), .inl (cJ, 270, .inr (.inl M_elements))), ((aM 5), .inl (cI, 30, .inl M_elementCount))] → va_S A s.heap H locs → ∀ (ls : Array Slot), lv_has ls 6 [(0, .ref (aM 0)), (1, .long x1), (3, .int x3), (4, .int x4)] → W p l e rm_X9_isPart s m args below meth c H locs 0 0 Q (F0 m 5 ls [])) : ∀ (n : Nat) (x1 : Int64) (x3 : Int32) (x4 : Int32) (x5 : Int32), m_X9_isPart_21 M_operators M_elements M_elementCount k5 n x1 x3 x4 x5 = some res → ∀ (H : Heap) (locs : List Loc), va_P (dC, dI) vwCl [((aM 0), .inr (9, oX9 aM M_nodes M_operators M_textSize M_wordCount M_isParsed M_isTaken M_items M_piled M_outSize M_told M_standing)), ((aM 4), .inl (cJ, 270, .inr (.inl M_elements))), ((aM 5), .inl (cI, 30, .inl M_elementCount))] H → va_D A [((aM 0), .inr (9, oX9 aM M_nodes M_operators M_textSize M_wordCount M_isParsed M_isTaken M_items M_piled M_outSize M_told M_standing)), ((aM 4), .inl (cJ, 270, .inr (.inl M_elements))), ((aM 5), .inl (cI, 30, .inl M_elementCount))] → va_S A s.heap H locs → ∀ (ls : Array Slot), lv_has ls 6 [(0, .ref (aM 0)), (1, .long x1), (3, .int x3), (4, .int x4), (5, .int x5)] → W p l e rm_X9_isPart s m args below meth c H locs 0 0 Q (F0 m 21 ls []) := by
  obtain ⟨⟨hx, hb, hml, hown, hts⟩, hr, hlocks⟩ := id C0
  intro n
  induction n with
  | zero =>
    intro x1 x3 x4 x5 hm
    exact absurd hm (by intro h; cases h)
  | succ n ih =>
    intro x1 x3 x4 x5 hm H locs hP hD hS ls hl
    have hm : (gd x4 30 (if (M_elementCount x4.toNatClampNeg) ≤ x5 then (m_X9_isPart_75 M_operators M_elements M_elementCount k5 x1 x3 x4) else (if x3 = 0 then (if (lg_cmp x1 95) = 0 then (m_X9_isPart_67 M_operators M_elements M_elementCount k5 (m_X9_isPart_21 M_operators M_elements M_elementCount k5 n) x1 x4 x5) else (gd ((9 * x4) + x5) 270 (if (lg_cmp (M_elements ((9 * x4) + x5).toNatClampNeg) x1) = 0 then (m_X9_isPart_68 M_operators M_elements M_elementCount k5 (m_X9_isPart_21 M_operators M_elements M_elementCount k5 n) x1 x4 x5 1) else (m_X9_isPart_67 M_operators M_elements M_elementCount k5 (m_X9_isPart_21 M_operators M_elements M_elementCount k5 n) x1 x4 x5)))) else (m_X9_isPart_75 M_operators M_elements M_elementCount k5 x1 x3 x4)))) = some res := hm
    refine lv_iload hx hb dX9_isPart_21 (lv_at hl 4 rfl) ?_
    refine lv_aload_n hx hb dX9_isPart_23 rfl (lv_at hl 0 rfl) ?_
    refine va_get (D := (dC, dI)) (ci := 9) (v := .ref (aM 5)) (C := RX9) (T := TX9) (N := 53) hx hb hts X9_isPart_inX9 hown hK hP 0 rfl rfl 4 (by decide) (hts (.fieldLink RX9 17 "MixfixDeskModel" "elementCount" "[I") (List.mem_of_getElem? (i := 2) rfl)) (fun _ h9 => h9) rfl dX9_isPart_24 ?_
    refine lv_iload hx hb dX9_isPart_27 (lv_at hl 3 rfl) ?_
    obtain ⟨hi_1, hm⟩ := gd_some hm
    refine va_iald (D := (dC, dI)) hx hb hK hP 2 0 rfl rfl hi_1 dX9_isPart_29 ?_
    refine lv_icmp_ge (tgt := 75) hx hb dX9_isPart_30 (by decide) (fun c_2 => ?_) (fun c_2 => ?_)
    · have hm := it_some c_2 hm
      exact k_X9_isPart_75 C0 hK hN hA aM M_nodes M_operators M_textSize M_wordCount M_isParsed M_isTaken M_items M_piled M_outSize M_told M_standing M_elements M_elementCount res RET k5 hk5 x1 x3 x4 hm H locs hP hD hS ls (lv_sub hl [0, 1, 2, 3] rfl)
    · have hm := if_some' c_2 hm
      refine lv_iload_n hx hb dX9_isPart_33 rfl (lv_at hl 2 rfl) ?_
      refine lv_if_ne (tgt := 75) hx hb dX9_isPart_34 (by decide) (fun c_3 => ?_) (fun c_3 => ?_)
      · have hm := if_some' c_3 hm
        exact k_X9_isPart_75 C0 hK hN hA aM M_nodes M_operators M_textSize M_wordCount M_isParsed M_isTaken M_items M_piled M_outSize M_told M_standing M_elements M_elementCount res RET k5 hk5 x1 x3 x4 hm H locs hP hD hS ls (lv_sub hl [0, 1, 2, 3] rfl)
      · have hm := it_some c_3 hm
        refine lv_lload_n hx hb dX9_isPart_37 rfl (lv_at hl 1 rfl) ?_
        refine lv_ldc2 (v := 95) hx hb hown (hts (.constantLong RX9 154 (95)) (List.mem_of_getElem? (i := 3) rfl)) dX9_isPart_38 ?_
        refine W.lcmp hx hb dX9_isPart_41 ?_
        refine lv_if_eq (tgt := 67) hx hb dX9_isPart_42 (by decide) (fun c_4 => ?_) (fun c_4 => ?_)
        · have hm := it_some c_4 hm
          exact k_X9_isPart_67 C0 hK hN hA aM M_nodes M_operators M_textSize M_wordCount M_isParsed M_isTaken M_items M_piled M_outSize M_told M_standing M_elements M_elementCount res RET k5 (m_X9_isPart_21 M_operators M_elements M_elementCount k5 n) hk5 ih x1 x4 x5 hm H locs hP hD hS ls (lv_sub hl [0, 1, 3, 4] rfl)
        · have hm := if_some' c_4 hm
          refine lv_aload_n hx hb dX9_isPart_45 rfl (lv_at hl 0 rfl) ?_
          refine va_get (D := (dC, dI)) (ci := 9) (v := .ref (aM 4)) (C := RX9) (T := TX9) (N := 53) hx hb hts X9_isPart_inX9 hown hK hP 0 rfl rfl 3 (by decide) (hts (.fieldLink RX9 13 "MixfixDeskModel" "elements" "[J") (List.mem_of_getElem? (i := 4) rfl)) (fun _ h9 => h9) rfl dX9_isPart_46 ?_
          refine lv_bipush (v := 9) hx hb dX9_isPart_49 (by decide) ?_
          refine lv_iload hx hb dX9_isPart_51 (lv_at hl 3 rfl) ?_
          refine lv_imul hx hb dX9_isPart_53 ?_
          refine lv_iload hx hb dX9_isPart_54 (lv_at hl 4 rfl) ?_
          refine lv_iadd hx hb dX9_isPart_56 ?_
          obtain ⟨hi_5, hm⟩ := gd_some hm
          refine va_lald (D := (dC, dI)) hx hb hK hP 1 1 rfl rfl hi_5 dX9_isPart_57 ?_
          refine lv_lload_n hx hb dX9_isPart_58 rfl (lv_at hl 1 rfl) ?_
          refine W.lcmp hx hb dX9_isPart_59 ?_
          refine lv_if_ne (tgt := 67) hx hb dX9_isPart_60 (by decide) (fun c_6 => ?_) (fun c_6 => ?_)
          · have hm := if_some' c_6 hm
            exact k_X9_isPart_67 C0 hK hN hA aM M_nodes M_operators M_textSize M_wordCount M_isParsed M_isTaken M_items M_piled M_outSize M_told M_standing M_elements M_elementCount res RET k5 (m_X9_isPart_21 M_operators M_elements M_elementCount k5 n) hk5 ih x1 x4 x5 hm H locs hP hD hS ls (lv_sub hl [0, 1, 3, 4] rfl)
          · have hm := it_some c_6 hm
            refine lv_iconst (v := 1) hx hb dX9_isPart_63 (by decide) ?_
            refine lv_goto (tgt := 68) hx hb dX9_isPart_64 (by decide) ?_
            exact k_X9_isPart_68 C0 hK hN hA aM M_nodes M_operators M_textSize M_wordCount M_isParsed M_isTaken M_items M_piled M_outSize M_told M_standing M_elements M_elementCount res RET k5 (m_X9_isPart_21 M_operators M_elements M_elementCount k5 n) hk5 ih x1 x4 x5 1 hm H locs hP hD hS ls (lv_sub hl [0, 1, 3, 4] rfl)
set_option maxHeartbeats 4000000 in
set_option maxRecDepth 100000 in
theorem k_X9_isPart_5 {p : Program} {l : Launch} {e : Env} {s : State} {m : MethodId} {args : Array Value} {below : List Frame} {meth : Method} {c : Code} {Q : State → Prop} {dC : Nat → ClassId} {dI : Nat → Nat → Nat} {cI cJ cB cZ : ClassId} {A : Nat → Prop} (C0 : Cx p s m meth c args cX9_isPart 6 (some .boolean) wsX9_isPart RX9) (hK : va_K (dC, dI) vwCl [(cI, .int), (cJ, .long), (cB, .byte), (cZ, .boolean)] s) (hN : NW s) (hA : ∀ q, s.heap.size ≤ q → A q) (aM : Nat → Nat) (M_nodes : Int32) (M_operators : Int32) (M_textSize : Int32) (M_wordCount : Int32) (M_isParsed : Int32) (M_isTaken : Int32) (M_items : Int32) (M_piled : Int32) (M_outSize : Int32) (M_told : Int32) (M_standing : Int32) (M_elements : Nat → Int64) (M_elementCount : Nat → Int32) (res : Int32) (RET : RT_X9_isPart p l e s m args below meth c Q dC dI cI cJ cB cZ A aM M_nodes M_operators M_textSize M_wordCount M_isParsed M_isTaken M_items M_piled M_outSize M_told M_standing M_elements M_elementCount res)   : ∀ (n : Nat) (x1 : Int64) (x3 : Int32) (x4 : Int32), m_X9_isPart_5 M_operators M_elements M_elementCount n x1 x3 x4 = some res → ∀ (H : Heap) (locs : List Loc), va_P (dC, dI) vwCl [((aM 0), .inr (9, oX9 aM M_nodes M_operators M_textSize M_wordCount M_isParsed M_isTaken M_items M_piled M_outSize M_told M_standing)), ((aM 4), .inl (cJ, 270, .inr (.inl M_elements))), ((aM 5), .inl (cI, 30, .inl M_elementCount))] H → va_D A [((aM 0), .inr (9, oX9 aM M_nodes M_operators M_textSize M_wordCount M_isParsed M_isTaken M_items M_piled M_outSize M_told M_standing)), ((aM 4), .inl (cJ, 270, .inr (.inl M_elements))), ((aM 5), .inl (cI, 30, .inl M_elementCount))] → va_S A s.heap H locs → ∀ (ls : Array Slot), lv_has ls 6 [(0, .ref (aM 0)), (1, .long x1), (3, .int x3), (4, .int x4)] → W p l e rm_X9_isPart s m args below meth c H locs 0 0 Q (F0 m 5 ls []) := by
  obtain ⟨⟨hx, hb, hml, hown, hts⟩, hr, hlocks⟩ := id C0
  intro n
  induction n with
  | zero =>
    intro x1 x3 x4 hm
    exact absurd hm (by intro h; cases h)
  | succ n ih =>
    intro x1 x3 x4 hm H locs hP hD hS ls hl
    have hm : (if M_operators ≤ x4 then (gb x3 (some x3)) else (if x3 = 0 then (m_X9_isPart_21 M_operators M_elements M_elementCount (m_X9_isPart_5 M_operators M_elements M_elementCount n) FU x1 x3 x4 0) else (gb x3 (some x3)))) = some res := hm
    refine lv_iload hx hb dX9_isPart_5 (lv_at hl 3 rfl) ?_
    refine lv_aload_n hx hb dX9_isPart_7 rfl (lv_at hl 0 rfl) ?_
    refine va_get (D := (dC, dI)) (ci := 9) (v := .int M_operators) (C := RX9) (T := TX9) (N := 53) hx hb hts X9_isPart_inX9 hown hK hP 0 rfl rfl 2 (by decide) (hts (.fieldLink RX9 151 "MixfixDeskModel" "operators" "I") (List.mem_of_getElem? (i := 1) rfl)) (fun _ h9 => h9) rfl dX9_isPart_8 ?_
    refine lv_icmp_ge (tgt := 81) hx hb dX9_isPart_11 (by decide) (fun c_7 => ?_) (fun c_7 => ?_)
    · have hm := it_some c_7 hm
      refine lv_iload_n hx hb dX9_isPart_81 rfl (lv_at hl 2 rfl) ?_
      obtain ⟨hg_8, hm⟩ := gb_some hm
      exact RET x3 hm hg_8 _ H locs ls dX9_isPart_82 hP hD hS
    · have hm := if_some' c_7 hm
      refine lv_iload_n hx hb dX9_isPart_14 rfl (lv_at hl 2 rfl) ?_
      refine lv_if_ne (tgt := 81) hx hb dX9_isPart_15 (by decide) (fun c_9 => ?_) (fun c_9 => ?_)
      · have hm := if_some' c_9 hm
        refine lv_iload_n hx hb dX9_isPart_81 rfl (lv_at hl 2 rfl) ?_
        obtain ⟨hg_10, hm⟩ := gb_some hm
        exact RET x3 hm hg_10 _ H locs ls dX9_isPart_82 hP hD hS
      · have hm := it_some c_9 hm
        refine lv_iconst (v := 0) hx hb dX9_isPart_18 (by decide) ?_
        refine lv_istore (lv' := [(5, .int 0), (0, .ref (aM 0)), (1, .long x1), (3, .int x3), (4, .int x4)]) hx hb dX9_isPart_19 hl (by decide) rfl (fun ls hl => ?_)
        exact k_X9_isPart_21 C0 hK hN hA aM M_nodes M_operators M_textSize M_wordCount M_isParsed M_isTaken M_items M_piled M_outSize M_told M_standing M_elements M_elementCount res RET (m_X9_isPart_5 M_operators M_elements M_elementCount n) ih FU x1 x3 x4 0 hm H locs hP hD hS ls (lv_sub hl [1, 2, 3, 4, 0] rfl)
set_option maxHeartbeats 4000000 in
set_option maxRecDepth 100000 in
theorem k_X9_isPart_E {p : Program} {l : Launch} {e : Env} {s : State} {m : MethodId} {args : Array Value} {below : List Frame} {meth : Method} {c : Code} {Q : State → Prop} {dC : Nat → ClassId} {dI : Nat → Nat → Nat} {cI cJ cB cZ : ClassId} {A : Nat → Prop} (C0 : Cx p s m meth c args cX9_isPart 6 (some .boolean) wsX9_isPart RX9) (hK : va_K (dC, dI) vwCl [(cI, .int), (cJ, .long), (cB, .byte), (cZ, .boolean)] s) (hN : NW s) (hA : ∀ q, s.heap.size ≤ q → A q) (aM : Nat → Nat) (M_nodes : Int32) (M_operators : Int32) (M_textSize : Int32) (M_wordCount : Int32) (M_isParsed : Int32) (M_isTaken : Int32) (M_items : Int32) (M_piled : Int32) (M_outSize : Int32) (M_told : Int32) (M_standing : Int32) (M_elements : Nat → Int64) (M_elementCount : Nat → Int32) (res : Int32) (RET : RT_X9_isPart p l e s m args below meth c Q dC dI cI cJ cB cZ A aM M_nodes M_operators M_textSize M_wordCount M_isParsed M_isTaken M_items M_piled M_outSize M_told M_standing M_elements M_elementCount res) : ∀ (p0 : Int64), m_X9_isPart M_operators M_elements M_elementCount p0 = some res → ∀ (H : Heap) (locs : List Loc), va_P (dC, dI) vwCl [((aM 0), .inr (9, oX9 aM M_nodes M_operators M_textSize M_wordCount M_isParsed M_isTaken M_items M_piled M_outSize M_told M_standing)), ((aM 4), .inl (cJ, 270, .inr (.inl M_elements))), ((aM 5), .inl (cI, 30, .inl M_elementCount))] H → va_D A [((aM 0), .inr (9, oX9 aM M_nodes M_operators M_textSize M_wordCount M_isParsed M_isTaken M_items M_piled M_outSize M_told M_standing)), ((aM 4), .inl (cJ, 270, .inr (.inl M_elements))), ((aM 5), .inl (cI, 30, .inl M_elementCount))] → va_S A s.heap H locs → ∀ (ls : Array Slot), lv_has ls 6 [(0, .ref (aM 0)), (1, .long p0)] → W p l e rm_X9_isPart s m args below meth c H locs 0 0 Q (F0 m 0 ls []) := by
  obtain ⟨⟨hx, hb, hml, hown, hts⟩, hr, hlocks⟩ := id C0
  intro p0 hm H locs hP hD hS ls hl
  have hm : (m_X9_isPart_5 M_operators M_elements M_elementCount FU p0 0 0) = some res := hm
  refine lv_iconst (v := 0) hx hb dX9_isPart_0 (by decide) ?_
  refine lv_istore_n (lv' := [(3, .int 0), (0, .ref (aM 0)), (1, .long p0)]) hx hb dX9_isPart_1 rfl hl (by decide) rfl (fun ls hl => ?_)
  refine lv_iconst (v := 0) hx hb dX9_isPart_2 (by decide) ?_
  refine lv_istore (lv' := [(4, .int 0), (3, .int 0), (0, .ref (aM 0)), (1, .long p0)]) hx hb dX9_isPart_3 hl (by decide) rfl (fun ls hl => ?_)
  exact k_X9_isPart_5 C0 hK hN hA aM M_nodes M_operators M_textSize M_wordCount M_isParsed M_isTaken M_items M_piled M_outSize M_told M_standing M_elements M_elementCount res RET FU p0 0 0 hm H locs hP hD hS ls (lv_sub hl [2, 3, 1, 0] rfl)
set_option maxHeartbeats 4000000 in
set_option maxRecDepth 100000 in
theorem c_X9_isPart (l : Launch) (dC : Nat → ClassId) (dI : Nat → Nat → Nat) (cI cJ cB cZ : ClassId) (aM : Nat → Nat) (sz : Nat) (M_nodes : Int32) (M_operators : Int32) (M_textSize : Int32) (M_wordCount : Int32) (M_isParsed : Int32) (M_isTaken : Int32) (M_items : Int32) (M_piled : Int32) (M_outSize : Int32) (M_told : Int32) (M_standing : Int32) (M_elements : Nat → Int64) (M_elementCount : Nat → Int32) (p0 : Int64) (res : Int32) (hm : m_X9_isPart M_operators M_elements M_elementCount p0 = some res) : Met l yX9_isPart wsX9_isPart rm_X9_isPart (cP (dC, dI) vwCl [(cI, .int), (cJ, .long), (cB, .byte), (cZ, .boolean)] [.ref (aM 0), .long p0] [((aM 0), .inr (9, oX9 aM M_nodes M_operators M_textSize M_wordCount M_isParsed M_isTaken M_items M_piled M_outSize M_told M_standing)), ((aM 4), .inl (cJ, 270, .inr (.inl M_elements))), ((aM 5), .inl (cI, 30, .inl M_elementCount))] sz) (cQi res (dC, dI) vwCl [((aM 0), .inr (9, oX9 aM M_nodes M_operators M_textSize M_wordCount M_isParsed M_isTaken M_items M_piled M_outSize M_told M_standing)), ((aM 4), .inl (cJ, 270, .inr (.inl M_elements))), ((aM 5), .inl (cI, 30, .inl M_elementCount))] [((aM 0), .inr (9, oX9 aM M_nodes M_operators M_textSize M_wordCount M_isParsed M_isTaken M_items M_piled M_outSize M_told M_standing)), ((aM 4), .inl (cJ, 270, .inr (.inl M_elements))), ((aM 5), .inl (cI, 30, .inl M_elementCount))] sz) 0 0 (va_A [((aM 0), .inr (9, oX9 aM M_nodes M_operators M_textSize M_wordCount M_isParsed M_isTaken M_items M_piled M_outSize M_told M_standing)), ((aM 4), .inl (cJ, 270, .inr (.inl M_elements))), ((aM 5), .inl (cI, 30, .inl M_elementCount))] sz) := by
  refine cx_of (cc := cX9_isPart) (maxL := 6) (ret := (some .boolean)) (own := RX9) (by decide) rfl rfl (Nat.le_of_ble_eq_true rfl) ?_
  intro p e s m below meth c A C0 hinN hK hN hsz hAe hA hP hD hS ls hl
  refine k_X9_isPart_E C0 hK hN hA aM M_nodes M_operators M_textSize M_wordCount M_isParsed M_isTaken M_items M_piled M_outSize M_told M_standing M_elements M_elementCount res ?_ p0 hm _ _ hP hD hS ls hl
  intro v he hn pc H locs ls hdg hP hD hS
  have he := Option.some.inj he
  subst he
  exact cx_retz C0 hn hsz hAe hdg hP hD hS

