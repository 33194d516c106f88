theorem dX9_leads_0 : decode cX9_leads 0 = .ok (.iconst 0, 1) := by decide +kernel
theorem dX9_leads_1 : decode cX9_leads 1 = .ok (.istore_n 3, 1) := by decide +kernel
theorem dX9_leads_2 : decode cX9_leads 2 = .ok (.iload_n 3, 1) := by decide +kernel
theorem dX9_leads_3 : decode cX9_leads 3 = .ok (.bipush 16, 2) := by decide +kernel
theorem dX9_leads_5 : decode cX9_leads 5 = .ok (.if_icmp .ge 16, 3) := by decide +kernel
theorem dX9_leads_8 : decode cX9_leads 8 = .ok (.aload_n 0, 1) := by decide +kernel
theorem dX9_leads_9 : decode cX9_leads 9 = .ok (.getfield 87, 3) := by decide +kernel
theorem dX9_leads_12 : decode cX9_leads 12 = .ok (.iload_n 3, 1) := by decide +kernel
theorem dX9_leads_13 : decode cX9_leads 13 = .ok (.iconst 0, 1) := by decide +kernel
theorem dX9_leads_14 : decode cX9_leads 14 = .ok (.bastore, 1) := by decide +kernel
theorem dX9_leads_15 : decode cX9_leads 15 = .ok (.iinc 3 1, 3) := by decide +kernel
theorem dX9_leads_18 : decode cX9_leads 18 = .ok (.goto (-16), 3) := by decide +kernel
theorem dX9_leads_21 : decode cX9_leads 21 = .ok (.iconst 1, 1) := by decide +kernel
theorem dX9_leads_22 : decode cX9_leads 22 = .ok (.istore_n 3, 1) := by decide +kernel
theorem dX9_leads_23 : decode cX9_leads 23 = .ok (.aload_n 0, 1) := by decide +kernel
theorem dX9_leads_24 : decode cX9_leads 24 = .ok (.getfield 90, 3) := by decide +kernel
theorem dX9_leads_27 : decode cX9_leads 27 = .ok (.iconst 0, 1) := by decide +kernel
theorem dX9_leads_28 : decode cX9_leads 28 = .ok (.iload_n 1, 1) := by decide +kernel
theorem dX9_leads_29 : decode cX9_leads 29 = .ok (.iastore, 1) := by decide +kernel
theorem dX9_leads_30 : decode cX9_leads 30 = .ok (.aload_n 0, 1) := by decide +kernel
theorem dX9_leads_31 : decode cX9_leads 31 = .ok (.getfield 87, 3) := by decide +kernel
theorem dX9_leads_34 : decode cX9_leads 34 = .ok (.iload_n 1, 1) := by decide +kernel
theorem dX9_leads_35 : decode cX9_leads 35 = .ok (.iconst 1, 1) := by decide +kernel
theorem dX9_leads_36 : decode cX9_leads 36 = .ok (.bastore, 1) := by decide +kernel
theorem dX9_leads_37 : decode cX9_leads 37 = .ok (.iload_n 3, 1) := by decide +kernel
theorem dX9_leads_38 : decode cX9_leads 38 = .ok (.ifCond .le 80, 3) := by decide +kernel
theorem dX9_leads_41 : decode cX9_leads 41 = .ok (.iinc 3 (-1), 3) := by decide +kernel
theorem dX9_leads_44 : decode cX9_leads 44 = .ok (.aload_n 0, 1) := by decide +kernel
theorem dX9_leads_45 : decode cX9_leads 45 = .ok (.getfield 90, 3) := by decide +kernel
theorem dX9_leads_48 : decode cX9_leads 48 = .ok (.iload_n 3, 1) := by decide +kernel
theorem dX9_leads_49 : decode cX9_leads 49 = .ok (.iaload, 1) := by decide +kernel
theorem dX9_leads_50 : decode cX9_leads 50 = .ok (.istore 4, 2) := by decide +kernel
theorem dX9_leads_52 : decode cX9_leads 52 = .ok (.iconst 0, 1) := by decide +kernel
theorem dX9_leads_53 : decode cX9_leads 53 = .ok (.istore 5, 2) := by decide +kernel
theorem dX9_leads_55 : decode cX9_leads 55 = .ok (.iload 5, 2) := by decide +kernel
theorem dX9_leads_57 : decode cX9_leads 57 = .ok (.aload_n 0, 1) := by decide +kernel
theorem dX9_leads_58 : decode cX9_leads 58 = .ok (.getfield 141, 3) := by decide +kernel
theorem dX9_leads_61 : decode cX9_leads 61 = .ok (.if_icmp .ge 54, 3) := by decide +kernel
theorem dX9_leads_64 : decode cX9_leads 64 = .ok (.aload_n 0, 1) := by decide +kernel
theorem dX9_leads_65 : decode cX9_leads 65 = .ok (.getfield 7, 3) := by decide +kernel
theorem dX9_leads_68 : decode cX9_leads 68 = .ok (.bipush 16, 2) := by decide +kernel
theorem dX9_leads_70 : decode cX9_leads 70 = .ok (.iload 4, 2) := by decide +kernel
theorem dX9_leads_72 : decode cX9_leads 72 = .ok (.imul, 1) := by decide +kernel
theorem dX9_leads_73 : decode cX9_leads 73 = .ok (.iload 5, 2) := by decide +kernel
theorem dX9_leads_75 : decode cX9_leads 75 = .ok (.iadd, 1) := by decide +kernel
theorem dX9_leads_76 : decode cX9_leads 76 = .ok (.baload, 1) := by decide +kernel
theorem dX9_leads_77 : decode cX9_leads 77 = .ok (.ifCond .eq 32, 3) := by decide +kernel
theorem dX9_leads_80 : decode cX9_leads 80 = .ok (.aload_n 0, 1) := by decide +kernel
theorem dX9_leads_81 : decode cX9_leads 81 = .ok (.getfield 87, 3) := by decide +kernel
theorem dX9_leads_84 : decode cX9_leads 84 = .ok (.iload 5, 2) := by decide +kernel
theorem dX9_leads_86 : decode cX9_leads 86 = .ok (.baload, 1) := by decide +kernel
theorem dX9_leads_87 : decode cX9_leads 87 = .ok (.ifCond .ne 22, 3) := by decide +kernel
theorem dX9_leads_90 : decode cX9_leads 90 = .ok (.aload_n 0, 1) := by decide +kernel
theorem dX9_leads_91 : decode cX9_leads 91 = .ok (.getfield 87, 3) := by decide +kernel
theorem dX9_leads_94 : decode cX9_leads 94 = .ok (.iload 5, 2) := by decide +kernel
theorem dX9_leads_96 : decode cX9_leads 96 = .ok (.iconst 1, 1) := by decide +kernel
theorem dX9_leads_97 : decode cX9_leads 97 = .ok (.bastore, 1) := by decide +kernel
theorem dX9_leads_98 : decode cX9_leads 98 = .ok (.aload_n 0, 1) := by decide +kernel
theorem dX9_leads_99 : decode cX9_leads 99 = .ok (.getfield 90, 3) := by decide +kernel
theorem dX9_leads_102 : decode cX9_leads 102 = .ok (.iload_n 3, 1) := by decide +kernel
theorem dX9_leads_103 : decode cX9_leads 103 = .ok (.iload 5, 2) := by decide +kernel
theorem dX9_leads_105 : decode cX9_leads 105 = .ok (.iastore, 1) := by decide +kernel
theorem dX9_leads_106 : decode cX9_leads 106 = .ok (.iinc 3 1, 3) := by decide +kernel
theorem dX9_leads_109 : decode cX9_leads 109 = .ok (.iinc 5 1, 3) := by decide +kernel
theorem dX9_leads_112 : decode cX9_leads 112 = .ok (.goto (-57), 3) := by decide +kernel
theorem dX9_leads_115 : decode cX9_leads 115 = .ok (.goto (-78), 3) := by decide +kernel
theorem dX9_leads_118 : decode cX9_leads 118 = .ok (.aload_n 0, 1) := by decide +kernel
theorem dX9_leads_119 : decode cX9_leads 119 = .ok (.getfield 87, 3) := by decide +kernel
theorem dX9_leads_122 : decode cX9_leads 122 = .ok (.iload_n 2, 1) := by decide +kernel
theorem dX9_leads_123 : decode cX9_leads 123 = .ok (.baload, 1) := by decide +kernel
theorem dX9_leads_124 : decode cX9_leads 124 = .ok (.ireturn, 1) := by decide +kernel
/-! MixfixDeskModel.leads(II)Z -/
abbrev rm_X9_leads : Room := { frames := 0, cells := 0, slots := 0, locals := 0 }
theorem X9_leads_inX9 : ∀ w ∈ wsX90, w ∈ wsX9_leads := by exact fun w h => List.mem_cons_of_mem _ (List.mem_append_right _ h)
abbrev RT_X9_leads (p : Program) (l : Launch) (e : Env) (s : State) (m : MethodId) (args : Array Value) (below : List Frame) (meth : Method) (c : Code) (Q : State → Prop) (dC : Nat → ClassId) (dI : Nat → Nat → Nat) (cI cJ cB cZ : ClassId) (A : Nat → Prop) (aM : Nat → Nat) (M_nodes : Int32) (M_operators : Int32) (M_textSize : Int32) (M_wordCount : Int32) (M_isParsed : Int32) (M_isTaken : Int32) (M_items : Int32) (M_piled : Int32) (M_outSize : Int32) (M_told : Int32) (M_standing : Int32) (M_isTighter : Nat → Int32) (res : Int32 × (Nat → Int32) × (Nat → Int32)) : Prop := ∀ (v : Int32) (M_seen : Nat → Int32) (M_walk : Nat → Int32), some (v, M_seen, M_walk) = some res → narrow .boolean (.int v) = .int v → ∀ (pc : Nat) (H : Heap) (locs : List Loc) (ls : Array Slot), decode cX9_leads pc = .ok (.ireturn, 1) → va_P (dC, dI) vwCl [((aM 0), .inr (9, oX9 aM M_nodes M_operators M_textSize M_wordCount M_isParsed M_isTaken M_items M_piled M_outSize M_told M_standing)), ((aM 2), .inl (cZ, 256, .inl M_isTighter)), ((aM 34), .inl (cZ, 16, .inl M_seen)), ((aM 35), .inl (cI, 16, .inl M_walk))] H → va_D A [((aM 0), .inr (9, oX9 aM M_nodes M_operators M_textSize M_wordCount M_isParsed M_isTaken M_items M_piled M_outSize M_told M_standing)), ((aM 2), .inl (cZ, 256, .inl M_isTighter)), ((aM 34), .inl (cZ, 16, .inl M_seen)), ((aM 35), .inl (cI, 16, .inl M_walk))] → va_S A s.heap H locs → W p l e rm_X9_leads s m args below meth c H locs 0 0 Q (F0 m pc ls [.int v])
set_option maxHeartbeats 4000000 in
set_option maxRecDepth 100000 in
theorem k_X9_leads_109 {p : Program} {l : Launch} {e : Env} {s : State} {m : MethodId} {args : Array Value} {below : List Frame} {meth : Method} {c : Code} {Q : State → Prop} {dC : Nat → ClassId} {dI : Nat → Nat → Nat} {cI cJ cB cZ : ClassId} {A : Nat → Prop} (C0 : Cx p s m meth c args cX9_leads 6 (some .boolean) wsX9_leads RX9) (hK : va_K (dC, dI) vwCl [(cI, .int), (cJ, .long), (cB, .byte), (cZ, .boolean)] s) (hN : NW s) (hA : ∀ q, s.heap.size ≤ q → A q) (aM : Nat → Nat) (M_nodes : Int32) (M_operators : Int32) (M_textSize : Int32) (M_wordCount : Int32) (M_isParsed : Int32) (M_isTaken : Int32) (M_items : Int32) (M_piled : Int32) (M_outSize : Int32) (M_told : Int32) (M_standing : Int32) (M_isTighter : Nat → Int32) (res : Int32 × (Nat → Int32) × (Nat → Int32)) (RET : RT_X9_leads p l e s m args below meth c Q dC dI cI cJ cB cZ A aM M_nodes M_operators M_textSize M_wordCount M_isParsed M_isTaken M_items M_piled M_outSize M_told M_standing M_isTighter res) (k37 : (Nat → Int32) → (Nat → Int32) → Int32 → Int32 → Option (Int32 × (Nat → Int32) × (Nat → Int32))) (k55 : (Nat → Int32) → (Nat → Int32) → Int32 → Int32 → Int32 → Int32 → Option (Int32 × (Nat → Int32) × (Nat → Int32))) (hk37 : ∀ (M_seen : Nat → Int32) (M_walk : Nat → Int32) (x2 : Int32) (x3 : Int32), k37 M_seen M_walk x2 x3 = some res → ∀ (H : Heap) (locs : List Loc), va_P (dC, dI) vwCl [((aM 0), .inr (9, oX9 aM M_nodes M_operators M_textSize M_wordCount M_isParsed M_isTaken M_items M_piled M_outSize M_told M_standing)), ((aM 2), .inl (cZ, 256, .inl M_isTighter)), ((aM 34), .inl (cZ, 16, .inl M_seen)), ((aM 35), .inl (cI, 16, .inl M_walk))] H → va_D A [((aM 0), .inr (9, oX9 aM M_nodes M_operators M_textSize M_wordCount M_isParsed M_isTaken M_items M_piled M_outSize M_told M_standing)), ((aM 2), .inl (cZ, 256, .inl M_isTighter)), ((aM 34), .inl (cZ, 16, .inl M_seen)), ((aM 35), .inl (cI, 16, .inl M_walk))] → va_S A s.heap H locs → ∀ (ls : Array Slot), lv_has ls 6 [(0, .ref (aM 0)), (2, .int x2), (3, .int x3)] → W p l e rm_X9_leads s m args below meth c H locs 0 0 Q (F0 m 37 ls [])) (hk55 : ∀ (M_seen : Nat → Int32) (M_walk : Nat → Int32) (x2 : Int32) (x3 : Int32) (x4 : Int32) (x5 : Int32), k55 M_seen M_walk x2 x3 x4 x5 = some res → ∀ (H : Heap) (locs : List Loc), va_P (dC, dI) vwCl [((aM 0), .inr (9, oX9 aM M_nodes M_operators M_textSize M_wordCount M_isParsed M_isTaken M_items M_piled M_outSize M_told M_standing)), ((aM 2), .inl (cZ, 256, .inl M_isTighter)), ((aM 34), .inl (cZ, 16, .inl M_seen)), ((aM 35), .inl (cI, 16, .inl M_walk))] H → va_D A [((aM 0), .inr (9, oX9 aM M_nodes M_operators M_textSize M_wordCount M_isParsed M_isTaken M_items M_piled M_outSize M_told M_standing)), ((aM 2), .inl (cZ, 256, .inl M_isTighter)), ((aM 34), .inl (cZ, 16, .inl M_seen)), ((aM 35), .inl (cI, 16, .inl M_walk))] → va_S A s.heap H locs → ∀ (ls : Array Slot), lv_has ls 6 [(0, .ref (aM 0)), (2, .int x2), (3, .int x3), (4, .int x4), (5, .int x5)] → W p l e rm_X9_leads s m args below meth c H locs 0 0 Q (F0 m 55 ls [])) : ∀ (M_seen : Nat → Int32) (M_walk : Nat → Int32) (x2 : Int32) (x3 : Int32) (x4 : Int32) (x5 : Int32), m_X9_leads_109 M_nodes M_isTighter k37 k55 M_seen M_walk x2 x3 x4 x5 = some res → ∀ (H : Heap) (locs : List Loc), va_P (dC, dI) vwCl [((aM 0), .inr (9, oX9 aM M_nodes M_operators M_textSize M_wordCount M_isParsed M_isTaken M_items M_piled M_outSize M_told M_standing)), ((aM 2), .inl (cZ, 256, .inl M_isTighter)), ((aM 34), .inl (cZ, 16, .inl M_seen)), ((aM 35), .inl (cI, 16, .inl M_walk))] H → va_D A [((aM 0), .inr (9, oX9 aM M_nodes M_operators M_textSize M_wordCount M_isParsed M_isTaken M_items M_piled M_outSize M_told M_standing)), ((aM 2), .inl (cZ, 256, .inl M_isTighter)), ((aM 34), .inl (cZ, 16, .inl M_seen)), ((aM 35), .inl (cI, 16, .inl M_walk))] → va_S A s.heap H locs → ∀ (ls : Array Slot), lv_has ls 6 [(0, .ref (aM 0)), (2, .int x2), (3, .int x3), (4, .int x4), (5, .int x5)] → W p l e rm_X9_leads s m args below meth c H locs 0 0 Q (F0 m 109 ls []) := by
  obtain ⟨⟨hx, hb, hml, hown, hts⟩, hr, hlocks⟩ := id C0
  intro M_seen M_walk x2 x3 x4 x5 hm H locs hP hD hS ls hl
  have hm : (k55 M_seen M_walk x2 x3 x4 (x5 + 1)) = some res := hm
  refine lv_iinc (v := x5 + 1) (lv' := [(5, .int (x5 + 1)), (0, .ref (aM 0)), (2, .int x2), (3, .int x3), (4, .int x4)]) hx hb dX9_leads_109 hl (k := 4) rfl rfl (by decide) rfl (fun ls hl => ?_)
  refine lv_goto (tgt := 55) hx hb dX9_leads_112 (by decide) ?_
  exact hk55 M_seen M_walk x2 x3 x4 (x5 + 1) hm H locs hP hD hS ls (lv_sub hl [1, 2, 3, 4, 0] rfl)
set_option maxHeartbeats 4000000 in
set_option maxRecDepth 100000 in
theorem k_X9_leads_55 {p : Program} {l : Launch} {e : Env} {s : State} {m : MethodId} {args : Array Value} {below : List Frame} {meth : Method} {c : Code} {Q : State → Prop} {dC : Nat → ClassId} {dI : Nat → Nat → Nat} {cI cJ cB cZ : ClassId} {A : Nat → Prop} (C0 : Cx p s m meth c args cX9_leads 6 (some .boolean) wsX9_leads RX9) (hK : va_K (dC, dI) vwCl [(cI, .int), (cJ, .long), (cB, .byte), (cZ, .boolean)] s) (hN : NW s) (hA : ∀ q, s.heap.size ≤ q → A q) (aM : Nat → Nat) (M_nodes : Int32) (M_operators : Int32) (M_textSize : Int32) (M_wordCount : Int32) (M_isParsed : Int32) (M_isTaken : Int32) (M_items : Int32) (M_piled : Int32) (M_outSize : Int32) (M_told : Int32) (M_standing : Int32) (M_isTighter : Nat → Int32) (res : Int32 × (Nat → Int32) × (Nat → Int32)) (RET : RT_X9_leads p l e s m args below meth c Q dC dI cI cJ cB cZ A aM M_nodes M_operators M_textSize M_wordCount M_isParsed M_isTaken M_items M_piled M_outSize M_told M_standing M_isTighter res) (k37 : (Nat → Int32) → (Nat → Int32) → Int32 → Int32 → Option (Int32 × (Nat → Int32) × (Nat → Int32))) (hk37 : ∀ (M_seen : Nat → Int32) (M_walk : Nat → Int32) (x2 : Int32) (x3 : Int32), k37 M_seen M_walk x2 x3 = some res → ∀ (H : Heap) (locs : List Loc), va_P (dC, dI) vwCl [((aM 0), .inr (9, oX9 aM M_nodes M_operators M_textSize M_wordCount M_isParsed M_isTaken M_items M_piled M_outSize M_told M_standing)), ((aM 2), .inl (cZ, 256, .inl M_isTighter)), ((aM 34), .inl (cZ, 16, .inl M_seen)), ((aM 35), .inl (cI, 16, .inl M_walk))] H → va_D A [((aM 0), .inr (9, oX9 aM M_nodes M_operators M_textSize M_wordCount M_isParsed M_isTaken M_items M_piled M_outSize M_told M_standing)), ((aM 2), .inl (cZ, 256, .inl M_isTighter)), ((aM 34), .inl (cZ, 16, .inl M_seen)), ((aM 35), .inl (cI, 16, .inl M_walk))] → va_S A s.heap H locs → ∀ (ls : Array Slot), lv_has ls 6 [(0, .ref (aM 0)), (2, .int x2), (3, .int x3)] → W p l e rm_X9_leads s m args below meth c H locs 0 0 Q (F0 m 37 ls [])) : ∀ (n : Nat) (M_seen : Nat → Int32) (M_walk : Nat → Int32) (x2 : Int32) (x3 : Int32) (x4 : Int32) (x5 : Int32), m_X9_leads_55 M_nodes M_isTighter k37 n M_seen M_walk x2 x3 x4 x5 = some res → ∀ (H : Heap) (locs : List Loc), va_P (dC, dI) vwCl [((aM 0), .inr (9, oX9 aM M_nodes M_operators M_textSize M_wordCount M_isParsed M_isTaken M_items M_piled M_outSize M_told M_standing)), ((aM 2), .inl (cZ, 256, .inl M_isTighter)), ((aM 34), .inl (cZ, 16, .inl M_seen)), ((aM 35), .inl (cI, 16, .inl M_walk))] H → va_D A [((aM 0), .inr (9, oX9 aM M_nodes M_operators M_textSize M_wordCount M_isParsed M_isTaken M_items M_piled M_outSize M_told M_standing)), ((aM 2), .inl (cZ, 256, .inl M_isTighter)), ((aM 34), .inl (cZ, 16, .inl M_seen)), ((aM 35), .inl (cI, 16, .inl M_walk))] → va_S A s.heap H locs → ∀ (ls : Array Slot), lv_has ls 6 [(0, .ref (aM 0)), (2, .int x2), (3, .int x3), (4, .int x4), (5, .int x5)] → W p l e rm_X9_leads s m args below meth c H locs 0 0 Q (F0 m 55 ls []) := by
  obtain ⟨⟨hx, hb, hml, hown, hts⟩, hr, hlocks⟩ := id C0
  intro n
  induction n with
  | zero =>
    intro M_seen M_walk x2 x3 x4 x5 hm
    exact absurd hm (by intro h; cases h)
  | succ n ih =>
    intro M_seen M_walk x2 x3 x4 x5 hm H locs hP hD hS ls hl
    have hm : (if M_nodes ≤ x5 then (k37 M_seen M_walk x2 x3) else (gd ((16 * x4) + x5) 256 (if (M_isTighter ((16 * x4) + x5).toNatClampNeg) = 0 then (m_X9_leads_109 M_nodes M_isTighter k37 (m_X9_leads_55 M_nodes M_isTighter k37 n) M_seen M_walk x2 x3 x4 x5) else (gd x5 16 (if (M_seen x5.toNatClampNeg) = 0 then (gd x5 16 (gd x3 16 (m_X9_leads_109 M_nodes M_isTighter k37 (m_X9_leads_55 M_nodes M_isTighter k37 n) (upd M_seen x5.toNatClampNeg (vp_nar .boolean 1)) (upd M_walk x3.toNatClampNeg x5) x2 (x3 + 1) x4 x5))) else (m_X9_leads_109 M_nodes M_isTighter k37 (m_X9_leads_55 M_nodes M_isTighter k37 n) M_seen M_walk x2 x3 x4 x5)))))) = some res := hm
    refine lv_iload hx hb dX9_leads_55 (lv_at hl 4 rfl) ?_
    refine lv_aload_n hx hb dX9_leads_57 rfl (lv_at hl 0 rfl) ?_
    refine va_get (D := (dC, dI)) (ci := 9) (v := .int M_nodes) (C := RX9) (T := TX9) (N := 53) hx hb hts X9_leads_inX9 hown hK hP 0 rfl rfl 0 (by decide) (hts (.fieldLink RX9 141 "MixfixDeskModel" "nodes" "I") (List.mem_of_getElem? (i := 3) rfl)) (fun _ h9 => h9) rfl dX9_leads_58 ?_
    refine lv_icmp_ge (tgt := 115) hx hb dX9_leads_61 (by decide) (fun c_1 => ?_) (fun c_1 => ?_)
    · have hm := it_some c_1 hm
      refine lv_goto (tgt := 37) hx hb dX9_leads_115 (by decide) ?_
      exact hk37 M_seen M_walk x2 x3 hm H locs hP hD hS ls (lv_sub hl [0, 1, 2] rfl)
    · have hm := if_some' c_1 hm
      refine lv_aload_n hx hb dX9_leads_64 rfl (lv_at hl 0 rfl) ?_
      refine va_get (D := (dC, dI)) (ci := 9) (v := .ref (aM 2)) (C := RX9) (T := TX9) (N := 53) hx hb hts X9_leads_inX9 hown hK hP 0 rfl rfl 1 (by decide) (hts (.fieldLink RX9 7 "MixfixDeskModel" "isTighter" "[Z") (List.mem_of_getElem? (i := 4) rfl)) (fun _ h9 => h9) rfl dX9_leads_65 ?_
      refine lv_bipush (v := 16) hx hb dX9_leads_68 (by decide) ?_
      refine lv_iload hx hb dX9_leads_70 (lv_at hl 3 rfl) ?_
      refine lv_imul hx hb dX9_leads_72 ?_
      refine lv_iload hx hb dX9_leads_73 (lv_at hl 4 rfl) ?_
      refine lv_iadd hx hb dX9_leads_75 ?_
      obtain ⟨hi_2, hm⟩ := gd_some hm
      refine va_zald (D := (dC, dI)) hx hb hK hP 1 3 rfl rfl hi_2 dX9_leads_76 ?_
      refine lv_if_eq (tgt := 109) hx hb dX9_leads_77 (by decide) (fun c_3 => ?_) (fun c_3 => ?_)
      · have hm := it_some c_3 hm
        exact k_X9_leads_109 C0 hK hN hA aM M_nodes M_operators M_textSize M_wordCount M_isParsed M_isTaken M_items M_piled M_outSize M_told M_standing M_isTighter res RET k37 (m_X9_leads_55 M_nodes M_isTighter k37 n) hk37 ih M_seen M_walk x2 x3 x4 x5 hm H locs hP hD hS ls hl
      · have hm := if_some' c_3 hm
        refine lv_aload_n hx hb dX9_leads_80 rfl (lv_at hl 0 rfl) ?_
        refine va_get (D := (dC, dI)) (ci := 9) (v := .ref (aM 34)) (C := RX9) (T := TX9) (N := 53) hx hb hts X9_leads_inX9 hown hK hP 0 rfl rfl 33 (by decide) (hts (.fieldLink RX9 87 "MixfixDeskModel" "seen" "[Z") (List.mem_of_getElem? (i := 1) rfl)) (fun _ h9 => h9) rfl dX9_leads_81 ?_
        refine lv_iload hx hb dX9_leads_84 (lv_at hl 4 rfl) ?_
        obtain ⟨hi_4, hm⟩ := gd_some hm
        refine va_zald (D := (dC, dI)) hx hb hK hP 2 3 rfl rfl hi_4 dX9_leads_86 ?_
        refine lv_if_ne (tgt := 109) hx hb dX9_leads_87 (by decide) (fun c_5 => ?_) (fun c_5 => ?_)
        · have hm := if_some' c_5 hm
          exact k_X9_leads_109 C0 hK hN hA aM M_nodes M_operators M_textSize M_wordCount M_isParsed M_isTaken M_items M_piled M_outSize M_told M_standing M_isTighter res RET k37 (m_X9_leads_55 M_nodes M_isTighter k37 n) hk37 ih M_seen M_walk x2 x3 x4 x5 hm H locs hP hD hS ls hl
        · have hm := it_some c_5 hm
          refine lv_aload_n hx hb dX9_leads_90 rfl (lv_at hl 0 rfl) ?_
          refine va_get (D := (dC, dI)) (ci := 9) (v := .ref (aM 34)) (C := RX9) (T := TX9) (N := 53) hx hb hts X9_leads_inX9 hown hK hP 0 rfl rfl 33 (by decide) (hts (.fieldLink RX9 87 "MixfixDeskModel" "seen" "[Z") (List.mem_of_getElem? (i := 1) rfl)) (fun _ h9 => h9) rfl dX9_leads_91 ?_
          refine lv_iload hx hb dX9_leads_94 (lv_at hl 4 rfl) ?_
          refine lv_iconst (v := 1) hx hb dX9_leads_96 (by decide) ?_
          obtain ⟨hi_6, hm⟩ := gd_some hm
          refine va_zast (D := (dC, dI)) hx hb hK hP hD hS 2 3 rfl rfl hi_6 dX9_leads_97 (fun H locs hP hD hS => ?_)
          have hP : va_P (dC, dI) vwCl [((aM 0), .inr (9, oX9 aM M_nodes M_operators M_textSize M_wordCount M_isParsed M_isTaken M_items M_piled M_outSize M_told M_standing)), ((aM 2), .inl (cZ, 256, .inl M_isTighter)), ((aM 34), .inl (cZ, 16, .inl (upd M_seen x5.toNatClampNeg (vp_nar .boolean 1)))), ((aM 35), .inl (cI, 16, .inl M_walk))] H := hP
          have hD : va_D A [((aM 0), .inr (9, oX9 aM M_nodes M_operators M_textSize M_wordCount M_isParsed M_isTaken M_items M_piled M_outSize M_told M_standing)), ((aM 2), .inl (cZ, 256, .inl M_isTighter)), ((aM 34), .inl (cZ, 16, .inl (upd M_seen x5.toNatClampNeg (vp_nar .boolean 1)))), ((aM 35), .inl (cI, 16, .inl M_walk))] := hD
          refine lv_aload_n hx hb dX9_leads_98 rfl (lv_at hl 0 rfl) ?_
          refine va_get (D := (dC, dI)) (ci := 9) (v := .ref (aM 35)) (C := RX9) (T := TX9) (N := 53) hx hb hts X9_leads_inX9 hown hK hP 0 rfl rfl 34 (by decide) (hts (.fieldLink RX9 90 "MixfixDeskModel" "walk" "[I") (List.mem_of_getElem? (i := 2) rfl)) (fun _ h9 => h9) rfl dX9_leads_99 ?_
          refine lv_iload_n hx hb dX9_leads_102 rfl (lv_at hl 2 rfl) ?_
          refine lv_iload hx hb dX9_leads_103 (lv_at hl 4 rfl) ?_
          obtain ⟨hi_7, hm⟩ := gd_some hm
          refine va_iast (D := (dC, dI)) hx hb hK hP hD hS 3 0 rfl rfl hi_7 dX9_leads_105 (fun H locs hP hD hS => ?_)
          have hP : va_P (dC, dI) vwCl [((aM 0), .inr (9, oX9 aM M_nodes M_operators M_textSize M_wordCount M_isParsed M_isTaken M_items M_piled M_outSize M_told M_standing)), ((aM 2), .inl (cZ, 256, .inl M_isTighter)), ((aM 34), .inl (cZ, 16, .inl (upd M_seen x5.toNatClampNeg (vp_nar .boolean 1)))), ((aM 35), .inl (cI, 16, .inl (upd M_walk x3.toNatClampNeg x5)))] H := hP
          have hD : va_D A [((aM 0), .inr (9, oX9 aM M_nodes M_operators M_textSize M_wordCount M_isParsed M_isTaken M_items M_piled M_outSize M_told M_standing)), ((aM 2), .inl (cZ, 256, .inl M_isTighter)), ((aM 34), .inl (cZ, 16, .inl (upd M_seen x5.toNatClampNeg (vp_nar .boolean 1)))), ((aM 35), .inl (cI, 16, .inl (upd M_walk x3.toNatClampNeg x5)))] := hD
          refine lv_iinc (v := x3 + 1) (lv' := [(3, .int (x3 + 1)), (0, .ref (aM 0)), (2, .int x2), (4, .int x4), (5, .int x5)]) hx hb dX9_leads_106 hl (k := 2) rfl rfl (by decide) rfl (fun ls hl => ?_)
          exact k_X9_leads_109 C0 hK hN hA aM M_nodes M_operators M_textSize M_wordCount M_isParsed M_isTaken M_items M_piled M_outSize M_told M_standing M_isTighter res RET k37 (m_X9_leads_55 M_nodes M_isTighter k37 n) hk37 ih (upd M_seen x5.toNatClampNeg (vp_nar .boolean 1)) (upd M_walk x3.toNatClampNeg x5) x2 (x3 + 1) x4 x5 hm H locs hP hD hS ls (lv_sub hl [1, 2, 0, 3, 4] rfl)
set_option maxHeartbeats 4000000 in
set_option maxRecDepth 100000 in
theorem k_X9_leads_37 {p : Program} {l : Launch} {e : Env} {s : State} {m : MethodId} {args : Array Value} {below : List Frame} {meth : Method} {c : Code} {Q : State → Prop} {dC : Nat → ClassId} {dI : Nat → Nat → Nat} {cI cJ cB cZ : ClassId} {A : Nat → Prop} (C0 : Cx p s m meth c args cX9_leads 6 (some .boolean) wsX9_leads RX9) (hK : va_K (dC, dI) vwCl [(cI, .int), (cJ, .long), (cB, .byte), (cZ, .boolean)] s) (hN : NW s) (hA : ∀ q, s.heap.size ≤ q → A q) (aM : Nat → Nat) (M_nodes : Int32) (M_operators : Int32) (M_textSize : Int32) (M_wordCount : Int32) (M_isParsed : Int32) (M_isTaken : Int32) (M_items : Int32) (M_piled : Int32) (M_outSize : Int32) (M_told : Int32) (M_standing : Int32) (M_isTighter : Nat → Int32) (res : Int32 × (Nat → Int32) × (Nat → Int32)) (RET : RT_X9_leads p l e s m args below meth c Q dC dI cI cJ cB cZ A aM M_nodes M_operators M_textSize M_wordCount M_isParsed M_isTaken M_items M_piled M_outSize M_told M_standing M_isTighter res)   : ∀ (n : Nat) (M_seen : Nat → Int32) (M_walk : Nat → Int32) (x2 : Int32) (x3 : Int32), m_X9_leads_37 M_nodes M_isTighter n M_seen M_walk x2 x3 = some res → ∀ (H : Heap) (locs : List Loc), va_P (dC, dI) vwCl [((aM 0), .inr (9, oX9 aM M_nodes M_operators M_textSize M_wordCount M_isParsed M_isTaken M_items M_piled M_outSize M_told M_standing)), ((aM 2), .inl (cZ, 256, .inl M_isTighter)), ((aM 34), .inl (cZ, 16, .inl M_seen)), ((aM 35), .inl (cI, 16, .inl M_walk))] H → va_D A [((aM 0), .inr (9, oX9 aM M_nodes M_operators M_textSize M_wordCount M_isParsed M_isTaken M_items M_piled M_outSize M_told M_standing)), ((aM 2), .inl (cZ, 256, .inl M_isTighter)), ((aM 34), .inl (cZ, 16, .inl M_seen)), ((aM 35), .inl (cI, 16, .inl M_walk))] → va_S A s.heap H locs → ∀ (ls : Array Slot), lv_has ls 6 [(0, .ref (aM 0)), (2, .int x2), (3, .int x3)] → W p l e rm_X9_leads s m args below meth c H locs 0 0 Q (F0 m 37 ls []) := by
  obtain ⟨⟨hx, hb, hml, hown, hts⟩, hr, hlocks⟩ := id C0
  intro n
  induction n with
  | zero =>
    intro M_seen M_walk x2 x3 hm
    exact absurd hm (by intro h; cases h)
  | succ n ih =>
    intro M_seen M_walk x2 x3 hm H locs hP hD hS ls hl
    have hm : (if x3 ≤ 0 then (gd x2 16 (gb (M_seen x2.toNatClampNeg) (some (M_seen x2.toNatClampNeg, M_seen, M_walk)))) else (gd (x3 + (-1)) 16 (m_X9_leads_55 M_nodes M_isTighter (m_X9_leads_37 M_nodes M_isTighter n) FU M_seen M_walk x2 (x3 + (-1)) (M_walk (x3 + (-1)).toNatClampNeg) 0))) = some res := hm
    refine lv_iload_n hx hb dX9_leads_37 rfl (lv_at hl 2 rfl) ?_
    refine lv_if_le (tgt := 118) hx hb dX9_leads_38 (by decide) (fun c_8 => ?_) (fun c_8 => ?_)
    · have hm := it_some c_8 hm
      refine lv_aload_n hx hb dX9_leads_118 rfl (lv_at hl 0 rfl) ?_
      refine va_get (D := (dC, dI)) (ci := 9) (v := .ref (aM 34)) (C := RX9) (T := TX9) (N := 53) hx hb hts X9_leads_inX9 hown hK hP 0 rfl rfl 33 (by decide) (hts (.fieldLink RX9 87 "MixfixDeskModel" "seen" "[Z") (List.mem_of_getElem? (i := 1) rfl)) (fun _ h9 => h9) rfl dX9_leads_119 ?_
      refine lv_iload_n hx hb dX9_leads_122 rfl (lv_at hl 1 rfl) ?_
      obtain ⟨hi_9, hm⟩ := gd_some hm
      refine va_zald (D := (dC, dI)) hx hb hK hP 2 3 rfl rfl hi_9 dX9_leads_123 ?_
      obtain ⟨hg_10, hm⟩ := gb_some hm
      exact RET (M_seen x2.toNatClampNeg) M_seen M_walk hm hg_10 _ H locs ls dX9_leads_124 hP hD hS
    · have hm := if_some' c_8 hm
      refine lv_iinc (v := x3 + (-1)) (lv' := [(3, .int (x3 + (-1))), (0, .ref (aM 0)), (2, .int x2)]) hx hb dX9_leads_41 hl (k := 2) rfl rfl (by decide) rfl (fun ls hl => ?_)
      refine lv_aload_n hx hb dX9_leads_44 rfl (lv_at hl 1 rfl) ?_
      refine va_get (D := (dC, dI)) (ci := 9) (v := .ref (aM 35)) (C := RX9) (T := TX9) (N := 53) hx hb hts X9_leads_inX9 hown hK hP 0 rfl rfl 34 (by decide) (hts (.fieldLink RX9 90 "MixfixDeskModel" "walk" "[I") (List.mem_of_getElem? (i := 2) rfl)) (fun _ h9 => h9) rfl dX9_leads_45 ?_
      refine lv_iload_n hx hb dX9_leads_48 rfl (lv_at hl 0 rfl) ?_
      obtain ⟨hi_11, hm⟩ := gd_some hm
      refine va_iald (D := (dC, dI)) hx hb hK hP 3 0 rfl rfl hi_11 dX9_leads_49 ?_
      refine lv_istore (lv' := [(4, .int (M_walk (x3 + (-1)).toNatClampNeg)), (3, .int (x3 + (-1))), (0, .ref (aM 0)), (2, .int x2)]) hx hb dX9_leads_50 hl (by decide) rfl (fun ls hl => ?_)
      refine lv_iconst (v := 0) hx hb dX9_leads_52 (by decide) ?_
      refine lv_istore (lv' := [(5, .int 0), (4, .int (M_walk (x3 + (-1)).toNatClampNeg)), (3, .int (x3 + (-1))), (0, .ref (aM 0)), (2, .int x2)]) hx hb dX9_leads_53 hl (by decide) rfl (fun ls hl => ?_)
      exact k_X9_leads_55 C0 hK hN hA aM M_nodes M_operators M_textSize M_wordCount M_isParsed M_isTaken M_items M_piled M_outSize M_told M_standing M_isTighter res RET (m_X9_leads_37 M_nodes M_isTighter n) ih FU M_seen M_walk x2 (x3 + (-1)) (M_walk (x3 + (-1)).toNatClampNeg) 0 hm H locs hP hD hS ls (lv_sub hl [3, 4, 2, 1, 0] rfl)
set_option maxHeartbeats 4000000 in
set_option maxRecDepth 100000 in
theorem k_X9_leads_2 {p : Program} {l : Launch} {e : Env} {s : State} {m : MethodId} {args : Array Value} {below : List Frame} {meth : Method} {c : Code} {Q : State → Prop} {dC : Nat → ClassId} {dI : Nat → Nat → Nat} {cI cJ cB cZ : ClassId} {A : Nat → Prop} (C0 : Cx p s m meth c args cX9_leads 6 (some .boolean) wsX9_leads RX9) (hK : va_K (dC, dI) vwCl [(cI, .int), (cJ, .long), (cB, .byte), (cZ, .boolean)] s) (hN : NW s) (hA : ∀ q, s.heap.size ≤ q → A q) (aM : Nat → Nat) (M_nodes : Int32) (M_operators : Int32) (M_textSize : Int32) (M_wordCount : Int32) (M_isParsed : Int32) (M_isTaken : Int32) (M_items : Int32) (M_piled : Int32) (M_outSize : Int32) (M_told : Int32) (M_standing : Int32) (M_isTighter : Nat → Int32) (res : Int32 × (Nat → Int32) × (Nat → Int32)) (RET : RT_X9_leads p l e s m args below meth c Q dC dI cI cJ cB cZ A aM M_nodes M_operators M_textSize M_wordCount M_isParsed M_isTaken M_items M_piled M_outSize M_told M_standing M_isTighter res)   : ∀ (n : Nat) (M_seen : Nat → Int32) (M_walk : Nat → Int32) (x1 : Int32) (x2 : Int32) (x3 : Int32), m_X9_leads_2 M_nodes M_isTighter n M_seen M_walk x1 x2 x3 = some res → ∀ (H : Heap) (locs : List Loc), va_P (dC, dI) vwCl [((aM 0), .inr (9, oX9 aM M_nodes M_operators M_textSize M_wordCount M_isParsed M_isTaken M_items M_piled M_outSize M_told M_standing)), ((aM 2), .inl (cZ, 256, .inl M_isTighter)), ((aM 34), .inl (cZ, 16, .inl M_seen)), ((aM 35), .inl (cI, 16, .inl M_walk))] H → va_D A [((aM 0), .inr (9, oX9 aM M_nodes M_operators M_textSize M_wordCount M_isParsed M_isTaken M_items M_piled M_outSize M_told M_standing)), ((aM 2), .inl (cZ, 256, .inl M_isTighter)), ((aM 34), .inl (cZ, 16, .inl M_seen)), ((aM 35), .inl (cI, 16, .inl M_walk))] → va_S A s.heap H locs → ∀ (ls : Array Slot), lv_has ls 6 [(0, .ref (aM 0)), (1, .int x1), (2, .int x2), (3, .int x3)] → W p l e rm_X9_leads s m args below meth c H locs 0 0 Q (F0 m 2 ls []) := by
  obtain ⟨⟨hx, hb, hml, hown, hts⟩, hr, hlocks⟩ := id C0
  intro n
  induction n with
  | zero =>
    intro M_seen M_walk x1 x2 x3 hm
    exact absurd hm (by intro h; cases h)
  | succ n ih =>
    intro M_seen M_walk x1 x2 x3 hm H locs hP hD hS ls hl
    have hm : (if 16 ≤ x3 then (gd 0 16 (gd x1 16 (m_X9_leads_37 M_nodes M_isTighter FU (upd M_seen x1.toNatClampNeg (vp_nar .boolean 1)) (upd M_walk (0 : Int32).toNatClampNeg x1) x2 1))) else (gd x3 16 (m_X9_leads_2 M_nodes M_isTighter n (upd M_seen x3.toNatClampNeg (vp_nar .boolean 0)) M_walk x1 x2 (x3 + 1)))) = some res := hm
    refine lv_iload_n hx hb dX9_leads_2 rfl (lv_at hl 3 rfl) ?_
    refine lv_bipush (v := 16) hx hb dX9_leads_3 (by decide) ?_
    refine lv_icmp_ge (tgt := 21) hx hb dX9_leads_5 (by decide) (fun c_12 => ?_) (fun c_12 => ?_)
    · have hm := it_some c_12 hm
      refine lv_iconst (v := 1) hx hb dX9_leads_21 (by decide) ?_
      refine lv_istore_n (lv' := [(3, .int 1), (0, .ref (aM 0)), (1, .int x1), (2, .int x2)]) hx hb dX9_leads_22 rfl hl (by decide) rfl (fun ls hl => ?_)
      refine lv_aload_n hx hb dX9_leads_23 rfl (lv_at hl 1 rfl) ?_
      refine va_get (D := (dC, dI)) (ci := 9) (v := .ref (aM 35)) (C := RX9) (T := TX9) (N := 53) hx hb hts X9_leads_inX9 hown hK hP 0 rfl rfl 34 (by decide) (hts (.fieldLink RX9 90 "MixfixDeskModel" "walk" "[I") (List.mem_of_getElem? (i := 2) rfl)) (fun _ h9 => h9) rfl dX9_leads_24 ?_
      refine lv_iconst (v := 0) hx hb dX9_leads_27 (by decide) ?_
      refine lv_iload_n hx hb dX9_leads_28 rfl (lv_at hl 2 rfl) ?_
      obtain ⟨hi_13, hm⟩ := gd_some hm
      refine va_iast (D := (dC, dI)) hx hb hK hP hD hS 3 0 rfl rfl hi_13 dX9_leads_29 (fun H locs hP hD hS => ?_)
      have hP : va_P (dC, dI) vwCl [((aM 0), .inr (9, oX9 aM M_nodes M_operators M_textSize M_wordCount M_isParsed M_isTaken M_items M_piled M_outSize M_told M_standing)), ((aM 2), .inl (cZ, 256, .inl M_isTighter)), ((aM 34), .inl (cZ, 16, .inl M_seen)), ((aM 35), .inl (cI, 16, .inl (upd M_walk (0 : Int32).toNatClampNeg x1)))] H := hP
      have hD : va_D A [((aM 0), .inr (9, oX9 aM M_nodes M_operators M_textSize M_wordCount M_isParsed M_isTaken M_items M_piled M_outSize M_told M_standing)), ((aM 2), .inl (cZ, 256, .inl M_isTighter)), ((aM 34), .inl (cZ, 16, .inl M_seen)), ((aM 35), .inl (cI, 16, .inl (upd M_walk (0 : Int32).toNatClampNeg x1)))] := hD
      refine lv_aload_n hx hb dX9_leads_30 rfl (lv_at hl 1 rfl) ?_
      refine va_get (D := (dC, dI)) (ci := 9) (v := .ref (aM 34)) (C := RX9) (T := TX9) (N := 53) hx hb hts X9_leads_inX9 hown hK hP 0 rfl rfl 33 (by decide) (hts (.fieldLink RX9 87 "MixfixDeskModel" "seen" "[Z") (List.mem_of_getElem? (i := 1) rfl)) (fun _ h9 => h9) rfl dX9_leads_31 ?_
      refine lv_iload_n hx hb dX9_leads_34 rfl (lv_at hl 2 rfl) ?_
      refine lv_iconst (v := 1) hx hb dX9_leads_35 (by decide) ?_
      obtain ⟨hi_14, hm⟩ := gd_some hm
      refine va_zast (D := (dC, dI)) hx hb hK hP hD hS 2 3 rfl rfl hi_14 dX9_leads_36 (fun H locs hP hD hS => ?_)
      have hP : va_P (dC, dI) vwCl [((aM 0), .inr (9, oX9 aM M_nodes M_operators M_textSize M_wordCount M_isParsed M_isTaken M_items M_piled M_outSize M_told M_standing)), ((aM 2), .inl (cZ, 256, .inl M_isTighter)), ((aM 34), .inl (cZ, 16, .inl (upd M_seen x1.toNatClampNeg (vp_nar .boolean 1)))), ((aM 35), .inl (cI, 16, .inl (upd M_walk (0 : Int32).toNatClampNeg x1)))] H := hP
      have hD : va_D A [((aM 0), .inr (9, oX9 aM M_nodes M_operators M_textSize M_wordCount M_isParsed M_isTaken M_items M_piled M_outSize M_told M_standing)), ((aM 2), .inl (cZ, 256, .inl M_isTighter)), ((aM 34), .inl (cZ, 16, .inl (upd M_seen x1.toNatClampNeg (vp_nar .boolean 1)))), ((aM 35), .inl (cI, 16, .inl (upd M_walk (0 : Int32).toNatClampNeg x1)))] := hD
      exact k_X9_leads_37 C0 hK hN hA aM M_nodes M_operators M_textSize M_wordCount M_isParsed M_isTaken M_items M_piled M_outSize M_told M_standing M_isTighter res RET FU (upd M_seen x1.toNatClampNeg (vp_nar .boolean 1)) (upd M_walk (0 : Int32).toNatClampNeg x1) x2 1 hm H locs hP hD hS ls (lv_sub hl [1, 3, 0] rfl)
    · have hm := if_some' c_12 hm
      refine lv_aload_n hx hb dX9_leads_8 rfl (lv_at hl 0 rfl) ?_
      refine va_get (D := (dC, dI)) (ci := 9) (v := .ref (aM 34)) (C := RX9) (T := TX9) (N := 53) hx hb hts X9_leads_inX9 hown hK hP 0 rfl rfl 33 (by decide) (hts (.fieldLink RX9 87 "MixfixDeskModel" "seen" "[Z") (List.mem_of_getElem? (i := 1) rfl)) (fun _ h9 => h9) rfl dX9_leads_9 ?_
      refine lv_iload_n hx hb dX9_leads_12 rfl (lv_at hl 3 rfl) ?_
      refine lv_iconst (v := 0) hx hb dX9_leads_13 (by decide) ?_
      obtain ⟨hi_15, hm⟩ := gd_some hm
      refine va_zast (D := (dC, dI)) hx hb hK hP hD hS 2 3 rfl rfl hi_15 dX9_leads_14 (fun H locs hP hD hS => ?_)
      have hP : va_P (dC, dI) vwCl [((aM 0), .inr (9, oX9 aM M_nodes M_operators M_textSize M_wordCount M_isParsed M_isTaken M_items M_piled M_outSize M_told M_standing)), ((aM 2), .inl (cZ, 256, .inl M_isTighter)), ((aM 34), .inl (cZ, 16, .inl (upd M_seen x3.toNatClampNeg (vp_nar .boolean 0)))), ((aM 35), .inl (cI, 16, .inl M_walk))] H := hP
      have hD : va_D A [((aM 0), .inr (9, oX9 aM M_nodes M_operators M_textSize M_wordCount M_isParsed M_isTaken M_items M_piled M_outSize M_told M_standing)), ((aM 2), .inl (cZ, 256, .inl M_isTighter)), ((aM 34), .inl (cZ, 16, .inl (upd M_seen x3.toNatClampNeg (vp_nar .boolean 0)))), ((aM 35), .inl (cI, 16, .inl M_walk))] := hD
      refine lv_iinc (v := x3 + 1) (lv' := [(3, .int (x3 + 1)), (0, .ref (aM 0)), (1, .int x1), (2, .int x2)]) hx hb dX9_leads_15 hl (k := 3) rfl rfl (by decide) rfl (fun ls hl => ?_)
      refine lv_goto (tgt := 2) hx hb dX9_leads_18 (by decide) ?_
      exact ih (upd M_seen x3.toNatClampNeg (vp_nar .boolean 0)) M_walk x1 x2 (x3 + 1) hm H locs hP hD hS ls (lv_sub hl [1, 2, 3, 0] rfl)
set_option maxHeartbeats 4000000 in
set_option maxRecDepth 100000 in
theorem k_X9_leads_E {p : Program} {l : Launch} {e : Env} {s : State} {m : MethodId} {args : Array Value} {below : List Frame} {meth : Method} {c : Code} {Q : State → Prop} {dC : Nat → ClassId} {dI : Nat → Nat → Nat} {cI cJ cB cZ : ClassId} {A : Nat → Prop} (C0 : Cx p s m meth c args cX9_leads 6 (some .boolean) wsX9_leads RX9) (hK : va_K (dC, dI) vwCl [(cI, .int), (cJ, .long), (cB, .byte), (cZ, .boolean)] s) (hN : NW s) (hA : ∀ q, s.heap.size ≤ q → A q) (aM : Nat → Nat) (M_nodes : Int32) (M_operators : Int32) (M_textSize : Int32) (M_wordCount : Int32) (M_isParsed : Int32) (M_isTaken : Int32) (M_items : Int32) (M_piled : Int32) (M_outSize : Int32) (M_told : Int32) (M_standing : Int32) (M_isTighter : Nat → Int32) (res : Int32 × (Nat → Int32) × (Nat → Int32)) (RET : RT_X9_leads p l e s m args below meth c Q dC dI cI cJ cB cZ A aM M_nodes M_operators M_textSize M_wordCount M_isParsed M_isTaken M_items M_piled M_outSize M_told M_standing M_isTighter res) : ∀ (M_seen : Nat → Int32) (M_walk : Nat → Int32) (p0 : Int32) (p1 : Int32), m_X9_leads M_nodes M_isTighter M_seen M_walk p0 p1 = some res → ∀ (H : Heap) (locs : List Loc), va_P (dC, dI) vwCl [((aM 0), .inr (9, oX9 aM M_nodes M_operators M_textSize M_wordCount M_isParsed M_isTaken M_items M_piled M_outSize M_told M_standing)), ((aM 2), .inl (cZ, 256, .inl M_isTighter)), ((aM 34), .inl (cZ, 16, .inl M_seen)), ((aM 35), .inl (cI, 16, .inl M_walk))] H → va_D A [((aM 0), .inr (9, oX9 aM M_nodes M_operators M_textSize M_wordCount M_isParsed M_isTaken M_items M_piled M_outSize M_told M_standing)), ((aM 2), .inl (cZ, 256, .inl M_isTighter)), ((aM 34), .inl (cZ, 16, .inl M_seen)), ((aM 35), .inl (cI, 16, .inl M_walk))] → va_S A s.heap H locs → ∀ (ls : Array Slot), lv_has ls 6 [(0, .ref (aM 0)), (1, .int p0), (2, .int p1)] → W p l e rm_X9_leads s m args below meth c H locs 0 0 Q (F0 m 0 ls []) := by
  obtain ⟨⟨hx, hb, hml, hown, hts⟩, hr, hlocks⟩ := id C0
  intro M_seen M_walk p0 p1 hm H locs hP hD hS ls hl
  have hm : (m_X9_leads_2 M_nodes M_isTighter FU M_seen M_walk p0 p1 0) = some res := hm
  refine lv_iconst (v := 0) hx hb dX9_leads_0 (by decide) ?_
  refine lv_istore_n (lv' := [(3, .int 0), (0, .ref (aM 0)), (1, .int p0), (2, .int p1)]) hx hb dX9_leads_1 rfl hl (by decide) rfl (fun ls hl => ?_)
  exact k_X9_leads_2 C0 hK hN hA aM M_nodes M_operators M_textSize M_wordCount M_isParsed M_isTaken M_items M_piled M_outSize M_told M_standing M_isTighter res RET FU M_seen M_walk p0 p1 0 hm H locs hP hD hS ls (lv_sub hl [1, 2, 3, 0] rfl)
set_option maxHeartbeats 4000000 in
set_option maxRecDepth 100000 in
theorem c_X9_leads (l : Launch) (dC : Nat → ClassId) (dI : Nat → Nat → Nat) (cI cJ cB cZ : ClassId) (aM : Nat → Nat) (sz : Nat) (M_nodes : Int32) (M_operators : Int32) (M_textSize : Int32) (M_wordCount : Int32) (M_isParsed : Int32) (M_isTaken : Int32) (M_items : Int32) (M_piled : Int32) (M_outSize : Int32) (M_told : Int32) (M_standing : Int32) (M_isTighter : Nat → Int32) (M_seen : Nat → Int32) (M_walk : Nat → Int32) (p0 : Int32) (p1 : Int32) (res : Int32 × (Nat → Int32) × (Nat → Int32)) (hm : m_X9_leads M_nodes M_isTighter M_seen M_walk p0 p1 = some res) : Met l yX9_leads wsX9_leads rm_X9_leads (cP (dC, dI) vwCl [(cI, .int), (cJ, .long), (cB, .byte), (cZ, .boolean)] [.ref (aM 0), .int p0, .int p1] [((aM 0), .inr (9, oX9 aM M_nodes M_operators M_textSize M_wordCount M_isParsed M_isTaken M_items M_piled M_outSize M_told M_standing)), ((aM 2), .inl (cZ, 256, .inl M_isTighter)), ((aM 34), .inl (cZ, 16, .inl M_seen)), ((aM 35), .inl (cI, 16, .inl M_walk))] sz) (cQi res.1 (dC, dI) vwCl [((aM 0), .inr (9, oX9 aM M_nodes M_operators M_textSize M_wordCount M_isParsed M_isTaken M_items M_piled M_outSize M_told M_standing)), ((aM 2), .inl (cZ, 256, .inl M_isTighter)), ((aM 34), .inl (cZ, 16, .inl res.2.1)), ((aM 35), .inl (cI, 16, .inl res.2.2))] [((aM 0), .inr (9, oX9 aM M_nodes M_operators M_textSize M_wordCount M_isParsed M_isTaken M_items M_piled M_outSize M_told M_standing)), ((aM 2), .inl (cZ, 256, .inl M_isTighter)), ((aM 34), .inl (cZ, 16, .inl M_seen)), ((aM 35), .inl (cI, 16, .inl M_walk))] sz) 0 0 (va_A [((aM 0), .inr (9, oX9 aM M_nodes M_operators M_textSize M_wordCount M_isParsed M_isTaken M_items M_piled M_outSize M_told M_standing)), ((aM 2), .inl (cZ, 256, .inl M_isTighter)), ((aM 34), .inl (cZ, 16, .inl M_seen)), ((aM 35), .inl (cI, 16, .inl M_walk))] sz) := by
  refine cx_of (cc := cX9_leads) (maxL := 6) (ret := (some .boolean)) (own := RX9) (by decide) rfl rfl (Nat.le_of_ble_eq_true rfl) ?_
  intro p e s m below meth c A C0 hinN hK hN hsz hAe hA hP hD hS ls hl
  refine k_X9_leads_E C0 hK hN hA aM M_nodes M_operators M_textSize M_wordCount M_isParsed M_isTaken M_items M_piled M_outSize M_told M_standing M_isTighter res ?_ M_seen M_walk p0 p1 hm _ _ hP hD hS ls hl
  intro v M_seen M_walk he hn pc H locs ls hdg hP hD hS
  have he := Option.some.inj he
  subst he
  exact cx_retz C0 hn hsz hAe hdg hP hD hS

set_option maxRecDepth 20000 in
theorem ggX9_arrow_X9_isNode : GoodIn wsX9_arrow wsX9_isNode := goodIn_r _ [6, 7, 20, 21, 22, 23, 24, 25, 26, 27, 28, 29, 30, 31, 32, 33, 34, 35, 36, 37, 38, 39, 40, 41, 42, 43, 44, 45, 46, 47, 48, 49, 50, 51, 52, 53, 54, 55, 56, 57, 58, 59, 60, 61, 62, 63, 64, 65, 66, 67, 68, 69, 70, 71, 72] (by decide +kernel) (by decide +kernel)
set_option maxRecDepth 20000 in
theorem gX9_arrow_X9_isNode : GoodIn wsX9_arrow (wsV RX9 222 RX9 yX9_isNode wsX9_isNode) := goodIn_app (goodIn_of _ (by decide +kernel)) ggX9_arrow_X9_isNode
set_option maxRecDepth 20000 in
theorem ggX9_arrow_X9_leads : GoodIn wsX9_arrow wsX9_leads := goodIn_r _ [11, 12, 13, 7, 1, 20, 21, 22, 23, 24, 25, 26, 27, 28, 29, 30, 31, 32, 33, 34, 35, 36, 37, 38, 39, 40, 41, 42, 43, 44, 45, 46, 47, 48, 49, 50, 51, 52, 53, 54, 55, 56, 57, 58, 59, 60, 61, 62, 63, 64, 65, 66, 67, 68, 69, 70, 71, 72] (by decide +kernel) (by decide +kernel)
set_option maxRecDepth 20000 in
theorem gX9_arrow_X9_leads : GoodIn wsX9_arrow (wsV RX9 225 RX9 yX9_leads wsX9_leads) := goodIn_app (goodIn_of _ (by decide +kernel)) ggX9_arrow_X9_leads
set_option maxRecDepth 20000 in
theorem ggX9_arrow_X9_gone : GoodIn wsX9_arrow wsX9_gone := goodIn_r _ [17, 18, 19, 20, 21, 22, 23, 24, 25, 26, 27, 28, 29, 30, 31, 32, 33, 34, 35, 36, 37, 38, 39, 40, 41, 42, 43, 44, 45, 46, 47, 48, 49, 50, 51, 52, 53, 54, 55, 56, 57, 58, 59, 60, 61, 62, 63, 64, 65, 66, 67, 68, 69, 70, 71, 72] (by decide +kernel) (by decide +kernel)
set_option maxRecDepth 20000 in
theorem gX9_arrow_X9_gone : GoodIn wsX9_arrow (wsV RX9 228 RX9 yX9_gone wsX9_gone) := goodIn_app (goodIn_of _ (by decide +kernel)) ggX9_arrow_X9_gone
theorem dX9_arrow_0 : decode cX9_arrow 0 = .ok (.aload_n 0, 1) := by decide +kernel
theorem dX9_arrow_1 : decode cX9_arrow 1 = .ok (.iload_n 1, 1) := by decide +kernel
theorem dX9_arrow_2 : decode cX9_arrow 2 = .ok (.invokevirtual 222, 3) := by decide +kernel
theorem dX9_arrow_5 : decode cX9_arrow 5 = .ok (.ifCond .eq 11, 3) := by decide +kernel
theorem dX9_arrow_8 : decode cX9_arrow 8 = .ok (.aload_n 0, 1) := by decide +kernel
theorem dX9_arrow_9 : decode cX9_arrow 9 = .ok (.iload_n 2, 1) := by decide +kernel
theorem dX9_arrow_10 : decode cX9_arrow 10 = .ok (.invokevirtual 222, 3) := by decide +kernel
theorem dX9_arrow_13 : decode cX9_arrow 13 = .ok (.ifCond .ne 5, 3) := by decide +kernel
theorem dX9_arrow_16 : decode cX9_arrow 16 = .ok (.iconst (-1), 1) := by decide +kernel
theorem dX9_arrow_17 : decode cX9_arrow 17 = .ok (.ireturn, 1) := by decide +kernel
theorem dX9_arrow_18 : decode cX9_arrow 18 = .ok (.aload_n 0, 1) := by decide +kernel
theorem dX9_arrow_19 : decode cX9_arrow 19 = .ok (.getfield 7, 3) := by decide +kernel
theorem dX9_arrow_22 : decode cX9_arrow 22 = .ok (.bipush 16, 2) := by decide +kernel
theorem dX9_arrow_24 : decode cX9_arrow 24 = .ok (.iload_n 1, 1) := by decide +kernel
theorem dX9_arrow_25 : decode cX9_arrow 25 = .ok (.imul, 1) := by decide +kernel
theorem dX9_arrow_26 : decode cX9_arrow 26 = .ok (.iload_n 2, 1) := by decide +kernel
theorem dX9_arrow_27 : decode cX9_arrow 27 = .ok (.iadd, 1) := by decide +kernel
theorem dX9_arrow_28 : decode cX9_arrow 28 = .ok (.baload, 1) := by decide +kernel
theorem dX9_arrow_29 : decode cX9_arrow 29 = .ok (.ifCond .eq 5, 3) := by decide +kernel
theorem dX9_arrow_32 : decode cX9_arrow 32 = .ok (.iconst 0, 1) := by decide +kernel
theorem dX9_arrow_33 : decode cX9_arrow 33 = .ok (.ireturn, 1) := by decide +kernel
theorem dX9_arrow_34 : decode cX9_arrow 34 = .ok (.aload_n 0, 1) := by decide +kernel
theorem dX9_arrow_35 : decode cX9_arrow 35 = .ok (.iload_n 2, 1) := by decide +kernel
theorem dX9_arrow_36 : decode cX9_arrow 36 = .ok (.iload_n 1, 1) := by decide +kernel
theorem dX9_arrow_37 : decode cX9_arrow 37 = .ok (.invokevirtual 225, 3) := by decide +kernel
theorem dX9_arrow_40 : decode cX9_arrow 40 = .ok (.ifCond .eq 6, 3) := by decide +kernel
theorem dX9_arrow_43 : decode cX9_arrow 43 = .ok (.bipush (-3), 2) := by decide +kernel
theorem dX9_arrow_45 : decode cX9_arrow 45 = .ok (.ireturn, 1) := by decide +kernel
theorem dX9_arrow_46 : decode cX9_arrow 46 = .ok (.aload_n 0, 1) := by decide +kernel
theorem dX9_arrow_47 : decode cX9_arrow 47 = .ok (.getfield 7, 3) := by decide +kernel
theorem dX9_arrow_50 : decode cX9_arrow 50 = .ok (.bipush 16, 2) := by decide +kernel
theorem dX9_arrow_52 : decode cX9_arrow 52 = .ok (.iload_n 1, 1) := by decide +kernel
theorem dX9_arrow_53 : decode cX9_arrow 53 = .ok (.imul, 1) := by decide +kernel
theorem dX9_arrow_54 : decode cX9_arrow 54 = .ok (.iload_n 2, 1) := by decide +kernel
theorem dX9_arrow_55 : decode cX9_arrow 55 = .ok (.iadd, 1) := by decide +kernel
theorem dX9_arrow_56 : decode cX9_arrow 56 = .ok (.iconst 1, 1) := by decide +kernel
theorem dX9_arrow_57 : decode cX9_arrow 57 = .ok (.bastore, 1) := by decide +kernel
theorem dX9_arrow_58 : decode cX9_arrow 58 = .ok (.aload_n 0, 1) := by decide +kernel
theorem dX9_arrow_59 : decode cX9_arrow 59 = .ok (.invokevirtual 228, 3) := by decide +kernel
theorem dX9_arrow_62 : decode cX9_arrow 62 = .ok (.iconst 1, 1) := by decide +kernel
theorem dX9_arrow_63 : decode cX9_arrow 63 = .ok (.ireturn, 1) := by decide +kernel
/-! MixfixDeskModel.arrow(II)I -/
abbrev rm_X9_arrow : Room := { frames := 1, cells := 0, slots := 0, locals := 25 }
theorem X9_arrow_inX9 : ∀ w ∈ wsX90, w ∈ wsX9_arrow := by exact fun w h => List.mem_cons_of_mem _ (List.mem_append_right _ h)
abbrev RT_X9_arrow (p : Program) (l : Launch) (e : Env) (s : State) (m : MethodId) (args : Array Value) (below : List Frame) (meth : Method) (c : Code) (Q : State → Prop) (dC : Nat → ClassId) (dI : Nat → Nat → Nat) (cI cJ cB cZ : ClassId) (A : Nat → Prop) (aM : Nat → Nat) (M_nodes : Int32) (M_operators : Int32) (M_textSize : Int32) (M_wordCount : Int32) (M_items : Int32) (M_piled : Int32) (M_outSize : Int32) (M_told : Int32) (M_standing : Int32) (res : Int32 × (Nat → Int32) × Int32 × Int32 × (Nat → Int32) × (Nat → Int32)) : Prop := ∀ (v : Int32) (M_isTighter : Nat → Int32) (M_isParsed : Int32) (M_isTaken : Int32) (M_seen : Nat → Int32) (M_walk : Nat → Int32), some (v, M_isTighter, M_isParsed, M_isTaken, M_seen, M_walk) = some res → ∀ (pc : Nat) (H : Heap) (locs : List Loc) (ls : Array Slot), decode cX9_arrow pc = .ok (.ireturn, 1) → va_P (dC, dI) vwCl [((aM 0), .inr (9, oX9 aM M_nodes M_operators M_textSize M_wordCount M_isParsed M_isTaken M_items M_piled M_outSize M_told M_standing)), ((aM 2), .inl (cZ, 256, .inl M_isTighter)), ((aM 34), .inl (cZ, 16, .inl M_seen)), ((aM 35), .inl (cI, 16, .inl M_walk))] H → va_D A [((aM 0), .inr (9, oX9 aM M_nodes M_operators M_textSize M_wordCount M_isParsed M_isTaken M_items M_piled M_outSize M_told M_standing)), ((aM 2), .inl (cZ, 256, .inl M_isTighter)), ((aM 34), .inl (cZ, 16, .inl M_seen)), ((aM 35), .inl (cI, 16, .inl M_walk))] → va_S A s.heap H locs → W p l e rm_X9_arrow s m args below meth c H locs 0 0 Q (F0 m pc ls [.int v])
set_option maxHeartbeats 4000000 in
set_option maxRecDepth 100000 in
theorem k_X9_arrow_E {p : Program} {l : Launch} {e : Env} {s : State} {m : MethodId} {args : Array Value} {below : List Frame} {meth : Method} {c : Code} {Q : State → Prop} {dC : Nat → ClassId} {dI : Nat → Nat → Nat} {cI cJ cB cZ : ClassId} {A : Nat → Prop} (C0 : Cx p s m meth c args cX9_arrow 3 (some .int) wsX9_arrow RX9) (hK : va_K (dC, dI) vwCl [(cI, .int), (cJ, .long), (cB, .byte), (cZ, .boolean)] s) (hN : NW s) (hA : ∀ q, s.heap.size ≤ q → A q) (aM : Nat → Nat) (M_nodes : Int32) (M_operators : Int32) (M_textSize : Int32) (M_wordCount : Int32) (M_items : Int32) (M_piled : Int32) (M_outSize : Int32) (M_told : Int32) (M_standing : Int32) (res : Int32 × (Nat → Int32) × Int32 × Int32 × (Nat → Int32) × (Nat → Int32)) (RET : RT_X9_arrow p l e s m args below meth c Q dC dI cI cJ cB cZ A aM M_nodes M_operators M_textSize M_wordCount M_items M_piled M_outSize M_told M_standing res) : ∀ (M_isTighter : Nat → Int32) (M_isParsed : Int32) (M_isTaken : Int32) (M_seen : Nat → Int32) (M_walk : Nat → Int32) (p0 : Int32) (p1 : Int32), m_X9_arrow M_nodes M_isTighter M_isParsed M_isTaken M_seen M_walk p0 p1 = some res → ∀ (H : Heap) (locs : List Loc), va_P (dC, dI) vwCl [((aM 0), .inr (9, oX9 aM M_nodes M_operators M_textSize M_wordCount M_isParsed M_isTaken M_items M_piled M_outSize M_told M_standing)), ((aM 2), .inl (cZ, 256, .inl M_isTighter)), ((aM 34), .inl (cZ, 16, .inl M_seen)), ((aM 35), .inl (cI, 16, .inl M_walk))] H → va_D A [((aM 0), .inr (9, oX9 aM M_nodes M_operators M_textSize M_wordCount M_isParsed M_isTaken M_items M_piled M_outSize M_told M_standing)), ((aM 2), .inl (cZ, 256, .inl M_isTighter)), ((aM 34), .inl (cZ, 16, .inl M_seen)), ((aM 35), .inl (cI, 16, .inl M_walk))] → va_S A s.heap H locs → ∀ (ls : Array Slot), lv_has ls 3 [(0, .ref (aM 0)), (1, .int p0), (2, .int p1)] → W p l e rm_X9_arrow s m args below meth c H locs 0 0 Q (F0 m 0 ls []) := by
  obtain ⟨⟨hx, hb, hml, hown, hts⟩, hr, hlocks⟩ := id C0
  intro M_isTighter M_isParsed M_isTaken M_seen M_walk p0 p1 hm H locs hP hD hS ls hl
  have hm : (Option.bind (m_X9_isNode M_nodes p0) (fun r_1 => if r_1 = 0 then (some ((-1), M_isTighter, M_isParsed, M_isTaken, M_seen, M_walk)) else (Option.bind (m_X9_isNode M_nodes p1) (fun r_4 => if r_4 = 0 then (some ((-1), M_isTighter, M_isParsed, M_isTaken, M_seen, M_walk)) else (gd ((16 * p0) + p1) 256 (if (M_isTighter ((16 * p0) + p1).toNatClampNeg) = 0 then (Option.bind (m_X9_leads M_nodes M_isTighter M_seen M_walk p1 p0) (fun r_9 => if r_9.1 = 0 then (gd ((16 * p0) + p1) 256 (Option.bind (m_X9_gone M_isParsed M_isTaken) (fun r_13 => some (1, upd M_isTighter ((16 * p0) + p1).toNatClampNeg (vp_nar .boolean 1), r_13.1, r_13.2, r_9.2.1, r_9.2.2)))) else (some ((-3), M_isTighter, M_isParsed, M_isTaken, r_9.2.1, r_9.2.2)))) else (some (0, M_isTighter, M_isParsed, M_isTaken, M_seen, M_walk)))))))) = some res := hm
  refine lv_aload_n hx hb dX9_arrow_0 rfl (lv_at hl 0 rfl) ?_
  refine lv_iload_n hx hb dX9_arrow_1 rfl (lv_at hl 1 rfl) ?_
  obtain ⟨r_1, hc_2, hm⟩ := ob_some hm
  refine cx_i (wr := [((aM 2), .inl (cZ, 256, .inl M_isTighter)), ((aM 34), .inl (cZ, 16, .inl M_seen)), ((aM 35), .inl (cI, 16, .inl M_walk))]) (va_runV (As := [.int p0]) (rest := []) C0.1 (c_X9_isNode l dC dI cI cJ cB cZ aM H.size M_nodes M_operators M_textSize M_wordCount M_isParsed M_isTaken M_items M_piled M_outSize M_told M_standing p0 r_1 hc_2) (cwV 1 hts gX9_arrow_X9_isNode rfl rfl rfl (by decide +kernel) ⟨Nat.le_of_ble_eq_true rfl, Nat.le_of_ble_eq_true rfl⟩) (cP_V (ci := 9) (q0 := 0) hK hN hP hD rfl rfl [0] (by decide) rfl) rfl rfl hl.1 rfl (lv_room (Nat.le_of_ble_eq_true rfl)) dX9_arrow_2 ⟨Nat.le_of_ble_eq_true rfl, Nat.le_of_ble_eq_true rfl⟩) hP hD hS hA [0] [1, 2, 3] rfl rfl (by decide) (by decide) (fun H locs hP hD hS => ?_)
  have hP : va_P (dC, dI) vwCl [((aM 2), .inl (cZ, 256, .inl M_isTighter)), ((aM 34), .inl (cZ, 16, .inl M_seen)), ((aM 35), .inl (cI, 16, .inl M_walk)), ((aM 0), .inr (9, oX9 aM M_nodes M_operators M_textSize M_wordCount M_isParsed M_isTaken M_items M_piled M_outSize M_told M_standing))] H := hP
  have hD : va_D A [((aM 2), .inl (cZ, 256, .inl M_isTighter)), ((aM 34), .inl (cZ, 16, .inl M_seen)), ((aM 35), .inl (cI, 16, .inl M_walk)), ((aM 0), .inr (9, oX9 aM M_nodes M_operators M_textSize M_wordCount M_isParsed M_isTaken M_items M_piled M_outSize M_told M_standing))] := hD
  refine lv_if_eq (tgt := 16) hx hb dX9_arrow_5 (by decide) (fun c_3 => ?_) (fun c_3 => ?_)
  · have hm := it_some c_3 hm
    refine lv_iconst (v := (-1)) hx hb dX9_arrow_16 (by decide) ?_
    exact RET (-1) M_isTighter M_isParsed M_isTaken M_seen M_walk hm _ H locs ls dX9_arrow_17 (P_sub' hP [3, 0, 1, 2] rfl) (hD.sub [3, 0, 1, 2] (by decide) rfl) hS
  · have hm := if_some' c_3 hm
    refine lv_aload_n hx hb dX9_arrow_8 rfl (lv_at hl 0 rfl) ?_
    refine lv_iload_n hx hb dX9_arrow_9 rfl (lv_at hl 2 rfl) ?_
    obtain ⟨r_4, hc_5, hm⟩ := ob_some hm
    refine cx_i (wr := [((aM 2), .inl (cZ, 256, .inl M_isTighter)), ((aM 34), .inl (cZ, 16, .inl M_seen)), ((aM 35), .inl (cI, 16, .inl M_walk))]) (va_runV (As := [.int p1]) (rest := []) C0.1 (c_X9_isNode l dC dI cI cJ cB cZ aM H.size M_nodes M_operators M_textSize M_wordCount M_isParsed M_isTaken M_items M_piled M_outSize M_told M_standing p1 r_4 hc_5) (cwV 1 hts gX9_arrow_X9_isNode rfl rfl rfl (by decide +kernel) ⟨Nat.le_of_ble_eq_true rfl, Nat.le_of_ble_eq_true rfl⟩) (cP_V (ci := 9) (q0 := 3) hK hN hP hD rfl rfl [3] (by decide) rfl) rfl rfl hl.1 rfl (lv_room (Nat.le_of_ble_eq_true rfl)) dX9_arrow_10 ⟨Nat.le_of_ble_eq_true rfl, Nat.le_of_ble_eq_true rfl⟩) hP hD hS hA [3] [0, 1, 2] rfl rfl (by decide) (by decide) (fun H locs hP hD hS => ?_)
    have hP : va_P (dC, dI) vwCl [((aM 2), .inl (cZ, 256, .inl M_isTighter)), ((aM 34), .inl (cZ, 16, .inl M_seen)), ((aM 35), .inl (cI, 16, .inl M_walk)), ((aM 0), .inr (9, oX9 aM M_nodes M_operators M_textSize M_wordCount M_isParsed M_isTaken M_items M_piled M_outSize M_told M_standing))] H := hP
    have hD : va_D A [((aM 2), .inl (cZ, 256, .inl M_isTighter)), ((aM 34), .inl (cZ, 16, .inl M_seen)), ((aM 35), .inl (cI, 16, .inl M_walk)), ((aM 0), .inr (9, oX9 aM M_nodes M_operators M_textSize M_wordCount M_isParsed M_isTaken M_items M_piled M_outSize M_told M_standing))] := hD
    refine lv_if_ne (tgt := 18) hx hb dX9_arrow_13 (by decide) (fun c_6 => ?_) (fun c_6 => ?_)
    · have hm := if_some' c_6 hm
      refine lv_aload_n hx hb dX9_arrow_18 rfl (lv_at hl 0 rfl) ?_
      refine va_get (D := (dC, dI)) (ci := 9) (v := .ref (aM 2)) (C := RX9) (T := TX9) (N := 53) hx hb hts X9_arrow_inX9 hown hK hP 3 rfl rfl 1 (by decide) (hts (.fieldLink RX9 7 "MixfixDeskModel" "isTighter" "[Z") (List.mem_of_getElem? (i := 1) rfl)) (fun _ h9 => h9) rfl dX9_arrow_19 ?_
      refine lv_bipush (v := 16) hx hb dX9_arrow_22 (by decide) ?_
      refine lv_iload_n hx hb dX9_arrow_24 rfl (lv_at hl 1 rfl) ?_
      refine lv_imul hx hb dX9_arrow_25 ?_
      refine lv_iload_n hx hb dX9_arrow_26 rfl (lv_at hl 2 rfl) ?_
      refine lv_iadd hx hb dX9_arrow_27 ?_
      obtain ⟨hi_7, hm⟩ := gd_some hm
      refine va_zald (D := (dC, dI)) hx hb hK hP 0 3 rfl rfl hi_7 dX9_arrow_28 ?_
      refine lv_if_eq (tgt := 34) hx hb dX9_arrow_29 (by decide) (fun c_8 => ?_) (fun c_8 => ?_)
      · have hm := it_some c_8 hm
        refine lv_aload_n hx hb dX9_arrow_34 rfl (lv_at hl 0 rfl) ?_
        refine lv_iload_n hx hb dX9_arrow_35 rfl (lv_at hl 2 rfl) ?_
        refine lv_iload_n hx hb dX9_arrow_36 rfl (lv_at hl 1 rfl) ?_
        obtain ⟨r_9, hc_10, hm⟩ := ob_some hm
        refine cx_i (wr := []) (va_runV (As := [.int p1, .int p0]) (rest := []) C0.1 (c_X9_leads l dC dI cI cJ cB cZ aM H.size M_nodes M_operators M_textSize M_wordCount M_isParsed M_isTaken M_items M_piled M_outSize M_told M_standing M_isTighter M_seen M_walk p1 p0 r_9 hc_10) (cwV 2 hts gX9_arrow_X9_leads rfl rfl rfl (by decide +kernel) ⟨Nat.le_of_ble_eq_true rfl, Nat.le_of_ble_eq_true rfl⟩) (cP_V (ci := 9) (q0 := 3) hK hN hP hD rfl rfl [3, 0, 1, 2] (by decide) rfl) rfl rfl hl.1 rfl (lv_room (Nat.le_of_ble_eq_true rfl)) dX9_arrow_37 ⟨Nat.le_of_ble_eq_true rfl, Nat.le_of_ble_eq_true rfl⟩) hP hD hS hA [3, 0, 1, 2] [] rfl rfl (by decide) (by decide) (fun H locs hP hD hS => ?_)
        have hP : va_P (dC, dI) vwCl [((aM 0), .inr (9, oX9 aM M_nodes M_operators M_textSize M_wordCount M_isParsed M_isTaken M_items M_piled M_outSize M_told M_standing)), ((aM 2), .inl (cZ, 256, .inl M_isTighter)), ((aM 34), .inl (cZ, 16, .inl r_9.2.1)), ((aM 35), .inl (cI, 16, .inl r_9.2.2))] H := hP
        have hD : va_D A [((aM 0), .inr (9, oX9 aM M_nodes M_operators M_textSize M_wordCount M_isParsed M_isTaken M_items M_piled M_outSize M_told M_standing)), ((aM 2), .inl (cZ, 256, .inl M_isTighter)), ((aM 34), .inl (cZ, 16, .inl r_9.2.1)), ((aM 35), .inl (cI, 16, .inl r_9.2.2))] := hD
        refine lv_if_eq (tgt := 46) hx hb dX9_arrow_40 (by decide) (fun c_11 => ?_) (fun c_11 => ?_)
        · have hm := it_some c_11 hm
          refine lv_aload_n hx hb dX9_arrow_46 rfl (lv_at hl 0 rfl) ?_
          refine va_get (D := (dC, dI)) (ci := 9) (v := .ref (aM 2)) (C := RX9) (T := TX9) (N := 53) hx hb hts X9_arrow_inX9 hown hK hP 0 rfl rfl 1 (by decide) (hts (.fieldLink RX9 7 "MixfixDeskModel" "isTighter" "[Z") (List.mem_of_getElem? (i := 1) rfl)) (fun _ h9 => h9) rfl dX9_arrow_47 ?_
          refine lv_bipush (v := 16) hx hb dX9_arrow_50 (by decide) ?_
          refine lv_iload_n hx hb dX9_arrow_52 rfl (lv_at hl 1 rfl) ?_
          refine lv_imul hx hb dX9_arrow_53 ?_
          refine lv_iload_n hx hb dX9_arrow_54 rfl (lv_at hl 2 rfl) ?_
          refine lv_iadd hx hb dX9_arrow_55 ?_
          refine lv_iconst (v := 1) hx hb dX9_arrow_56 (by decide) ?_
          obtain ⟨hi_12, hm⟩ := gd_some hm
          refine va_zast (D := (dC, dI)) hx hb hK hP hD hS 1 3 rfl rfl hi_12 dX9_arrow_57 (fun H locs hP hD hS => ?_)
          have hP : va_P (dC, dI) vwCl [((aM 0), .inr (9, oX9 aM M_nodes M_operators M_textSize M_wordCount M_isParsed M_isTaken M_items M_piled M_outSize M_told M_standing)), ((aM 2), .inl (cZ, 256, .inl (upd M_isTighter ((16 * p0) + p1).toNatClampNeg (vp_nar .boolean 1)))), ((aM 34), .inl (cZ, 16, .inl r_9.2.1)), ((aM 35), .inl (cI, 16, .inl r_9.2.2))] H := hP
          have hD : va_D A [((aM 0), .inr (9, oX9 aM M_nodes M_operators M_textSize M_wordCount M_isParsed M_isTaken M_items M_piled M_outSize M_told M_standing)), ((aM 2), .inl (cZ, 256, .inl (upd M_isTighter ((16 * p0) + p1).toNatClampNeg (vp_nar .boolean 1)))), ((aM 34), .inl (cZ, 16, .inl r_9.2.1)), ((aM 35), .inl (cI, 16, .inl r_9.2.2))] := hD
          refine lv_aload_n hx hb dX9_arrow_58 rfl (lv_at hl 0 rfl) ?_
          obtain ⟨r_13, hc_14, hm⟩ := ob_some hm
          refine cx_v (wr := [((aM 2), .inl (cZ, 256, .inl (upd M_isTighter ((16 * p0) + p1).toNatClampNeg (vp_nar .boolean 1)))), ((aM 34), .inl (cZ, 16, .inl r_9.2.1)), ((aM 35), .inl (cI, 16, .inl r_9.2.2))]) (va_runV (As := []) (rest := []) C0.1 (c_X9_gone l dC dI cI cJ cB cZ aM H.size M_nodes M_operators M_textSize M_wordCount M_isParsed M_isTaken M_items M_piled M_outSize M_told M_standing r_13 hc_14) (cwV 0 hts gX9_arrow_X9_gone rfl rfl rfl (by decide +kernel) ⟨Nat.le_of_ble_eq_true rfl, Nat.le_of_ble_eq_true rfl⟩) (cP_V (ci := 9) (q0 := 0) hK hN hP hD rfl rfl [0] (by decide) rfl) rfl rfl hl.1 rfl (lv_room (Nat.le_of_ble_eq_true rfl)) dX9_arrow_59 ⟨Nat.le_of_ble_eq_true rfl, Nat.le_of_ble_eq_true rfl⟩) hP hD hS hA [0] [1, 2, 3] rfl rfl (by decide) (by decide) (fun H locs hP hD hS => ?_)
          have hP : va_P (dC, dI) vwCl [((aM 2), .inl (cZ, 256, .inl (upd M_isTighter ((16 * p0) + p1).toNatClampNeg (vp_nar .boolean 1)))), ((aM 34), .inl (cZ, 16, .inl r_9.2.1)), ((aM 35), .inl (cI, 16, .inl r_9.2.2)), ((aM 0), .inr (9, oX9 aM M_nodes M_operators M_textSize M_wordCount r_13.1 r_13.2 M_items M_piled M_outSize M_told M_standing))] H := hP
          have hD : va_D A [((aM 2), .inl (cZ, 256, .inl (upd M_isTighter ((16 * p0) + p1).toNatClampNeg (vp_nar .boolean 1)))), ((aM 34), .inl (cZ, 16, .inl r_9.2.1)), ((aM 35), .inl (cI, 16, .inl r_9.2.2)), ((aM 0), .inr (9, oX9 aM M_nodes M_operators M_textSize M_wordCount r_13.1 r_13.2 M_items M_piled M_outSize M_told M_standing))] := hD
          refine lv_iconst (v := 1) hx hb dX9_arrow_62 (by decide) ?_
          exact RET 1 (upd M_isTighter ((16 * p0) + p1).toNatClampNeg (vp_nar .boolean 1)) r_13.1 r_13.2 r_9.2.1 r_9.2.2 hm _ H locs ls dX9_arrow_63 (P_sub' hP [3, 0, 1, 2] rfl) (hD.sub [3, 0, 1, 2] (by decide) rfl) hS
        · have hm := if_some' c_11 hm
          refine lv_bipush (v := (-3)) hx hb dX9_arrow_43 (by decide) ?_
          exact RET (-3) M_isTighter M_isParsed M_isTaken r_9.2.1 r_9.2.2 hm _ H locs ls dX9_arrow_45 hP hD hS
      · have hm := if_some' c_8 hm
        refine lv_iconst (v := 0) hx hb dX9_arrow_32 (by decide) ?_
        exact RET 0 M_isTighter M_isParsed M_isTaken M_seen M_walk hm _ H locs ls dX9_arrow_33 (P_sub' hP [3, 0, 1, 2] rfl) (hD.sub [3, 0, 1, 2] (by decide) rfl) hS
    · have hm := it_some c_6 hm
      refine lv_iconst (v := (-1)) hx hb dX9_arrow_16 (by decide) ?_
      exact RET (-1) M_isTighter M_isParsed M_isTaken M_seen M_walk hm _ H locs ls dX9_arrow_17 (P_sub' hP [3, 0, 1, 2] rfl) (hD.sub [3, 0, 1, 2] (by decide) rfl) hS
set_option maxHeartbeats 4000000 in
set_option maxRecDepth 100000 in
theorem c_X9_arrow (l : Launch) (dC : Nat → ClassId) (dI : Nat → Nat → Nat) (cI cJ cB cZ : ClassId) (aM : Nat → Nat) (sz : Nat) (M_nodes : Int32) (M_operators : Int32) (M_textSize : Int32) (M_wordCount : Int32) (M_isParsed : Int32) (M_isTaken : Int32) (M_items : Int32) (M_piled : Int32) (M_outSize : Int32) (M_told : Int32) (M_standing : Int32) (M_isTighter : Nat → Int32) (M_seen : Nat → Int32) (M_walk : Nat → Int32) (p0 : Int32) (p1 : Int32) (res : Int32 × (Nat → Int32) × Int32 × Int32 × (Nat → Int32) × (Nat → Int32)) (hm : m_X9_arrow M_nodes M_isTighter M_isParsed M_isTaken M_seen M_walk p0 p1 = some res) : Met l yX9_arrow wsX9_arrow rm_X9_arrow (cP (dC, dI) vwCl [(cI, .int), (cJ, .long), (cB, .byte), (cZ, .boolean)] [.ref (aM 0), .int p0, .int p1] [((aM 0), .inr (9, oX9 aM M_nodes M_operators M_textSize M_wordCount M_isParsed M_isTaken M_items M_piled M_outSize M_told M_standing)), ((aM 2), .inl (cZ, 256, .inl M_isTighter)), ((aM 34), .inl (cZ, 16, .inl M_seen)), ((aM 35), .inl (cI, 16, .inl M_walk))] sz) (cQi res.1 (dC, dI) vwCl [((aM 0), .inr (9, oX9 aM M_nodes M_operators M_textSize M_wordCount res.2.2.1 res.2.2.2.1 M_items M_piled M_outSize M_told M_standing)), ((aM 2), .inl (cZ, 256, .inl res.2.1)), ((aM 34), .inl (cZ, 16, .inl res.2.2.2.2.1)), ((aM 35), .inl (cI, 16, .inl res.2.2.2.2.2))] [((aM 0), .inr (9, oX9 aM M_nodes M_operators M_textSize M_wordCount M_isParsed M_isTaken M_items M_piled M_outSize M_told M_standing)), ((aM 2), .inl (cZ, 256, .inl M_isTighter)), ((aM 34), .inl (cZ, 16, .inl M_seen)), ((aM 35), .inl (cI, 16, .inl M_walk))] sz) 0 0 (va_A [((aM 0), .inr (9, oX9 aM M_nodes M_operators M_textSize M_wordCount M_isParsed M_isTaken M_items M_piled M_outSize M_told M_standing)), ((aM 2), .inl (cZ, 256, .inl M_isTighter)), ((aM 34), .inl (cZ, 16, .inl M_seen)), ((aM 35), .inl (cI, 16, .inl M_walk))] sz) := by
  refine cx_of (cc := cX9_arrow) (maxL := 3) (ret := (some .int)) (own := RX9) (by decide) rfl rfl (Nat.le_of_ble_eq_true rfl) ?_
  intro p e s m below meth c A C0 hinN hK hN hsz hAe hA hP hD hS ls hl
  refine k_X9_arrow_E C0 hK hN hA aM M_nodes M_operators M_textSize M_wordCount M_items M_piled M_outSize M_told M_standing res ?_ M_isTighter M_isParsed M_isTaken M_seen M_walk p0 p1 hm _ _ hP hD hS ls hl
  intro v M_isTighter M_isParsed M_isTaken M_seen M_walk he pc H locs ls hdg hP hD hS
  have he := Option.some.inj he
  subst he
  exact cx_reti C0 hsz hAe hdg hP hD hS

