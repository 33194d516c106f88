theorem dX0_size_0 : decode cX0_size 0 = .ok (.aload_n 0, 1) := by decide +kernel
theorem dX0_size_1 : decode cX0_size 1 = .ok (.getfield 31, 3) := by decide +kernel
theorem dX0_size_4 : decode cX0_size 4 = .ok (.ireturn, 1) := by decide +kernel
/-! MixfixDesk$Chart.size()I -/
abbrev rm_X0_size : Room := { frames := 0, cells := 0, slots := 0, locals := 0 }
theorem X0_size_inX0 : ∀ w ∈ wsX00, w ∈ wsX0_size := by decide +kernel
abbrev RT_X0_size (p : Program) (l : Launch) (e : Env) (s : State) (m : MethodId) (args : Array Value) (below : List Frame) (meth : Method) (c : Code) (Q : State → Prop) (dC : Nat → ClassId) (dI : Nat → Nat → Nat) (cI cJ cB cZ : ClassId) (A : Nat → Prop) (aC : Nat → Nat) (xC_rules : Nat) (gC_all : Nat) (gC_topped : Nat) (gC_firsts : Nat) (gC_ways : Nat) (C_size : Int32) (C_operators : Int32) (res : Int32) : Prop := ∀ (v : Int32) , some v = some res → ∀ (pc : Nat) (H : Heap) (locs : List Loc) (ls : Array Slot), decode cX0_size pc = .ok (.ireturn, 1) → va_P (dC, dI) vwCl [((aC 0), .inr (0, [.ref xC_rules, .ref (aC 2), .ref (aC 3), .ref gC_all, .ref gC_topped, .ref gC_firsts, .ref gC_ways, .int C_size, .int C_operators]))] H → va_D A [((aC 0), .inr (0, [.ref xC_rules, .ref (aC 2), .ref (aC 3), .ref gC_all, .ref gC_topped, .ref gC_firsts, .ref gC_ways, .int C_size, .int C_operators]))] → va_S A s.heap H locs → W p l e rm_X0_size s m args below meth c H locs 0 0 Q (F0 m pc ls [.int v])
set_option maxHeartbeats 4000000 in
set_option maxRecDepth 100000 in
theorem k_X0_size_E {p : Program} {l : Launch} {e : Env} {s : State} {m : MethodId} {args : Array Value} {below : List Frame} {meth : Method} {c : Code} {Q : State → Prop} {dC : Nat → ClassId} {dI : Nat → Nat → Nat} {cI cJ cB cZ : ClassId} {A : Nat → Prop} (C0 : Cx p s m meth c args cX0_size 1 (some .int) wsX0_size RX0) (hK : va_K (dC, dI) vwCl [(cI, .int), (cJ, .long), (cB, .byte), (cZ, .boolean)] s) (hN : NW s) (hA : ∀ q, s.heap.size ≤ q → A q) (aC : Nat → Nat) (xC_rules : Nat) (gC_all : Nat) (gC_topped : Nat) (gC_firsts : Nat) (gC_ways : Nat) (C_size : Int32) (C_operators : Int32) (res : Int32) (RET : RT_X0_size p l e s m args below meth c Q dC dI cI cJ cB cZ A aC xC_rules gC_all gC_topped gC_firsts gC_ways C_size C_operators res) : m_X0_size C_size = some res → ∀ (H : Heap) (locs : List Loc), va_P (dC, dI) vwCl [((aC 0), .inr (0, [.ref xC_rules, .ref (aC 2), .ref (aC 3), .ref gC_all, .ref gC_topped, .ref gC_firsts, .ref gC_ways, .int C_size, .int C_operators]))] H → va_D A [((aC 0), .inr (0, [.ref xC_rules, .ref (aC 2), .ref (aC 3), .ref gC_all, .ref gC_topped, .ref gC_firsts, .ref gC_ways, .int C_size, .int C_operators]))] → va_S A s.heap H locs → ∀ (ls : Array Slot), lv_has ls 1 [(0, .ref (aC 0))] → W p l e rm_X0_size s m args below meth c H locs 0 0 Q (F0 m 0 ls []) := by
  obtain ⟨⟨hx, hb, hml, hown, hts⟩, hr, hlocks⟩ := id C0
  intro  hm H locs hP hD hS ls hl
  have hm : (some C_size) = some res := hm
  refine lv_aload_n hx hb dX0_size_0 rfl (lv_at hl 0 rfl) ?_
  refine va_get (D := (dC, dI)) (ci := 0) (v := .int C_size) (C := RX0) (T := TX0) (N := 9) hx hb hts X0_size_inX0 hown hK hP 0 rfl rfl 7 (by decide) (hts (.fieldLink RX0 31 "MixfixDesk$Chart" "size" "I") (by decide +kernel)) (fun _ h9 => h9) rfl dX0_size_1 ?_
  exact RET C_size hm _ H locs ls dX0_size_4 hP hD hS
set_option maxHeartbeats 4000000 in
set_option maxRecDepth 100000 in
theorem c_X0_size (l : Launch) (dC : Nat → ClassId) (dI : Nat → Nat → Nat) (cI cJ cB cZ : ClassId) (aC : Nat → Nat) (xC_rules : Nat) (gC_all : Nat) (gC_topped : Nat) (gC_firsts : Nat) (gC_ways : Nat) (sz : Nat) (C_size : Int32) (C_operators : Int32) (res : Int32) (hm : m_X0_size C_size = some res) : Met l yX0_size wsX0_size rm_X0_size (cP (dC, dI) vwCl [(cI, .int), (cJ, .long), (cB, .byte), (cZ, .boolean)] [.ref (aC 0)] [((aC 0), .inr (0, [.ref xC_rules, .ref (aC 2), .ref (aC 3), .ref gC_all, .ref gC_topped, .ref gC_firsts, .ref gC_ways, .int C_size, .int C_operators]))] sz) (cQi res (dC, dI) vwCl [((aC 0), .inr (0, [.ref xC_rules, .ref (aC 2), .ref (aC 3), .ref gC_all, .ref gC_topped, .ref gC_firsts, .ref gC_ways, .int C_size, .int C_operators]))] [((aC 0), .inr (0, [.ref xC_rules, .ref (aC 2), .ref (aC 3), .ref gC_all, .ref gC_topped, .ref gC_firsts, .ref gC_ways, .int C_size, .int C_operators]))] sz) 0 0 (va_A [((aC 0), .inr (0, [.ref xC_rules, .ref (aC 2), .ref (aC 3), .ref gC_all, .ref gC_topped, .ref gC_firsts, .ref gC_ways, .int C_size, .int C_operators]))] sz) := by
  refine cx_of (cc := cX0_size) (maxL := 1) (ret := (some .int)) (own := RX0) (by decide) rfl rfl (Nat.le_of_ble_eq_true rfl) ?_
  intro p e s m below meth c A C0 hinN hK hN hsz hAe hA hP hD hS ls hl
  refine k_X0_size_E C0 hK hN hA aC xC_rules gC_all gC_topped gC_firsts gC_ways C_size C_operators res ?_  hm _ _ hP hD hS ls hl
  intro v he pc H locs ls hdg hP hD hS
  have he := Option.some.inj he
  subst he
  exact cx_reti C0 hsz hAe hdg hP hD hS

theorem dX0_word_0 : decode cX0_word 0 = .ok (.aload_n 0, 1) := by decide +kernel
theorem dX0_word_1 : decode cX0_word 1 = .ok (.getfield 9, 3) := by decide +kernel
theorem dX0_word_4 : decode cX0_word 4 = .ok (.iload_n 1, 1) := by decide +kernel
theorem dX0_word_5 : decode cX0_word 5 = .ok (.laload, 1) := by decide +kernel
theorem dX0_word_6 : decode cX0_word 6 = .ok (.lreturn, 1) := by decide +kernel
/-! MixfixDesk$Chart.word(I)J -/
abbrev rm_X0_word : Room := { frames := 0, cells := 0, slots := 0, locals := 0 }
theorem X0_word_inX0 : ∀ w ∈ wsX00, w ∈ wsX0_word := by decide +kernel
abbrev RT_X0_word (p : Program) (l : Launch) (e : Env) (s : State) (m : MethodId) (args : Array Value) (below : List Frame) (meth : Method) (c : Code) (Q : State → Prop) (dC : Nat → ClassId) (dI : Nat → Nat → Nat) (cI cJ cB cZ : ClassId) (A : Nat → Prop) (aC : Nat → Nat) (xC_rules : Nat) (gC_all : Nat) (gC_topped : Nat) (gC_firsts : Nat) (gC_ways : Nat) (C_size : Int32) (C_operators : Int32) (C_words : Nat → Int64) (res : Int64) : Prop := ∀ (v : Int64) , some v = some res → ∀ (pc : Nat) (H : Heap) (locs : List Loc) (ls : Array Slot), decode cX0_word pc = .ok (.lreturn, 1) → va_P (dC, dI) vwCl [((aC 0), .inr (0, [.ref xC_rules, .ref (aC 2), .ref (aC 3), .ref gC_all, .ref gC_topped, .ref gC_firsts, .ref gC_ways, .int C_size, .int C_operators])), ((aC 2), .inl (cJ, 40, .inr (.inl C_words)))] H → va_D A [((aC 0), .inr (0, [.ref xC_rules, .ref (aC 2), .ref (aC 3), .ref gC_all, .ref gC_topped, .ref gC_firsts, .ref gC_ways, .int C_size, .int C_operators])), ((aC 2), .inl (cJ, 40, .inr (.inl C_words)))] → va_S A s.heap H locs → W p l e rm_X0_word s m args below meth c H locs 0 0 Q (F0 m pc ls [.long v])
set_option maxHeartbeats 4000000 in
set_option maxRecDepth 100000 in
theorem k_X0_word_E {p : Program} {l : Launch} {e : Env} {s : State} {m : MethodId} {args : Array Value} {below : List Frame} {meth : Method} {c : Code} {Q : State → Prop} {dC : Nat → ClassId} {dI : Nat → Nat → Nat} {cI cJ cB cZ : ClassId} {A : Nat → Prop} (C0 : Cx p s m meth c args cX0_word 2 (some .long) wsX0_word RX0) (hK : va_K (dC, dI) vwCl [(cI, .int), (cJ, .long), (cB, .byte), (cZ, .boolean)] s) (hN : NW s) (hA : ∀ q, s.heap.size ≤ q → A q) (aC : Nat → Nat) (xC_rules : Nat) (gC_all : Nat) (gC_topped : Nat) (gC_firsts : Nat) (gC_ways : Nat) (C_size : Int32) (C_operators : Int32) (C_words : Nat → Int64) (res : Int64) (RET : RT_X0_word p l e s m args below meth c Q dC dI cI cJ cB cZ A aC xC_rules gC_all gC_topped gC_firsts gC_ways C_size C_operators C_words res) : ∀ (p0 : Int32), m_X0_word C_words p0 = some res → ∀ (H : Heap) (locs : List Loc), va_P (dC, dI) vwCl [((aC 0), .inr (0, [.ref xC_rules, .ref (aC 2), .ref (aC 3), .ref gC_all, .ref gC_topped, .ref gC_firsts, .ref gC_ways, .int C_size, .int C_operators])), ((aC 2), .inl (cJ, 40, .inr (.inl C_words)))] H → va_D A [((aC 0), .inr (0, [.ref xC_rules, .ref (aC 2), .ref (aC 3), .ref gC_all, .ref gC_topped, .ref gC_firsts, .ref gC_ways, .int C_size, .int C_operators])), ((aC 2), .inl (cJ, 40, .inr (.inl C_words)))] → va_S A s.heap H locs → ∀ (ls : Array Slot), lv_has ls 2 [(0, .ref (aC 0)), (1, .int p0)] → W p l e rm_X0_word s m args below meth c H locs 0 0 Q (F0 m 0 ls []) := by
  obtain ⟨⟨hx, hb, hml, hown, hts⟩, hr, hlocks⟩ := id C0
  intro p0 hm H locs hP hD hS ls hl
  have hm : (gd p0 40 (some (C_words p0.toNatClampNeg))) = some res := hm
  refine lv_aload_n hx hb dX0_word_0 rfl (lv_at hl 0 rfl) ?_
  refine va_get (D := (dC, dI)) (ci := 0) (v := .ref (aC 2)) (C := RX0) (T := TX0) (N := 9) hx hb hts X0_word_inX0 hown hK hP 0 rfl rfl 1 (by decide) (hts (.fieldLink RX0 9 "MixfixDesk$Chart" "words" "[J") (by decide +kernel)) (fun _ h9 => h9) rfl dX0_word_1 ?_
  refine lv_iload_n hx hb dX0_word_4 rfl (lv_at hl 1 rfl) ?_
  obtain ⟨hi_1, hm⟩ := gd_some hm
  refine va_lald (D := (dC, dI)) hx hb hK hP 1 1 rfl rfl hi_1 dX0_word_5 ?_
  exact RET (C_words p0.toNatClampNeg) hm _ H locs ls dX0_word_6 hP hD hS
set_option maxHeartbeats 4000000 in
set_option maxRecDepth 100000 in
theorem c_X0_word (l : Launch) (dC : Nat → ClassId) (dI : Nat → Nat → Nat) (cI cJ cB cZ : ClassId) (aC : Nat → Nat) (xC_rules : Nat) (gC_all : Nat) (gC_topped : Nat) (gC_firsts : Nat) (gC_ways : Nat) (sz : Nat) (C_size : Int32) (C_operators : Int32) (C_words : Nat → Int64) (p0 : Int32) (res : Int64) (hm : m_X0_word C_words p0 = some res) : Met l yX0_word wsX0_word rm_X0_word (cP (dC, dI) vwCl [(cI, .int), (cJ, .long), (cB, .byte), (cZ, .boolean)] [.ref (aC 0), .int p0] [((aC 0), .inr (0, [.ref xC_rules, .ref (aC 2), .ref (aC 3), .ref gC_all, .ref gC_topped, .ref gC_firsts, .ref gC_ways, .int C_size, .int C_operators])), ((aC 2), .inl (cJ, 40, .inr (.inl C_words)))] sz) (cQl res (dC, dI) vwCl [((aC 0), .inr (0, [.ref xC_rules, .ref (aC 2), .ref (aC 3), .ref gC_all, .ref gC_topped, .ref gC_firsts, .ref gC_ways, .int C_size, .int C_operators])), ((aC 2), .inl (cJ, 40, .inr (.inl C_words)))] [((aC 0), .inr (0, [.ref xC_rules, .ref (aC 2), .ref (aC 3), .ref gC_all, .ref gC_topped, .ref gC_firsts, .ref gC_ways, .int C_size, .int C_operators])), ((aC 2), .inl (cJ, 40, .inr (.inl C_words)))] sz) 0 0 (va_A [((aC 0), .inr (0, [.ref xC_rules, .ref (aC 2), .ref (aC 3), .ref gC_all, .ref gC_topped, .ref gC_firsts, .ref gC_ways, .int C_size, .int C_operators])), ((aC 2), .inl (cJ, 40, .inr (.inl C_words)))] sz) := by
  refine cx_of (cc := cX0_word) (maxL := 2) (ret := (some .long)) (own := RX0) (by decide) rfl rfl (Nat.le_of_ble_eq_true rfl) ?_
  intro p e s m below meth c A C0 hinN hK hN hsz hAe hA hP hD hS ls hl
  refine k_X0_word_E C0 hK hN hA aC xC_rules gC_all gC_topped gC_firsts gC_ways C_size C_operators C_words res ?_ p0 hm _ _ hP hD hS ls hl
  intro v he pc H locs ls hdg hP hD hS
  have he := Option.some.inj he
  subst he
  exact cx_retl C0 hsz hAe hdg hP hD hS

theorem dX0_hasWords_0 : decode cX0_hasWords 0 = .ok (.iload_n 1, 1) := by decide +kernel
theorem dX0_hasWords_1 : decode cX0_hasWords 1 = .ok (.ifCond .lt 30, 3) := by decide +kernel
theorem dX0_hasWords_4 : decode cX0_hasWords 4 = .ok (.iload_n 1, 1) := by decide +kernel
theorem dX0_hasWords_5 : decode cX0_hasWords 5 = .ok (.aload_n 0, 1) := by decide +kernel
theorem dX0_hasWords_6 : decode cX0_hasWords 6 = .ok (.getfield 31, 3) := by decide +kernel
theorem dX0_hasWords_9 : decode cX0_hasWords 9 = .ok (.if_icmp .ge 22, 3) := by decide +kernel
theorem dX0_hasWords_12 : decode cX0_hasWords 12 = .ok (.iload_n 2, 1) := by decide +kernel
theorem dX0_hasWords_13 : decode cX0_hasWords 13 = .ok (.iconst 1, 1) := by decide +kernel
theorem dX0_hasWords_14 : decode cX0_hasWords 14 = .ok (.if_icmp .lt 17, 3) := by decide +kernel
theorem dX0_hasWords_17 : decode cX0_hasWords 17 = .ok (.iload_n 2, 1) := by decide +kernel
theorem dX0_hasWords_18 : decode cX0_hasWords 18 = .ok (.aload_n 0, 1) := by decide +kernel
theorem dX0_hasWords_19 : decode cX0_hasWords 19 = .ok (.getfield 31, 3) := by decide +kernel
theorem dX0_hasWords_22 : decode cX0_hasWords 22 = .ok (.iload_n 1, 1) := by decide +kernel
theorem dX0_hasWords_23 : decode cX0_hasWords 23 = .ok (.isub, 1) := by decide +kernel
theorem dX0_hasWords_24 : decode cX0_hasWords 24 = .ok (.if_icmp .gt 7, 3) := by decide +kernel
theorem dX0_hasWords_27 : decode cX0_hasWords 27 = .ok (.iconst 1, 1) := by decide +kernel
theorem dX0_hasWords_28 : decode cX0_hasWords 28 = .ok (.goto 4, 3) := by decide +kernel
theorem dX0_hasWords_31 : decode cX0_hasWords 31 = .ok (.iconst 0, 1) := by decide +kernel
theorem dX0_hasWords_32 : decode cX0_hasWords 32 = .ok (.ireturn, 1) := by decide +kernel
/-! MixfixDesk$Chart.hasWords(II)Z -/
abbrev rm_X0_hasWords : Room := { frames := 0, cells := 0, slots := 0, locals := 0 }
theorem X0_hasWords_inX0 : ∀ w ∈ wsX00, w ∈ wsX0_hasWords := by decide +kernel
abbrev RT_X0_hasWords (p : Program) (l : Launch) (e : Env) (s : State) (m : MethodId) (args : Array Value) (below : List Frame) (meth : Method) (c : Code) (Q : State → Prop) (dC : Nat → ClassId) (dI : Nat → Nat → Nat) (cI cJ cB cZ : ClassId) (A : Nat → Prop) (aC : Nat → Nat) (xC_rules : Nat) (gC_all : Nat) (gC_topped : Nat) (gC_firsts : Nat) (gC_ways : Nat) (C_size : Int32) (C_operators : Int32) (res : Int32) : Prop := ∀ (v : Int32) , some v = some res → narrow .boolean (.int v) = .int v → ∀ (pc : Nat) (H : Heap) (locs : List Loc) (ls : Array Slot), decode cX0_hasWords pc = .ok (.ireturn, 1) → va_P (dC, dI) vwCl [((aC 0), .inr (0, [.ref xC_rules, .ref (aC 2), .ref (aC 3), .ref gC_all, .ref gC_topped, .ref gC_firsts, .ref gC_ways, .int C_size, .int C_operators]))] H → va_D A [((aC 0), .inr (0, [.ref xC_rules, .ref (aC 2), .ref (aC 3), .ref gC_all, .ref gC_topped, .ref gC_firsts, .ref gC_ways, .int C_size, .int C_operators]))] → va_S A s.heap H locs → W p l e rm_X0_hasWords s m args below meth c H locs 0 0 Q (F0 m pc ls [.int v])
set_option maxHeartbeats 4000000 in
set_option maxRecDepth 100000 in
theorem k_X0_hasWords_E {p : Program} {l : Launch} {e : Env} {s : State} {m : MethodId} {args : Array Value} {below : List Frame} {meth : Method} {c : Code} {Q : State → Prop} {dC : Nat → ClassId} {dI : Nat → Nat → Nat} {cI cJ cB cZ : ClassId} {A : Nat → Prop} (C0 : Cx p s m meth c args cX0_hasWords 3 (some .boolean) wsX0_hasWords RX0) (hK : va_K (dC, dI) vwCl [(cI, .int), (cJ, .long), (cB, .byte), (cZ, .boolean)] s) (hN : NW s) (hA : ∀ q, s.heap.size ≤ q → A q) (aC : Nat → Nat) (xC_rules : Nat) (gC_all : Nat) (gC_topped : Nat) (gC_firsts : Nat) (gC_ways : Nat) (C_size : Int32) (C_operators : Int32) (res : Int32) (RET : RT_X0_hasWords p l e s m args below meth c Q dC dI cI cJ cB cZ A aC xC_rules gC_all gC_topped gC_firsts gC_ways C_size C_operators res) : ∀ (p0 : Int32) (p1 : Int32), m_X0_hasWords C_size p0 p1 = some res → ∀ (H : Heap) (locs : List Loc), va_P (dC, dI) vwCl [((aC 0), .inr (0, [.ref xC_rules, .ref (aC 2), .ref (aC 3), .ref gC_all, .ref gC_topped, .ref gC_firsts, .ref gC_ways, .int C_size, .int C_operators]))] H → va_D A [((aC 0), .inr (0, [.ref xC_rules, .ref (aC 2), .ref (aC 3), .ref gC_all, .ref gC_topped, .ref gC_firsts, .ref gC_ways, .int C_size, .int C_operators]))] → va_S A s.heap H locs → ∀ (ls : Array Slot), lv_has ls 3 [(0, .ref (aC 0)), (1, .int p0), (2, .int p1)] → W p l e rm_X0_hasWords s m args below meth c H locs 0 0 Q (F0 m 0 ls []) := by
  obtain ⟨⟨hx, hb, hml, hown, hts⟩, hr, hlocks⟩ := id C0
  intro p0 p1 hm H locs hP hD hS ls hl
  have hm : (if p0 < 0 then (some 0) else (if C_size ≤ p0 then (some 0) else (if p1 < 1 then (some 0) else (if (C_size - p0) < p1 then (some 0) else (some 1))))) = some res := hm
  refine lv_iload_n hx hb dX0_hasWords_0 rfl (lv_at hl 1 rfl) ?_
  refine lv_if_lt (tgt := 31) hx hb dX0_hasWords_1 (by decide) (fun c_1 => ?_) (fun c_1 => ?_)
  · have hm := it_some c_1 hm
    refine lv_iconst (v := 0) hx hb dX0_hasWords_31 (by decide) ?_
    exact RET 0 hm rfl _ H locs ls dX0_hasWords_32 hP hD hS
  · have hm := if_some' c_1 hm
    refine lv_iload_n hx hb dX0_hasWords_4 rfl (lv_at hl 1 rfl) ?_
    refine lv_aload_n hx hb dX0_hasWords_5 rfl (lv_at hl 0 rfl) ?_
    refine va_get (D := (dC, dI)) (ci := 0) (v := .int C_size) (C := RX0) (T := TX0) (N := 9) hx hb hts X0_hasWords_inX0 hown hK hP 0 rfl rfl 7 (by decide) (hts (.fieldLink RX0 31 "MixfixDesk$Chart" "size" "I") (by decide +kernel)) (fun _ h9 => h9) rfl dX0_hasWords_6 ?_
    refine lv_icmp_ge (tgt := 31) hx hb dX0_hasWords_9 (by decide) (fun c_2 => ?_) (fun c_2 => ?_)
    · have hm := it_some c_2 hm
      refine lv_iconst (v := 0) hx hb dX0_hasWords_31 (by decide) ?_
      exact RET 0 hm rfl _ H locs ls dX0_hasWords_32 hP hD hS
    · have hm := if_some' c_2 hm
      refine lv_iload_n hx hb dX0_hasWords_12 rfl (lv_at hl 2 rfl) ?_
      refine lv_iconst (v := 1) hx hb dX0_hasWords_13 (by decide) ?_
      refine lv_icmp_lt (tgt := 31) hx hb dX0_hasWords_14 (by decide) (fun c_3 => ?_) (fun c_3 => ?_)
      · have hm := it_some c_3 hm
        refine lv_iconst (v := 0) hx hb dX0_hasWords_31 (by decide) ?_
        exact RET 0 hm rfl _ H locs ls dX0_hasWords_32 hP hD hS
      · have hm := if_some' c_3 hm
        refine lv_iload_n hx hb dX0_hasWords_17 rfl (lv_at hl 2 rfl) ?_
        refine lv_aload_n hx hb dX0_hasWords_18 rfl (lv_at hl 0 rfl) ?_
        refine va_get (D := (dC, dI)) (ci := 0) (v := .int C_size) (C := RX0) (T := TX0) (N := 9) hx hb hts X0_hasWords_inX0 hown hK hP 0 rfl rfl 7 (by decide) (hts (.fieldLink RX0 31 "MixfixDesk$Chart" "size" "I") (by decide +kernel)) (fun _ h9 => h9) rfl dX0_hasWords_19 ?_
        refine lv_iload_n hx hb dX0_hasWords_22 rfl (lv_at hl 1 rfl) ?_
        refine lv_isub hx hb dX0_hasWords_23 ?_
        refine lv_icmp_gt (tgt := 31) hx hb dX0_hasWords_24 (by decide) (fun c_4 => ?_) (fun c_4 => ?_)
        · have hm := it_some c_4 hm
          refine lv_iconst (v := 0) hx hb dX0_hasWords_31 (by decide) ?_
          exact RET 0 hm rfl _ H locs ls dX0_hasWords_32 hP hD hS
        · have hm := if_some' c_4 hm
          refine lv_iconst (v := 1) hx hb dX0_hasWords_27 (by decide) ?_
          refine lv_goto (tgt := 32) hx hb dX0_hasWords_28 (by decide) ?_
          exact RET 1 hm rfl _ H locs ls dX0_hasWords_32 hP hD hS
set_option maxHeartbeats 4000000 in
set_option maxRecDepth 100000 in
theorem c_X0_hasWords (l : Launch) (dC : Nat → ClassId) (dI : Nat → Nat → Nat) (cI cJ cB cZ : ClassId) (aC : Nat → Nat) (xC_rules : Nat) (gC_all : Nat) (gC_topped : Nat) (gC_firsts : Nat) (gC_ways : Nat) (sz : Nat) (C_size : Int32) (C_operators : Int32) (p0 : Int32) (p1 : Int32) (res : Int32) (hm : m_X0_hasWords C_size p0 p1 = some res) : Met l yX0_hasWords wsX0_hasWords rm_X0_hasWords (cP (dC, dI) vwCl [(cI, .int), (cJ, .long), (cB, .byte), (cZ, .boolean)] [.ref (aC 0), .int p0, .int p1] [((aC 0), .inr (0, [.ref xC_rules, .ref (aC 2), .ref (aC 3), .ref gC_all, .ref gC_topped, .ref gC_firsts, .ref gC_ways, .int C_size, .int C_operators]))] sz) (cQi res (dC, dI) vwCl [((aC 0), .inr (0, [.ref xC_rules, .ref (aC 2), .ref (aC 3), .ref gC_all, .ref gC_topped, .ref gC_firsts, .ref gC_ways, .int C_size, .int C_operators]))] [((aC 0), .inr (0, [.ref xC_rules, .ref (aC 2), .ref (aC 3), .ref gC_all, .ref gC_topped, .ref gC_firsts, .ref gC_ways, .int C_size, .int C_operators]))] sz) 0 0 (va_A [((aC 0), .inr (0, [.ref xC_rules, .ref (aC 2), .ref (aC 3), .ref gC_all, .ref gC_topped, .ref gC_firsts, .ref gC_ways, .int C_size, .int C_operators]))] sz) := by
  refine cx_of (cc := cX0_hasWords) (maxL := 3) (ret := (some .boolean)) (own := RX0) (by decide) rfl rfl (Nat.le_of_ble_eq_true rfl) ?_
  intro p e s m below meth c A C0 hinN hK hN hsz hAe hA hP hD hS ls hl
  refine k_X0_hasWords_E C0 hK hN hA aC xC_rules gC_all gC_topped gC_firsts gC_ways C_size C_operators res ?_ p0 p1 hm _ _ hP hD hS ls hl
  intro v he hn pc H locs ls hdg hP hD hS
  have he := Option.some.inj he
  subst he
  exact cx_retz C0 hn hsz hAe hdg hP hD hS

theorem dX0_span_0 : decode cX0_span 0 = .ok (.iload_n 1, 1) := by decide +kernel
theorem dX0_span_1 : decode cX0_span 1 = .ok (.iload_n 1, 1) := by decide +kernel
theorem dX0_span_2 : decode cX0_span 2 = .ok (.iconst 1, 1) := by decide +kernel
theorem dX0_span_3 : decode cX0_span 3 = .ok (.isub, 1) := by decide +kernel
theorem dX0_span_4 : decode cX0_span 4 = .ok (.imul, 1) := by decide +kernel
theorem dX0_span_5 : decode cX0_span 5 = .ok (.iconst 2, 1) := by decide +kernel
theorem dX0_span_6 : decode cX0_span 6 = .ok (.idiv, 1) := by decide +kernel
theorem dX0_span_7 : decode cX0_span 7 = .ok (.iload_n 0, 1) := by decide +kernel
theorem dX0_span_8 : decode cX0_span 8 = .ok (.iadd, 1) := by decide +kernel
theorem dX0_span_9 : decode cX0_span 9 = .ok (.ireturn, 1) := by decide +kernel
/-! MixfixDesk$Chart.span(II)I -/
abbrev rm_X0_span : Room := { frames := 0, cells := 0, slots := 0, locals := 0 }
abbrev RT_X0_span (p : Program) (l : Launch) (e : Env) (s : State) (m : MethodId) (args : Array Value) (below : List Frame) (meth : Method) (c : Code) (Q : State → Prop) (dC : Nat → ClassId) (dI : Nat → Nat → Nat) (cI cJ cB cZ : ClassId) (A : Nat → Prop)  (res : Int32) : Prop := ∀ (v : Int32) , some v = some res → ∀ (pc : Nat) (H : Heap) (locs : List Loc) (ls : Array Slot), decode cX0_span pc = .ok (.ireturn, 1) → va_P (dC, dI) vwCl [] H → va_D A [] → va_S A s.heap H locs → W p l e rm_X0_span s m args below meth c H locs 0 0 Q (F0 m pc ls [.int v])
set_option maxHeartbeats 4000000 in
set_option maxRecDepth 100000 in
theorem k_X0_span_E {p : Program} {l : Launch} {e : Env} {s : State} {m : MethodId} {args : Array Value} {below : List Frame} {meth : Method} {c : Code} {Q : State → Prop} {dC : Nat → ClassId} {dI : Nat → Nat → Nat} {cI cJ cB cZ : ClassId} {A : Nat → Prop} (C0 : Cx p s m meth c args cX0_span 2 (some .int) wsX0_span RX0) (hK : va_K (dC, dI) vwCl [(cI, .int), (cJ, .long), (cB, .byte), (cZ, .boolean)] s) (hN : NW s) (hA : ∀ q, s.heap.size ≤ q → A q)  (res : Int32) (RET : RT_X0_span p l e s m args below meth c Q dC dI cI cJ cB cZ A  res) : ∀ (p0 : Int32) (p1 : Int32), m_X0_span p0 p1 = some res → ∀ (H : Heap) (locs : List Loc), va_P (dC, dI) vwCl [] H → va_D A [] → va_S A s.heap H locs → ∀ (ls : Array Slot), lv_has ls 2 [(0, .int p0), (1, .int p1)] → W p l e rm_X0_span s m args below meth c H locs 0 0 Q (F0 m 0 ls []) := by
  obtain ⟨⟨hx, hb, hml, hown, hts⟩, hr, hlocks⟩ := id C0
  intro p0 p1 hm H locs hP hD hS ls hl
  have hm : (gz 2 (some (((p1 * (p1 - 1)) / 2) + p0))) = some res := hm
  refine lv_iload_n hx hb dX0_span_0 rfl (lv_at hl 1 rfl) ?_
  refine lv_iload_n hx hb dX0_span_1 rfl (lv_at hl 1 rfl) ?_
  refine lv_iconst (v := 1) hx hb dX0_span_2 (by decide) ?_
  refine lv_isub hx hb dX0_span_3 ?_
  refine lv_imul hx hb dX0_span_4 ?_
  refine lv_iconst (v := 2) hx hb dX0_span_5 (by decide) ?_
  obtain ⟨hz_1, hm⟩ := gz_some hm
  refine lv_idiv hx hb dX0_span_6 hz_1 ?_
  refine lv_iload_n hx hb dX0_span_7 rfl (lv_at hl 0 rfl) ?_
  refine lv_iadd hx hb dX0_span_8 ?_
  exact RET (((p1 * (p1 - 1)) / 2) + p0) hm _ H locs ls dX0_span_9 hP hD hS
set_option maxHeartbeats 4000000 in
set_option maxRecDepth 100000 in
theorem c_X0_span (l : Launch) (dC : Nat → ClassId) (dI : Nat → Nat → Nat) (cI cJ cB cZ : ClassId) (sz : Nat) (p0 : Int32) (p1 : Int32) (res : Int32) (hm : m_X0_span p0 p1 = some res) : Met l yX0_span wsX0_span rm_X0_span (cP (dC, dI) vwCl [(cI, .int), (cJ, .long), (cB, .byte), (cZ, .boolean)] [.int p0, .int p1] [] sz) (cQi res (dC, dI) vwCl [] [] sz) 0 0 (va_A [] sz) := by
  refine cx_of (cc := cX0_span) (maxL := 2) (ret := (some .int)) (own := RX0) (by decide) rfl rfl (Nat.le_of_ble_eq_true rfl) ?_
  intro p e s m below meth c A C0 hinN hK hN hsz hAe hA hP hD hS ls hl
  refine k_X0_span_E C0 hK hN hA  res ?_ p0 p1 hm _ _ hP hD hS ls hl
  intro v he pc H locs ls hdg hP hD hS
  have he := Option.some.inj he
  subst he
  exact cx_reti C0 hsz hAe hdg hP hD hS

set_option maxRecDepth 20000 in
theorem ggX0_all_X0_span : GoodIn wsX0_all wsX0_span := goodIn_r _ [5] (by decide +kernel) (by decide +kernel)
set_option maxRecDepth 20000 in
theorem gX0_all_X0_span : GoodIn wsX0_all (va_wsS RX0 42 yX0_span wsX0_span) := goodIn_app (goodIn_of _ (by decide +kernel)) ggX0_all_X0_span
theorem dX0_all_0 : decode cX0_all 0 = .ok (.aload_n 0, 1) := by decide +kernel
theorem dX0_all_1 : decode cX0_all 1 = .ok (.getfield 19, 3) := by decide +kernel
theorem dX0_all_4 : decode cX0_all 4 = .ok (.iload_n 1, 1) := by decide +kernel
theorem dX0_all_5 : decode cX0_all 5 = .ok (.iload_n 2, 1) := by decide +kernel
theorem dX0_all_6 : decode cX0_all 6 = .ok (.invokestatic 42, 3) := by decide +kernel
theorem dX0_all_9 : decode cX0_all 9 = .ok (.iaload, 1) := by decide +kernel
theorem dX0_all_10 : decode cX0_all 10 = .ok (.ireturn, 1) := by decide +kernel
/-! MixfixDesk$Chart.all(II)I -/
abbrev rm_X0_all : Room := { frames := 1, cells := 0, slots := 0, locals := 21 }
theorem X0_all_inX0 : ∀ w ∈ wsX00, w ∈ wsX0_all := by decide +kernel
abbrev RT_X0_all (p : Program) (l : Launch) (e : Env) (s : State) (m : MethodId) (args : Array Value) (below : List Frame) (meth : Method) (c : Code) (Q : State → Prop) (dC : Nat → ClassId) (dI : Nat → Nat → Nat) (cI cJ cB cZ : ClassId) (A : Nat → Prop) (aC : Nat → Nat) (xC_rules : Nat) (gC_all : Nat) (gC_topped : Nat) (gC_firsts : Nat) (gC_ways : Nat) (C_size : Int32) (C_operators : Int32) (n_C_all : Nat) (C_all : Nat → Int32) (res : Int32) : Prop := ∀ (v : Int32) , some v = some res → ∀ (pc : Nat) (H : Heap) (locs : List Loc) (ls : Array Slot), decode cX0_all pc = .ok (.ireturn, 1) → va_P (dC, dI) vwCl [((aC 0), .inr (0, [.ref xC_rules, .ref (aC 2), .ref (aC 3), .ref gC_all, .ref gC_topped, .ref gC_firsts, .ref gC_ways, .int C_size, .int C_operators])), (gC_all, .inl (cI, n_C_all, .inl C_all))] H → va_D A [((aC 0), .inr (0, [.ref xC_rules, .ref (aC 2), .ref (aC 3), .ref gC_all, .ref gC_topped, .ref gC_firsts, .ref gC_ways, .int C_size, .int C_operators])), (gC_all, .inl (cI, n_C_all, .inl C_all))] → va_S A s.heap H locs → W p l e rm_X0_all s m args below meth c H locs 0 0 Q (F0 m pc ls [.int v])
set_option maxHeartbeats 4000000 in
set_option maxRecDepth 100000 in
theorem k_X0_all_E {p : Program} {l : Launch} {e : Env} {s : State} {m : MethodId} {args : Array Value} {below : List Frame} {meth : Method} {c : Code} {Q : State → Prop} {dC : Nat → ClassId} {dI : Nat → Nat → Nat} {cI cJ cB cZ : ClassId} {A : Nat → Prop} (C0 : Cx p s m meth c args cX0_all 3 (some .int) wsX0_all RX0) (hK : va_K (dC, dI) vwCl [(cI, .int), (cJ, .long), (cB, .byte), (cZ, .boolean)] s) (hN : NW s) (hA : ∀ q, s.heap.size ≤ q → A q) (aC : Nat → Nat) (xC_rules : Nat) (gC_all : Nat) (gC_topped : Nat) (gC_firsts : Nat) (gC_ways : Nat) (C_size : Int32) (C_operators : Int32) (n_C_all : Nat) (C_all : Nat → Int32) (res : Int32) (RET : RT_X0_all p l e s m args below meth c Q dC dI cI cJ cB cZ A aC xC_rules gC_all gC_topped gC_firsts gC_ways C_size C_operators n_C_all C_all res) : ∀ (p0 : Int32) (p1 : Int32), m_X0_all n_C_all C_all p0 p1 = some res → ∀ (H : Heap) (locs : List Loc), va_P (dC, dI) vwCl [((aC 0), .inr (0, [.ref xC_rules, .ref (aC 2), .ref (aC 3), .ref gC_all, .ref gC_topped, .ref gC_firsts, .ref gC_ways, .int C_size, .int C_operators])), (gC_all, .inl (cI, n_C_all, .inl C_all))] H → va_D A [((aC 0), .inr (0, [.ref xC_rules, .ref (aC 2), .ref (aC 3), .ref gC_all, .ref gC_topped, .ref gC_firsts, .ref gC_ways, .int C_size, .int C_operators])), (gC_all, .inl (cI, n_C_all, .inl C_all))] → va_S A s.heap H locs → ∀ (ls : Array Slot), lv_has ls 3 [(0, .ref (aC 0)), (1, .int p0), (2, .int p1)] → W p l e rm_X0_all s m args below meth c H locs 0 0 Q (F0 m 0 ls []) := by
  obtain ⟨⟨hx, hb, hml, hown, hts⟩, hr, hlocks⟩ := id C0
  intro p0 p1 hm H locs hP hD hS ls hl
  have hm : (Option.bind (m_X0_span p0 p1) (fun r_1 => gd r_1 n_C_all (some (C_all r_1.toNatClampNeg)))) = some res := hm
  refine lv_aload_n hx hb dX0_all_0 rfl (lv_at hl 0 rfl) ?_
  refine va_get (D := (dC, dI)) (ci := 0) (v := .ref gC_all) (C := RX0) (T := TX0) (N := 9) hx hb hts X0_all_inX0 hown hK hP 0 rfl rfl 3 (by decide) (hts (.fieldLink RX0 19 "MixfixDesk$Chart" "all" "[I") (by decide +kernel)) (fun _ h9 => h9) rfl dX0_all_1 ?_
  refine lv_iload_n hx hb dX0_all_4 rfl (lv_at hl 1 rfl) ?_
  refine lv_iload_n hx hb dX0_all_5 rfl (lv_at hl 2 rfl) ?_
  obtain ⟨r_1, hc_2, hm⟩ := ob_some hm
  refine cx_i (wr := [((aC 0), .inr (0, [.ref xC_rules, .ref (aC 2), .ref (aC 3), .ref gC_all, .ref gC_topped, .ref gC_firsts, .ref gC_ways, .int C_size, .int C_operators])), (gC_all, .inl (cI, n_C_all, .inl C_all))]) (va_runS (As := [.int p0, .int p1]) (rest := [.ref gC_all]) C0.1 (c_X0_span l dC dI cI cJ cB cZ H.size p0 p1 r_1 hc_2) (va_cwS 2 hts gX0_all_X0_span rfl rfl rfl (by decide +kernel) ⟨Nat.le_of_ble_eq_true rfl, Nat.le_of_ble_eq_true rfl⟩) (cP_S hK hN hP hD [] (by decide) rfl) rfl rfl hl.1 rfl (lv_room (Nat.le_of_ble_eq_true rfl)) dX0_all_6 ⟨Nat.le_of_ble_eq_true rfl, Nat.le_of_ble_eq_true rfl⟩) hP hD hS hA [] [0, 1] rfl rfl (by decide) (by decide) (fun H locs hP hD hS => ?_)
  have hP : va_P (dC, dI) vwCl [((aC 0), .inr (0, [.ref xC_rules, .ref (aC 2), .ref (aC 3), .ref gC_all, .ref gC_topped, .ref gC_firsts, .ref gC_ways, .int C_size, .int C_operators])), (gC_all, .inl (cI, n_C_all, .inl C_all))] H := hP
  have hD : va_D A [((aC 0), .inr (0, [.ref xC_rules, .ref (aC 2), .ref (aC 3), .ref gC_all, .ref gC_topped, .ref gC_firsts, .ref gC_ways, .int C_size, .int C_operators])), (gC_all, .inl (cI, n_C_all, .inl C_all))] := hD
  obtain ⟨hi_3, hm⟩ := gd_some hm
  refine va_iald (D := (dC, dI)) hx hb hK hP 1 0 rfl rfl hi_3 dX0_all_9 ?_
  exact RET (C_all r_1.toNatClampNeg) hm _ H locs ls dX0_all_10 hP hD hS
set_option maxHeartbeats 4000000 in
set_option maxRecDepth 100000 in
theorem c_X0_all (l : Launch) (dC : Nat → ClassId) (dI : Nat → Nat → Nat) (cI cJ cB cZ : ClassId) (aC : Nat → Nat) (xC_rules : Nat) (gC_all : Nat) (gC_topped : Nat) (gC_firsts : Nat) (gC_ways : Nat) (sz : Nat) (C_size : Int32) (C_operators : Int32) (n_C_all : Nat) (C_all : Nat → Int32) (p0 : Int32) (p1 : Int32) (res : Int32) (hm : m_X0_all n_C_all C_all p0 p1 = some res) : Met l yX0_all wsX0_all rm_X0_all (cP (dC, dI) vwCl [(cI, .int), (cJ, .long), (cB, .byte), (cZ, .boolean)] [.ref (aC 0), .int p0, .int p1] [((aC 0), .inr (0, [.ref xC_rules, .ref (aC 2), .ref (aC 3), .ref gC_all, .ref gC_topped, .ref gC_firsts, .ref gC_ways, .int C_size, .int C_operators])), (gC_all, .inl (cI, n_C_all, .inl C_all))] sz) (cQi res (dC, dI) vwCl [((aC 0), .inr (0, [.ref xC_rules, .ref (aC 2), .ref (aC 3), .ref gC_all, .ref gC_topped, .ref gC_firsts, .ref gC_ways, .int C_size, .int C_operators])), (gC_all, .inl (cI, n_C_all, .inl C_all))] [((aC 0), .inr (0, [.ref xC_rules, .ref (aC 2), .ref (aC 3), .ref gC_all, .ref gC_topped, .ref gC_firsts, .ref gC_ways, .int C_size, .int C_operators])), (gC_all, .inl (cI, n_C_all, .inl C_all))] sz) 0 0 (va_A [((aC 0), .inr (0, [.ref xC_rules, .ref (aC 2), .ref (aC 3), .ref gC_all, .ref gC_topped, .ref gC_firsts, .ref gC_ways, .int C_size, .int C_operators])), (gC_all, .inl (cI, n_C_all, .inl C_all))] sz) := by
  refine cx_of (cc := cX0_all) (maxL := 3) (ret := (some .int)) (own := RX0) (by decide) rfl rfl (Nat.le_of_ble_eq_true rfl) ?_
  intro p e s m below meth c A C0 hinN hK hN hsz hAe hA hP hD hS ls hl
  refine k_X0_all_E C0 hK hN hA aC xC_rules gC_all gC_topped gC_firsts gC_ways C_size C_operators n_C_all C_all res ?_ p0 p1 hm _ _ hP hD hS ls hl
  intro v he pc H locs ls hdg hP hD hS
  have he := Option.some.inj he
  subst he
  exact cx_reti C0 hsz hAe hdg hP hD hS

theorem dX0_atoms_0 : decode cX0_atoms 0 = .ok (.iload_n 2, 1) := by decide +kernel
theorem dX0_atoms_1 : decode cX0_atoms 1 = .ok (.iload_n 1, 1) := by decide +kernel
theorem dX0_atoms_2 : decode cX0_atoms 2 = .ok (.isub, 1) := by decide +kernel
theorem dX0_atoms_3 : decode cX0_atoms 3 = .ok (.iconst 1, 1) := by decide +kernel
theorem dX0_atoms_4 : decode cX0_atoms 4 = .ok (.if_icmp .ne 12, 3) := by decide +kernel
theorem dX0_atoms_7 : decode cX0_atoms 7 = .ok (.aload_n 0, 1) := by decide +kernel
theorem dX0_atoms_8 : decode cX0_atoms 8 = .ok (.getfield 15, 3) := by decide +kernel
theorem dX0_atoms_11 : decode cX0_atoms 11 = .ok (.iload_n 1, 1) := by decide +kernel
theorem dX0_atoms_12 : decode cX0_atoms 12 = .ok (.iaload, 1) := by decide +kernel
theorem dX0_atoms_13 : decode cX0_atoms 13 = .ok (.goto 4, 3) := by decide +kernel
theorem dX0_atoms_16 : decode cX0_atoms 16 = .ok (.iconst 0, 1) := by decide +kernel
theorem dX0_atoms_17 : decode cX0_atoms 17 = .ok (.ireturn, 1) := by decide +kernel
/-! MixfixDesk$Chart.atoms(II)I -/
abbrev rm_X0_atoms : Room := { frames := 0, cells := 0, slots := 0, locals := 0 }
theorem X0_atoms_inX0 : ∀ w ∈ wsX00, w ∈ wsX0_atoms := by decide +kernel
abbrev RT_X0_atoms (p : Program) (l : Launch) (e : Env) (s : State) (m : MethodId) (args : Array Value) (below : List Frame) (meth : Method) (c : Code) (Q : State → Prop) (dC : Nat → ClassId) (dI : Nat → Nat → Nat) (cI cJ cB cZ : ClassId) (A : Nat → Prop) (aC : Nat → Nat) (xC_rules : Nat) (gC_all : Nat) (gC_topped : Nat) (gC_firsts : Nat) (gC_ways : Nat) (C_size : Int32) (C_operators : Int32) (C_atom : Nat → Int32) (res : Int32) : Prop := ∀ (v : Int32) , some v = some res → ∀ (pc : Nat) (H : Heap) (locs : List Loc) (ls : Array Slot), decode cX0_atoms pc = .ok (.ireturn, 1) → va_P (dC, dI) vwCl [((aC 0), .inr (0, [.ref xC_rules, .ref (aC 2), .ref (aC 3), .ref gC_all, .ref gC_topped, .ref gC_firsts, .ref gC_ways, .int C_size, .int C_operators])), ((aC 3), .inl (cI, 40, .inl C_atom))] H → va_D A [((aC 0), .inr (0, [.ref xC_rules, .ref (aC 2), .ref (aC 3), .ref gC_all, .ref gC_topped, .ref gC_firsts, .ref gC_ways, .int C_size, .int C_operators])), ((aC 3), .inl (cI, 40, .inl C_atom))] → va_S A s.heap H locs → W p l e rm_X0_atoms s m args below meth c H locs 0 0 Q (F0 m pc ls [.int v])
set_option maxHeartbeats 4000000 in
set_option maxRecDepth 100000 in
theorem k_X0_atoms_E {p : Program} {l : Launch} {e : Env} {s : State} {m : MethodId} {args : Array Value} {below : List Frame} {meth : Method} {c : Code} {Q : State → Prop} {dC : Nat → ClassId} {dI : Nat → Nat → Nat} {cI cJ cB cZ : ClassId} {A : Nat → Prop} (C0 : Cx p s m meth c args cX0_atoms 3 (some .int) wsX0_atoms RX0) (hK : va_K (dC, dI) vwCl [(cI, .int), (cJ, .long), (cB, .byte), (cZ, .boolean)] s) (hN : NW s) (hA : ∀ q, s.heap.size ≤ q → A q) (aC : Nat → Nat) (xC_rules : Nat) (gC_all : Nat) (gC_topped : Nat) (gC_firsts : Nat) (gC_ways : Nat) (C_size : Int32) (C_operators : Int32) (C_atom : Nat → Int32) (res : Int32) (RET : RT_X0_atoms p l e s m args below meth c Q dC dI cI cJ cB cZ A aC xC_rules gC_all gC_topped gC_firsts gC_ways C_size C_operators C_atom res) : ∀ (p0 : Int32) (p1 : Int32), m_X0_atoms C_atom p0 p1 = some res → ∀ (H : Heap) (locs : List Loc), va_P (dC, dI) vwCl [((aC 0), .inr (0, [.ref xC_rules, .ref (aC 2), .ref (aC 3), .ref gC_all, .ref gC_topped, .ref gC_firsts, .ref gC_ways, .int C_size, .int C_operators])), ((aC 3), .inl (cI, 40, .inl C_atom))] H → va_D A [((aC 0), .inr (0, [.ref xC_rules, .ref (aC 2), .ref (aC 3), .ref gC_all, .ref gC_topped, .ref gC_firsts, .ref gC_ways, .int C_size, .int C_operators])), ((aC 3), .inl (cI, 40, .inl C_atom))] → va_S A s.heap H locs → ∀ (ls : Array Slot), lv_has ls 3 [(0, .ref (aC 0)), (1, .int p0), (2, .int p1)] → W p l e rm_X0_atoms s m args below meth c H locs 0 0 Q (F0 m 0 ls []) := by
  obtain ⟨⟨hx, hb, hml, hown, hts⟩, hr, hlocks⟩ := id C0
  intro p0 p1 hm H locs hP hD hS ls hl
  have hm : (if (p1 - p0) = 1 then (gd p0 40 (some (C_atom p0.toNatClampNeg))) else (some 0)) = some res := hm
  refine lv_iload_n hx hb dX0_atoms_0 rfl (lv_at hl 2 rfl) ?_
  refine lv_iload_n hx hb dX0_atoms_1 rfl (lv_at hl 1 rfl) ?_
  refine lv_isub hx hb dX0_atoms_2 ?_
  refine lv_iconst (v := 1) hx hb dX0_atoms_3 (by decide) ?_
  refine lv_icmp_ne (tgt := 16) hx hb dX0_atoms_4 (by decide) (fun c_1 => ?_) (fun c_1 => ?_)
  · have hm := if_some' c_1 hm
    refine lv_iconst (v := 0) hx hb dX0_atoms_16 (by decide) ?_
    exact RET 0 hm _ H locs ls dX0_atoms_17 hP hD hS
  · have hm := it_some c_1 hm
    refine lv_aload_n hx hb dX0_atoms_7 rfl (lv_at hl 0 rfl) ?_
    refine va_get (D := (dC, dI)) (ci := 0) (v := .ref (aC 3)) (C := RX0) (T := TX0) (N := 9) hx hb hts X0_atoms_inX0 hown hK hP 0 rfl rfl 2 (by decide) (hts (.fieldLink RX0 15 "MixfixDesk$Chart" "atom" "[I") (by decide +kernel)) (fun _ h9 => h9) rfl dX0_atoms_8 ?_
    refine lv_iload_n hx hb dX0_atoms_11 rfl (lv_at hl 1 rfl) ?_
    obtain ⟨hi_2, hm⟩ := gd_some hm
    refine va_iald (D := (dC, dI)) hx hb hK hP 1 0 rfl rfl hi_2 dX0_atoms_12 ?_
    refine lv_goto (tgt := 17) hx hb dX0_atoms_13 (by decide) ?_
    exact RET (C_atom p0.toNatClampNeg) hm _ H locs ls dX0_atoms_17 hP hD hS
set_option maxHeartbeats 4000000 in
set_option maxRecDepth 100000 in
theorem c_X0_atoms (l : Launch) (dC : Nat → ClassId) (dI : Nat → Nat → Nat) (cI cJ cB cZ : ClassId) (aC : Nat → Nat) (xC_rules : Nat) (gC_all : Nat) (gC_topped : Nat) (gC_firsts : Nat) (gC_ways : Nat) (sz : Nat) (C_size : Int32) (C_operators : Int32) (C_atom : Nat → Int32) (p0 : Int32) (p1 : Int32) (res : Int32) (hm : m_X0_atoms C_atom p0 p1 = some res) : Met l yX0_atoms wsX0_atoms rm_X0_atoms (cP (dC, dI) vwCl [(cI, .int), (cJ, .long), (cB, .byte), (cZ, .boolean)] [.ref (aC 0), .int p0, .int p1] [((aC 0), .inr (0, [.ref xC_rules, .ref (aC 2), .ref (aC 3), .ref gC_all, .ref gC_topped, .ref gC_firsts, .ref gC_ways, .int C_size, .int C_operators])), ((aC 3), .inl (cI, 40, .inl C_atom))] sz) (cQi res (dC, dI) vwCl [((aC 0), .inr (0, [.ref xC_rules, .ref (aC 2), .ref (aC 3), .ref gC_all, .ref gC_topped, .ref gC_firsts, .ref gC_ways, .int C_size, .int C_operators])), ((aC 3), .inl (cI, 40, .inl C_atom))] [((aC 0), .inr (0, [.ref xC_rules, .ref (aC 2), .ref (aC 3), .ref gC_all, .ref gC_topped, .ref gC_firsts, .ref gC_ways, .int C_size, .int C_operators])), ((aC 3), .inl (cI, 40, .inl C_atom))] sz) 0 0 (va_A [((aC 0), .inr (0, [.ref xC_rules, .ref (aC 2), .ref (aC 3), .ref gC_all, .ref gC_topped, .ref gC_firsts, .ref gC_ways, .int C_size, .int C_operators])), ((aC 3), .inl (cI, 40, .inl C_atom))] sz) := by
  refine cx_of (cc := cX0_atoms) (maxL := 3) (ret := (some .int)) (own := RX0) (by decide) rfl rfl (Nat.le_of_ble_eq_true rfl) ?_
  intro p e s m below meth c A C0 hinN hK hN hsz hAe hA hP hD hS ls hl
  refine k_X0_atoms_E C0 hK hN hA aC xC_rules gC_all gC_topped gC_firsts gC_ways C_size C_operators C_atom res ?_ p0 p1 hm _ _ hP hD hS ls hl
  intro v he pc H locs ls hdg hP hD hS
  have he := Option.some.inj he
  subst he
  exact cx_reti C0 hsz hAe hdg hP hD hS

set_option maxRecDepth 20000 in
theorem ggX0_topped_X0_span : GoodIn wsX0_topped wsX0_span := goodIn_r _ [6] (by decide +kernel) (by decide +kernel)
set_option maxRecDepth 20000 in
theorem gX0_topped_X0_span : GoodIn wsX0_topped (va_wsS RX0 42 yX0_span wsX0_span) := goodIn_app (goodIn_of _ (by decide +kernel)) ggX0_topped_X0_span
theorem dX0_topped_0 : decode cX0_topped 0 = .ok (.aload_n 0, 1) := by decide +kernel
theorem dX0_topped_1 : decode cX0_topped 1 = .ok (.getfield 22, 3) := by decide +kernel
theorem dX0_topped_4 : decode cX0_topped 4 = .ok (.iload_n 2, 1) := by decide +kernel
theorem dX0_topped_5 : decode cX0_topped 5 = .ok (.iload_n 3, 1) := by decide +kernel
theorem dX0_topped_6 : decode cX0_topped 6 = .ok (.invokestatic 42, 3) := by decide +kernel
theorem dX0_topped_9 : decode cX0_topped 9 = .ok (.aload_n 0, 1) := by decide +kernel
theorem dX0_topped_10 : decode cX0_topped 10 = .ok (.getfield 35, 3) := by decide +kernel
theorem dX0_topped_13 : decode cX0_topped 13 = .ok (.imul, 1) := by decide +kernel
theorem dX0_topped_14 : decode cX0_topped 14 = .ok (.iload_n 1, 1) := by decide +kernel
theorem dX0_topped_15 : decode cX0_topped 15 = .ok (.iadd, 1) := by decide +kernel
theorem dX0_topped_16 : decode cX0_topped 16 = .ok (.iaload, 1) := by decide +kernel
theorem dX0_topped_17 : decode cX0_topped 17 = .ok (.ireturn, 1) := by decide +kernel
/-! MixfixDesk$Chart.topped(III)I -/
abbrev rm_X0_topped : Room := { frames := 1, cells := 0, slots := 0, locals := 21 }
theorem X0_topped_inX0 : ∀ w ∈ wsX00, w ∈ wsX0_topped := by decide +kernel
abbrev RT_X0_topped (p : Program) (l : Launch) (e : Env) (s : State) (m : MethodId) (args : Array Value) (below : List Frame) (meth : Method) (c : Code) (Q : State → Prop) (dC : Nat → ClassId) (dI : Nat → Nat → Nat) (cI cJ cB cZ : ClassId) (A : Nat → Prop) (aC : Nat → Nat) (xC_rules : Nat) (gC_all : Nat) (gC_topped : Nat) (gC_firsts : Nat) (gC_ways : Nat) (C_size : Int32) (C_operators : Int32) (n_C_topped : Nat) (C_topped : Nat → Int32) (res : Int32) : Prop := ∀ (v : Int32) , some v = some res → ∀ (pc : Nat) (H : Heap) (locs : List Loc) (ls : Array Slot), decode cX0_topped pc = .ok (.ireturn, 1) → va_P (dC, dI) vwCl [((aC 0), .inr (0, [.ref xC_rules, .ref (aC 2), .ref (aC 3), .ref gC_all, .ref gC_topped, .ref gC_firsts, .ref gC_ways, .int C_size, .int C_operators])), (gC_topped, .inl (cI, n_C_topped, .inl C_topped))] H → va_D A [((aC 0), .inr (0, [.ref xC_rules, .ref (aC 2), .ref (aC 3), .ref gC_all, .ref gC_topped, .ref gC_firsts, .ref gC_ways, .int C_size, .int C_operators])), (gC_topped, .inl (cI, n_C_topped, .inl C_topped))] → va_S A s.heap H locs → W p l e rm_X0_topped s m args below meth c H locs 0 0 Q (F0 m pc ls [.int v])
set_option maxHeartbeats 4000000 in
set_option maxRecDepth 100000 in
theorem k_X0_topped_E {p : Program} {l : Launch} {e : Env} {s : State} {m : MethodId} {args : Array Value} {below : List Frame} {meth : Method} {c : Code} {Q : State → Prop} {dC : Nat → ClassId} {dI : Nat → Nat → Nat} {cI cJ cB cZ : ClassId} {A : Nat → Prop} (C0 : Cx p s m meth c args cX0_topped 4 (some .int) wsX0_topped RX0) (hK : va_K (dC, dI) vwCl [(cI, .int), (cJ, .long), (cB, .byte), (cZ, .boolean)] s) (hN : NW s) (hA : ∀ q, s.heap.size ≤ q → A q) (aC : Nat → Nat) (xC_rules : Nat) (gC_all : Nat) (gC_topped : Nat) (gC_firsts : Nat) (gC_ways : Nat) (C_size : Int32) (C_operators : Int32) (n_C_topped : Nat) (C_topped : Nat → Int32) (res : Int32) (RET : RT_X0_topped p l e s m args below meth c Q dC dI cI cJ cB cZ A aC xC_rules gC_all gC_topped gC_firsts gC_ways C_size C_operators n_C_topped C_topped res) : ∀ (p0 : Int32) (p1 : Int32) (p2 : Int32), m_X0_topped n_C_topped C_topped C_operators p0 p1 p2 = some res → ∀ (H : Heap) (locs : List Loc), va_P (dC, dI) vwCl [((aC 0), .inr (0, [.ref xC_rules, .ref (aC 2), .ref (aC 3), .ref gC_all, .ref gC_topped, .ref gC_firsts, .ref gC_ways, .int C_size, .int C_operators])), (gC_topped, .inl (cI, n_C_topped, .inl C_topped))] H → va_D A [((aC 0), .inr (0, [.ref xC_rules, .ref (aC 2), .ref (aC 3), .ref gC_all, .ref gC_topped, .ref gC_firsts, .ref gC_ways, .int C_size, .int C_operators])), (gC_topped, .inl (cI, n_C_topped, .inl C_topped))] → va_S A s.heap H locs → ∀ (ls : Array Slot), lv_has ls 4 [(0, .ref (aC 0)), (1, .int p0), (2, .int p1), (3, .int p2)] → W p l e rm_X0_topped s m args below meth c H locs 0 0 Q (F0 m 0 ls []) := by
  obtain ⟨⟨hx, hb, hml, hown, hts⟩, hr, hlocks⟩ := id C0
  intro p0 p1 p2 hm H locs hP hD hS ls hl
  have hm : (Option.bind (m_X0_span p1 p2) (fun r_1 => gd ((r_1 * C_operators) + p0) n_C_topped (some (C_topped ((r_1 * C_operators) + p0).toNatClampNeg)))) = some res := hm
  refine lv_aload_n hx hb dX0_topped_0 rfl (lv_at hl 0 rfl) ?_
  refine va_get (D := (dC, dI)) (ci := 0) (v := .ref gC_topped) (C := RX0) (T := TX0) (N := 9) hx hb hts X0_topped_inX0 hown hK hP 0 rfl rfl 4 (by decide) (hts (.fieldLink RX0 22 "MixfixDesk$Chart" "topped" "[I") (by decide +kernel)) (fun _ h9 => h9) rfl dX0_topped_1 ?_
  refine lv_iload_n hx hb dX0_topped_4 rfl (lv_at hl 2 rfl) ?_
  refine lv_iload_n hx hb dX0_topped_5 rfl (lv_at hl 3 rfl) ?_
  obtain ⟨r_1, hc_2, hm⟩ := ob_some hm
  refine cx_i (wr := [((aC 0), .inr (0, [.ref xC_rules, .ref (aC 2), .ref (aC 3), .ref gC_all, .ref gC_topped, .ref gC_firsts, .ref gC_ways, .int C_size, .int C_operators])), (gC_topped, .inl (cI, n_C_topped, .inl C_topped))]) (va_runS (As := [.int p1, .int p2]) (rest := [.ref gC_topped]) C0.1 (c_X0_span l dC dI cI cJ cB cZ H.size p1 p2 r_1 hc_2) (va_cwS 2 hts gX0_topped_X0_span rfl rfl rfl (by decide +kernel) ⟨Nat.le_of_ble_eq_true rfl, Nat.le_of_ble_eq_true rfl⟩) (cP_S hK hN hP hD [] (by decide) rfl) rfl rfl hl.1 rfl (lv_room (Nat.le_of_ble_eq_true rfl)) dX0_topped_6 ⟨Nat.le_of_ble_eq_true rfl, Nat.le_of_ble_eq_true rfl⟩) hP hD hS hA [] [0, 1] rfl rfl (by decide) (by decide) (fun H locs hP hD hS => ?_)
  have hP : va_P (dC, dI) vwCl [((aC 0), .inr (0, [.ref xC_rules, .ref (aC 2), .ref (aC 3), .ref gC_all, .ref gC_topped, .ref gC_firsts, .ref gC_ways, .int C_size, .int C_operators])), (gC_topped, .inl (cI, n_C_topped, .inl C_topped))] H := hP
  have hD : va_D A [((aC 0), .inr (0, [.ref xC_rules, .ref (aC 2), .ref (aC 3), .ref gC_all, .ref gC_topped, .ref gC_firsts, .ref gC_ways, .int C_size, .int C_operators])), (gC_topped, .inl (cI, n_C_topped, .inl C_topped))] := hD
  refine lv_aload_n hx hb dX0_topped_9 rfl (lv_at hl 0 rfl) ?_
  refine va_get (D := (dC, dI)) (ci := 0) (v := .int C_operators) (C := RX0) (T := TX0) (N := 9) hx hb hts X0_topped_inX0 hown hK hP 0 rfl rfl 8 (by decide) (hts (.fieldLink RX0 35 "MixfixDesk$Chart" "operators" "I") (by decide +kernel)) (fun _ h9 => h9) rfl dX0_topped_10 ?_
  refine lv_imul hx hb dX0_topped_13 ?_
  refine lv_iload_n hx hb dX0_topped_14 rfl (lv_at hl 1 rfl) ?_
  refine lv_iadd hx hb dX0_topped_15 ?_
  obtain ⟨hi_3, hm⟩ := gd_some hm
  refine va_iald (D := (dC, dI)) hx hb hK hP 1 0 rfl rfl hi_3 dX0_topped_16 ?_
  exact RET (C_topped ((r_1 * C_operators) + p0).toNatClampNeg) hm _ H locs ls dX0_topped_17 hP hD hS
set_option maxHeartbeats 4000000 in
set_option maxRecDepth 100000 in
theorem c_X0_topped (l : Launch) (dC : Nat → ClassId) (dI : Nat → Nat → Nat) (cI cJ cB cZ : ClassId) (aC : Nat → Nat) (xC_rules : Nat) (gC_all : Nat) (gC_topped : Nat) (gC_firsts : Nat) (gC_ways : Nat) (sz : Nat) (C_size : Int32) (C_operators : Int32) (n_C_topped : Nat) (C_topped : Nat → Int32) (p0 : Int32) (p1 : Int32) (p2 : Int32) (res : Int32) (hm : m_X0_topped n_C_topped C_topped C_operators p0 p1 p2 = some res) : Met l yX0_topped wsX0_topped rm_X0_topped (cP (dC, dI) vwCl [(cI, .int), (cJ, .long), (cB, .byte), (cZ, .boolean)] [.ref (aC 0), .int p0, .int p1, .int p2] [((aC 0), .inr (0, [.ref xC_rules, .ref (aC 2), .ref (aC 3), .ref gC_all, .ref gC_topped, .ref gC_firsts, .ref gC_ways, .int C_size, .int C_operators])), (gC_topped, .inl (cI, n_C_topped, .inl C_topped))] sz) (cQi res (dC, dI) vwCl [((aC 0), .inr (0, [.ref xC_rules, .ref (aC 2), .ref (aC 3), .ref gC_all, .ref gC_topped, .ref gC_firsts, .ref gC_ways, .int C_size, .int C_operators])), (gC_topped, .inl (cI, n_C_topped, .inl C_topped))] [((aC 0), .inr (0, [.ref xC_rules, .ref (aC 2), .ref (aC 3), .ref gC_all, .ref gC_topped, .ref gC_firsts, .ref gC_ways, .int C_size, .int C_operators])), (gC_topped, .inl (cI, n_C_topped, .inl C_topped))] sz) 0 0 (va_A [((aC 0), .inr (0, [.ref xC_rules, .ref (aC 2), .ref (aC 3), .ref gC_all, .ref gC_topped, .ref gC_firsts, .ref gC_ways, .int C_size, .int C_operators])), (gC_topped, .inl (cI, n_C_topped, .inl C_topped))] sz) := by
  refine cx_of (cc := cX0_topped) (maxL := 4) (ret := (some .int)) (own := RX0) (by decide) rfl rfl (Nat.le_of_ble_eq_true rfl) ?_
  intro p e s m below meth c A C0 hinN hK hN hsz hAe hA hP hD hS ls hl
  refine k_X0_topped_E C0 hK hN hA aC xC_rules gC_all gC_topped gC_firsts gC_ways C_size C_operators n_C_topped C_topped res ?_ p0 p1 p2 hm _ _ hP hD hS ls hl
  intro v he pc H locs ls hdg hP hD hS
  have he := Option.some.inj he
  subst he
  exact cx_reti C0 hsz hAe hdg hP hD hS

theorem dX0_way_0 : decode cX0_way 0 = .ok (.iload_n 1, 1) := by decide +kernel
theorem dX0_way_1 : decode cX0_way 1 = .ok (.bipush 10, 2) := by decide +kernel
theorem dX0_way_3 : decode cX0_way 3 = .ok (.imul, 1) := by decide +kernel
theorem dX0_way_4 : decode cX0_way 4 = .ok (.iload_n 2, 1) := by decide +kernel
theorem dX0_way_5 : decode cX0_way 5 = .ok (.iadd, 1) := by decide +kernel
theorem dX0_way_6 : decode cX0_way 6 = .ok (.aload_n 0, 1) := by decide +kernel
theorem dX0_way_7 : decode cX0_way 7 = .ok (.getfield 31, 3) := by decide +kernel
theorem dX0_way_10 : decode cX0_way 10 = .ok (.iconst 1, 1) := by decide +kernel
theorem dX0_way_11 : decode cX0_way 11 = .ok (.iadd, 1) := by decide +kernel
theorem dX0_way_12 : decode cX0_way 12 = .ok (.imul, 1) := by decide +kernel
theorem dX0_way_13 : decode cX0_way 13 = .ok (.iload_n 3, 1) := by decide +kernel
theorem dX0_way_14 : decode cX0_way 14 = .ok (.iadd, 1) := by decide +kernel
theorem dX0_way_15 : decode cX0_way 15 = .ok (.ireturn, 1) := by decide +kernel
/-! MixfixDesk$Chart.way(III)I -/
abbrev rm_X0_way : Room := { frames := 0, cells := 0, slots := 0, locals := 0 }
theorem X0_way_inX0 : ∀ w ∈ wsX00, w ∈ wsX0_way := by decide +kernel
abbrev RT_X0_way (p : Program) (l : Launch) (e : Env) (s : State) (m : MethodId) (args : Array Value) (below : List Frame) (meth : Method) (c : Code) (Q : State → Prop) (dC : Nat → ClassId) (dI : Nat → Nat → Nat) (cI cJ cB cZ : ClassId) (A : Nat → Prop) (aC : Nat → Nat) (xC_rules : Nat) (gC_all : Nat) (gC_topped : Nat) (gC_firsts : Nat) (gC_ways : Nat) (C_size : Int32) (C_operators : Int32) (res : Int32) : Prop := ∀ (v : Int32) , some v = some res → ∀ (pc : Nat) (H : Heap) (locs : List Loc) (ls : Array Slot), decode cX0_way pc = .ok (.ireturn, 1) → va_P (dC, dI) vwCl [((aC 0), .inr (0, [.ref xC_rules, .ref (aC 2), .ref (aC 3), .ref gC_all, .ref gC_topped, .ref gC_firsts, .ref gC_ways, .int C_size, .int C_operators]))] H → va_D A [((aC 0), .inr (0, [.ref xC_rules, .ref (aC 2), .ref (aC 3), .ref gC_all, .ref gC_topped, .ref gC_firsts, .ref gC_ways, .int C_size, .int C_operators]))] → va_S A s.heap H locs → W p l e rm_X0_way s m args below meth c H locs 0 0 Q (F0 m pc ls [.int v])
set_option maxHeartbeats 4000000 in
set_option maxRecDepth 100000 in
theorem k_X0_way_E {p : Program} {l : Launch} {e : Env} {s : State} {m : MethodId} {args : Array Value} {below : List Frame} {meth : Method} {c : Code} {Q : State → Prop} {dC : Nat → ClassId} {dI : Nat → Nat → Nat} {cI cJ cB cZ : ClassId} {A : Nat → Prop} (C0 : Cx p s m meth c args cX0_way 4 (some .int) wsX0_way RX0) (hK : va_K (dC, dI) vwCl [(cI, .int), (cJ, .long), (cB, .byte), (cZ, .boolean)] s) (hN : NW s) (hA : ∀ q, s.heap.size ≤ q → A q) (aC : Nat → Nat) (xC_rules : Nat) (gC_all : Nat) (gC_topped : Nat) (gC_firsts : Nat) (gC_ways : Nat) (C_size : Int32) (C_operators : Int32) (res : Int32) (RET : RT_X0_way p l e s m args below meth c Q dC dI cI cJ cB cZ A aC xC_rules gC_all gC_topped gC_firsts gC_ways C_size C_operators res) : ∀ (p0 : Int32) (p1 : Int32) (p2 : Int32), m_X0_way C_size p0 p1 p2 = some res → ∀ (H : Heap) (locs : List Loc), va_P (dC, dI) vwCl [((aC 0), .inr (0, [.ref xC_rules, .ref (aC 2), .ref (aC 3), .ref gC_all, .ref gC_topped, .ref gC_firsts, .ref gC_ways, .int C_size, .int C_operators]))] H → va_D A [((aC 0), .inr (0, [.ref xC_rules, .ref (aC 2), .ref (aC 3), .ref gC_all, .ref gC_topped, .ref gC_firsts, .ref gC_ways, .int C_size, .int C_operators]))] → va_S A s.heap H locs → ∀ (ls : Array Slot), lv_has ls 4 [(0, .ref (aC 0)), (1, .int p0), (2, .int p1), (3, .int p2)] → W p l e rm_X0_way s m args below meth c H locs 0 0 Q (F0 m 0 ls []) := by
  obtain ⟨⟨hx, hb, hml, hown, hts⟩, hr, hlocks⟩ := id C0
  intro p0 p1 p2 hm H locs hP hD hS ls hl
  have hm : (some ((((p0 * 10) + p1) * (C_size + 1)) + p2)) = some res := hm
  refine lv_iload_n hx hb dX0_way_0 rfl (lv_at hl 1 rfl) ?_
  refine lv_bipush (v := 10) hx hb dX0_way_1 (by decide) ?_
  refine lv_imul hx hb dX0_way_3 ?_
  refine lv_iload_n hx hb dX0_way_4 rfl (lv_at hl 2 rfl) ?_
  refine lv_iadd hx hb dX0_way_5 ?_
  refine lv_aload_n hx hb dX0_way_6 rfl (lv_at hl 0 rfl) ?_
  refine va_get (D := (dC, dI)) (ci := 0) (v := .int C_size) (C := RX0) (T := TX0) (N := 9) hx hb hts X0_way_inX0 hown hK hP 0 rfl rfl 7 (by decide) (hts (.fieldLink RX0 31 "MixfixDesk$Chart" "size" "I") (by decide +kernel)) (fun _ h9 => h9) rfl dX0_way_7 ?_
  refine lv_iconst (v := 1) hx hb dX0_way_10 (by decide) ?_
  refine lv_iadd hx hb dX0_way_11 ?_
  refine lv_imul hx hb dX0_way_12 ?_
  refine lv_iload_n hx hb dX0_way_13 rfl (lv_at hl 3 rfl) ?_
  refine lv_iadd hx hb dX0_way_14 ?_
  exact RET ((((p0 * 10) + p1) * (C_size + 1)) + p2) hm _ H locs ls dX0_way_15 hP hD hS
set_option maxHeartbeats 4000000 in
set_option maxRecDepth 100000 in
theorem c_X0_way (l : Launch) (dC : Nat → ClassId) (dI : Nat → Nat → Nat) (cI cJ cB cZ : ClassId) (aC : Nat → Nat) (xC_rules : Nat) (gC_all : Nat) (gC_topped : Nat) (gC_firsts : Nat) (gC_ways : Nat) (sz : Nat) (C_size : Int32) (C_operators : Int32) (p0 : Int32) (p1 : Int32) (p2 : Int32) (res : Int32) (hm : m_X0_way C_size p0 p1 p2 = some res) : Met l yX0_way wsX0_way rm_X0_way (cP (dC, dI) vwCl [(cI, .int), (cJ, .long), (cB, .byte), (cZ, .boolean)] [.ref (aC 0), .int p0, .int p1, .int p2] [((aC 0), .inr (0, [.ref xC_rules, .ref (aC 2), .ref (aC 3), .ref gC_all, .ref gC_topped, .ref gC_firsts, .ref gC_ways, .int C_size, .int C_operators]))] sz) (cQi res (dC, dI) vwCl [((aC 0), .inr (0, [.ref xC_rules, .ref (aC 2), .ref (aC 3), .ref gC_all, .ref gC_topped, .ref gC_firsts, .ref gC_ways, .int C_size, .int C_operators]))] [((aC 0), .inr (0, [.ref xC_rules, .ref (aC 2), .ref (aC 3), .ref gC_all, .ref gC_topped, .ref gC_firsts, .ref gC_ways, .int C_size, .int C_operators]))] sz) 0 0 (va_A [((aC 0), .inr (0, [.ref xC_rules, .ref (aC 2), .ref (aC 3), .ref gC_all, .ref gC_topped, .ref gC_firsts, .ref gC_ways, .int C_size, .int C_operators]))] sz) := by
  refine cx_of (cc := cX0_way) (maxL := 4) (ret := (some .int)) (own := RX0) (by decide) rfl rfl (Nat.le_of_ble_eq_true rfl) ?_
  intro p e s m below meth c A C0 hinN hK hN hsz hAe hA hP hD hS ls hl
  refine k_X0_way_E C0 hK hN hA aC xC_rules gC_all gC_topped gC_firsts gC_ways C_size C_operators res ?_ p0 p1 p2 hm _ _ hP hD hS ls hl
  intro v he pc H locs ls hdg hP hD hS
  have he := Option.some.inj he
  subst he
  exact cx_reti C0 hsz hAe hdg hP hD hS

set_option maxRecDepth 20000 in
theorem ggX0_openEnd_X4_size : GoodIn wsX0_openEnd wsX4_size := goodIn_r _ [7, 8, 24, 25, 26, 27, 28, 29, 30, 31, 32, 33] (by decide +kernel) (by decide +kernel)
set_option maxRecDepth 20000 in
theorem gX0_openEnd_X4_size : GoodIn wsX0_openEnd (wsV RX0 79 RX4 yX4_size wsX4_size) := goodIn_app (goodIn_of _ (by decide +kernel)) ggX0_openEnd_X4_size
set_option maxRecDepth 20000 in
theorem ggX0_openEnd_X0_way : GoodIn wsX0_openEnd wsX0_way := goodIn_r _ [13, 14, 15, 16, 17, 18, 19, 20, 21, 22, 23] (by decide +kernel) (by decide +kernel)
set_option maxRecDepth 20000 in
theorem gX0_openEnd_X0_way : GoodIn wsX0_openEnd (wsV RX0 82 RX0 yX0_way wsX0_way) := goodIn_app (goodIn_of _ (by decide +kernel)) ggX0_openEnd_X0_way
theorem dX0_openEnd_0 : decode cX0_openEnd 0 = .ok (.aload_n 0, 1) := by decide +kernel
theorem dX0_openEnd_1 : decode cX0_openEnd 1 = .ok (.getfield 38, 3) := by decide +kernel
theorem dX0_openEnd_4 : decode cX0_openEnd 4 = .ok (.iload_n 1, 1) := by decide +kernel
theorem dX0_openEnd_5 : decode cX0_openEnd 5 = .ok (.invokevirtual 79, 3) := by decide +kernel
theorem dX0_openEnd_8 : decode cX0_openEnd 8 = .ok (.istore_n 3, 1) := by decide +kernel
theorem dX0_openEnd_9 : decode cX0_openEnd 9 = .ok (.iconst 0, 1) := by decide +kernel
theorem dX0_openEnd_10 : decode cX0_openEnd 10 = .ok (.istore 4, 2) := by decide +kernel
theorem dX0_openEnd_12 : decode cX0_openEnd 12 = .ok (.iload 4, 2) := by decide +kernel
theorem dX0_openEnd_14 : decode cX0_openEnd 14 = .ok (.iload_n 3, 1) := by decide +kernel
theorem dX0_openEnd_15 : decode cX0_openEnd 15 = .ok (.if_icmp .ge 23, 3) := by decide +kernel
theorem dX0_openEnd_18 : decode cX0_openEnd 18 = .ok (.aload_n 0, 1) := by decide +kernel
theorem dX0_openEnd_19 : decode cX0_openEnd 19 = .ok (.getfield 28, 3) := by decide +kernel
theorem dX0_openEnd_22 : decode cX0_openEnd 22 = .ok (.aload_n 0, 1) := by decide +kernel
theorem dX0_openEnd_23 : decode cX0_openEnd 23 = .ok (.iload_n 1, 1) := by decide +kernel
theorem dX0_openEnd_24 : decode cX0_openEnd 24 = .ok (.iload 4, 2) := by decide +kernel
theorem dX0_openEnd_26 : decode cX0_openEnd 26 = .ok (.iload_n 2, 1) := by decide +kernel
theorem dX0_openEnd_27 : decode cX0_openEnd 27 = .ok (.invokevirtual 82, 3) := by decide +kernel
theorem dX0_openEnd_30 : decode cX0_openEnd 30 = .ok (.iconst 0, 1) := by decide +kernel
theorem dX0_openEnd_31 : decode cX0_openEnd 31 = .ok (.iastore, 1) := by decide +kernel
theorem dX0_openEnd_32 : decode cX0_openEnd 32 = .ok (.iinc 4 1, 3) := by decide +kernel
theorem dX0_openEnd_35 : decode cX0_openEnd 35 = .ok (.goto (-23), 3) := by decide +kernel
theorem dX0_openEnd_38 : decode cX0_openEnd 38 = .ok (.iconst 0, 1) := by decide +kernel
theorem dX0_openEnd_39 : decode cX0_openEnd 39 = .ok (.istore 4, 2) := by decide +kernel
theorem dX0_openEnd_41 : decode cX0_openEnd 41 = .ok (.iload 4, 2) := by decide +kernel
theorem dX0_openEnd_43 : decode cX0_openEnd 43 = .ok (.iload_n 2, 1) := by decide +kernel
theorem dX0_openEnd_44 : decode cX0_openEnd 44 = .ok (.if_icmp .ge 23, 3) := by decide +kernel
theorem dX0_openEnd_47 : decode cX0_openEnd 47 = .ok (.aload_n 0, 1) := by decide +kernel
theorem dX0_openEnd_48 : decode cX0_openEnd 48 = .ok (.getfield 28, 3) := by decide +kernel
theorem dX0_openEnd_51 : decode cX0_openEnd 51 = .ok (.aload_n 0, 1) := by decide +kernel
theorem dX0_openEnd_52 : decode cX0_openEnd 52 = .ok (.iload_n 1, 1) := by decide +kernel
theorem dX0_openEnd_53 : decode cX0_openEnd 53 = .ok (.iload_n 3, 1) := by decide +kernel
theorem dX0_openEnd_54 : decode cX0_openEnd 54 = .ok (.iload 4, 2) := by decide +kernel
theorem dX0_openEnd_56 : decode cX0_openEnd 56 = .ok (.invokevirtual 82, 3) := by decide +kernel
theorem dX0_openEnd_59 : decode cX0_openEnd 59 = .ok (.iconst 0, 1) := by decide +kernel
theorem dX0_openEnd_60 : decode cX0_openEnd 60 = .ok (.iastore, 1) := by decide +kernel
theorem dX0_openEnd_61 : decode cX0_openEnd 61 = .ok (.iinc 4 1, 3) := by decide +kernel
theorem dX0_openEnd_64 : decode cX0_openEnd 64 = .ok (.goto (-23), 3) := by decide +kernel
theorem dX0_openEnd_67 : decode cX0_openEnd 67 = .ok (.aload_n 0, 1) := by decide +kernel
theorem dX0_openEnd_68 : decode cX0_openEnd 68 = .ok (.getfield 28, 3) := by decide +kernel
theorem dX0_openEnd_71 : decode cX0_openEnd 71 = .ok (.aload_n 0, 1) := by decide +kernel
theorem dX0_openEnd_72 : decode cX0_openEnd 72 = .ok (.iload_n 1, 1) := by decide +kernel
theorem dX0_openEnd_73 : decode cX0_openEnd 73 = .ok (.iload_n 3, 1) := by decide +kernel
theorem dX0_openEnd_74 : decode cX0_openEnd 74 = .ok (.iload_n 2, 1) := by decide +kernel
theorem dX0_openEnd_75 : decode cX0_openEnd 75 = .ok (.invokevirtual 82, 3) := by decide +kernel
theorem dX0_openEnd_78 : decode cX0_openEnd 78 = .ok (.iconst 1, 1) := by decide +kernel
theorem dX0_openEnd_79 : decode cX0_openEnd 79 = .ok (.iastore, 1) := by decide +kernel
theorem dX0_openEnd_80 : decode cX0_openEnd 80 = .ok (.return_, 1) := by decide +kernel
/-! MixfixDesk$Chart.openEnd(II)V -/
abbrev rm_X0_openEnd : Room := { frames := 1, cells := 0, slots := 0, locals := 23 }
theorem X0_openEnd_inX0 : ∀ w ∈ wsX00, w ∈ wsX0_openEnd := by decide +kernel
theorem X0_openEnd_inX4 : ∀ w ∈ wsX40, w ∈ wsX0_openEnd := by decide +kernel
abbrev RT_X0_openEnd (p : Program) (l : Launch) (e : Env) (s : State) (m : MethodId) (args : Array Value) (below : List Frame) (meth : Method) (c : Code) (Q : State → Prop) (dC : Nat → ClassId) (dI : Nat → Nat → Nat) (cI cJ cB cZ : ClassId) (A : Nat → Prop) (aC : Nat → Nat) (gC_all : Nat) (gC_topped : Nat) (gC_firsts : Nat) (gC_ways : Nat) (aR : Nat → Nat) (C_size : Int32) (C_operators : Int32) (R_nodes : Int32) (R_arrows : Int32) (R_operators : Int32) (n_C_ways : Nat) (R_size : Nat → Int32) (res : (Nat → Int32)) : Prop := ∀ (C_ways : Nat → Int32), some C_ways = some res → ∀ (pc : Nat) (H : Heap) (locs : List Loc) (ls : Array Slot), decode cX0_openEnd pc = .ok (.return_, 1) → va_P (dC, dI) vwCl [((aC 0), .inr (0, [.ref (aR 0), .ref (aC 2), .ref (aC 3), .ref gC_all, .ref gC_topped, .ref gC_firsts, .ref gC_ways, .int C_size, .int C_operators])), (gC_ways, .inl (cI, n_C_ways, .inl C_ways)), ((aR 0), .inr (4, [.ref (aR 1), .ref (aR 2), .ref (aR 3), .ref (aR 4), .ref (aR 5), .ref (aR 6), .ref (aR 7), .int R_nodes, .int R_arrows, .int R_operators])), ((aR 2), .inl (cI, 30, .inl R_size))] H → va_D A [((aC 0), .inr (0, [.ref (aR 0), .ref (aC 2), .ref (aC 3), .ref gC_all, .ref gC_topped, .ref gC_firsts, .ref gC_ways, .int C_size, .int C_operators])), (gC_ways, .inl (cI, n_C_ways, .inl C_ways)), ((aR 0), .inr (4, [.ref (aR 1), .ref (aR 2), .ref (aR 3), .ref (aR 4), .ref (aR 5), .ref (aR 6), .ref (aR 7), .int R_nodes, .int R_arrows, .int R_operators])), ((aR 2), .inl (cI, 30, .inl R_size))] → va_S A s.heap H locs → W p l e rm_X0_openEnd s m args below meth c H locs 0 0 Q (F0 m pc ls [])
set_option maxHeartbeats 4000000 in
set_option maxRecDepth 100000 in
theorem k_X0_openEnd_41 {p : Program} {l : Launch} {e : Env} {s : State} {m : MethodId} {args : Array Value} {below : List Frame} {meth : Method} {c : Code} {Q : State → Prop} {dC : Nat → ClassId} {dI : Nat → Nat → Nat} {cI cJ cB cZ : ClassId} {A : Nat → Prop} (C0 : Cx p s m meth c args cX0_openEnd 5 none wsX0_openEnd RX0) (hK : va_K (dC, dI) vwCl [(cI, .int), (cJ, .long), (cB, .byte), (cZ, .boolean)] s) (hN : NW s) (hA : ∀ q, s.heap.size ≤ q → A q) (aC : Nat → Nat) (gC_all : Nat) (gC_topped : Nat) (gC_firsts : Nat) (gC_ways : Nat) (aR : Nat → Nat) (C_size : Int32) (C_operators : Int32) (R_nodes : Int32) (R_arrows : Int32) (R_operators : Int32) (n_C_ways : Nat) (R_size : Nat → Int32) (res : (Nat → Int32)) (RET : RT_X0_openEnd p l e s m args below meth c Q dC dI cI cJ cB cZ A aC gC_all gC_topped gC_firsts gC_ways aR C_size C_operators R_nodes R_arrows R_operators n_C_ways R_size res)   : ∀ (n : Nat) (C_ways : Nat → Int32) (x1 : Int32) (x2 : Int32) (x3 : Int32) (x4 : Int32), m_X0_openEnd_41 C_size n_C_ways R_size n C_ways x1 x2 x3 x4 = some res → ∀ (H : Heap) (locs : List Loc), va_P (dC, dI) vwCl [((aC 0), .inr (0, [.ref (aR 0), .ref (aC 2), .ref (aC 3), .ref gC_all, .ref gC_topped, .ref gC_firsts, .ref gC_ways, .int C_size, .int C_operators])), (gC_ways, .inl (cI, n_C_ways, .inl C_ways)), ((aR 0), .inr (4, [.ref (aR 1), .ref (aR 2), .ref (aR 3), .ref (aR 4), .ref (aR 5), .ref (aR 6), .ref (aR 7), .int R_nodes, .int R_arrows, .int R_operators])), ((aR 2), .inl (cI, 30, .inl R_size))] H → va_D A [((aC 0), .inr (0, [.ref (aR 0), .ref (aC 2), .ref (aC 3), .ref gC_all, .ref gC_topped, .ref gC_firsts, .ref gC_ways, .int C_size, .int C_operators])), (gC_ways, .inl (cI, n_C_ways, .inl C_ways)), ((aR 0), .inr (4, [.ref (aR 1), .ref (aR 2), .ref (aR 3), .ref (aR 4), .ref (aR 5), .ref (aR 6), .ref (aR 7), .int R_nodes, .int R_arrows, .int R_operators])), ((aR 2), .inl (cI, 30, .inl R_size))] → va_S A s.heap H locs → ∀ (ls : Array Slot), lv_has ls 5 [(0, .ref (aC 0)), (1, .int x1), (2, .int x2), (3, .int x3), (4, .int x4)] → W p l e rm_X0_openEnd s m args below meth c H locs 0 0 Q (F0 m 41 ls []) := by
  obtain ⟨⟨hx, hb, hml, hown, hts⟩, hr, hlocks⟩ := id C0
  intro n
  induction n with
  | zero =>
    intro C_ways x1 x2 x3 x4 hm
    exact absurd hm (by intro h; cases h)
  | succ n ih =>
    intro C_ways x1 x2 x3 x4 hm H locs hP hD hS ls hl
    have hm : (if x2 ≤ x4 then (Option.bind (m_X0_way C_size x1 x3 x2) (fun r_2 => gd r_2 n_C_ways (some (upd C_ways r_2.toNatClampNeg 1)))) else (Option.bind (m_X0_way C_size x1 x3 x4) (fun r_5 => gd r_5 n_C_ways (m_X0_openEnd_41 C_size n_C_ways R_size n (upd C_ways r_5.toNatClampNeg 0) x1 x2 x3 (x4 + 1))))) = some res := hm
    refine lv_iload hx hb dX0_openEnd_41 (lv_at hl 4 rfl) ?_
    refine lv_iload_n hx hb dX0_openEnd_43 rfl (lv_at hl 2 rfl) ?_
    refine lv_icmp_ge (tgt := 67) hx hb dX0_openEnd_44 (by decide) (fun c_1 => ?_) (fun c_1 => ?_)
    · have hm := it_some c_1 hm
      refine lv_aload_n hx hb dX0_openEnd_67 rfl (lv_at hl 0 rfl) ?_
      refine va_get (D := (dC, dI)) (ci := 0) (v := .ref gC_ways) (C := RX0) (T := TX0) (N := 9) hx hb hts X0_openEnd_inX0 hown hK hP 0 rfl rfl 6 (by decide) (hts (.fieldLink RX0 28 "MixfixDesk$Chart" "ways" "[I") (by decide +kernel)) (fun _ h9 => h9) rfl dX0_openEnd_68 ?_
      refine lv_aload_n hx hb dX0_openEnd_71 rfl (lv_at hl 0 rfl) ?_
      refine lv_iload_n hx hb dX0_openEnd_72 rfl (lv_at hl 1 rfl) ?_
      refine lv_iload_n hx hb dX0_openEnd_73 rfl (lv_at hl 3 rfl) ?_
      refine lv_iload_n hx hb dX0_openEnd_74 rfl (lv_at hl 2 rfl) ?_
      obtain ⟨r_2, hc_3, hm⟩ := ob_some hm
      refine cx_i (wr := [(gC_ways, .inl (cI, n_C_ways, .inl C_ways)), ((aR 0), .inr (4, [.ref (aR 1), .ref (aR 2), .ref (aR 3), .ref (aR 4), .ref (aR 5), .ref (aR 6), .ref (aR 7), .int R_nodes, .int R_arrows, .int R_operators])), ((aR 2), .inl (cI, 30, .inl R_size))]) (va_runV (As := [.int x1, .int x3, .int x2]) (rest := [.ref gC_ways]) C0.1 (c_X0_way l dC dI cI cJ cB cZ aC (aR 0) gC_all gC_topped gC_firsts gC_ways H.size C_size C_operators x1 x3 x2 r_2 hc_3) (cwV 3 hts gX0_openEnd_X0_way rfl rfl rfl (by decide +kernel) ⟨Nat.le_of_ble_eq_true rfl, Nat.le_of_ble_eq_true rfl⟩) (cP_V (ci := 0) (q0 := 0) hK hN hP hD rfl rfl [0] (by decide) rfl) rfl rfl hl.1 rfl (lv_room (Nat.le_of_ble_eq_true rfl)) dX0_openEnd_75 ⟨Nat.le_of_ble_eq_true rfl, Nat.le_of_ble_eq_true rfl⟩) hP hD hS hA [0] [1, 2, 3] rfl rfl (by decide) (by decide) (fun H locs hP hD hS => ?_)
      have hP : va_P (dC, dI) vwCl [(gC_ways, .inl (cI, n_C_ways, .inl C_ways)), ((aR 0), .inr (4, [.ref (aR 1), .ref (aR 2), .ref (aR 3), .ref (aR 4), .ref (aR 5), .ref (aR 6), .ref (aR 7), .int R_nodes, .int R_arrows, .int R_operators])), ((aR 2), .inl (cI, 30, .inl R_size)), ((aC 0), .inr (0, [.ref (aR 0), .ref (aC 2), .ref (aC 3), .ref gC_all, .ref gC_topped, .ref gC_firsts, .ref gC_ways, .int C_size, .int C_operators]))] H := hP
      have hD : va_D A [(gC_ways, .inl (cI, n_C_ways, .inl C_ways)), ((aR 0), .inr (4, [.ref (aR 1), .ref (aR 2), .ref (aR 3), .ref (aR 4), .ref (aR 5), .ref (aR 6), .ref (aR 7), .int R_nodes, .int R_arrows, .int R_operators])), ((aR 2), .inl (cI, 30, .inl R_size)), ((aC 0), .inr (0, [.ref (aR 0), .ref (aC 2), .ref (aC 3), .ref gC_all, .ref gC_topped, .ref gC_firsts, .ref gC_ways, .int C_size, .int C_operators]))] := hD
      refine lv_iconst (v := 1) hx hb dX0_openEnd_78 (by decide) ?_
      obtain ⟨hi_4, hm⟩ := gd_some hm
      refine va_iast (D := (dC, dI)) hx hb hK hP hD hS 0 0 rfl rfl hi_4 dX0_openEnd_79 (fun H locs hP hD hS => ?_)
      have hP : va_P (dC, dI) vwCl [(gC_ways, .inl (cI, n_C_ways, .inl (upd C_ways r_2.toNatClampNeg 1))), ((aR 0), .inr (4, [.ref (aR 1), .ref (aR 2), .ref (aR 3), .ref (aR 4), .ref (aR 5), .ref (aR 6), .ref (aR 7), .int R_nodes, .int R_arrows, .int R_operators])), ((aR 2), .inl (cI, 30, .inl R_size)), ((aC 0), .inr (0, [.ref (aR 0), .ref (aC 2), .ref (aC 3), .ref gC_all, .ref gC_topped, .ref gC_firsts, .ref gC_ways, .int C_size, .int C_operators]))] H := hP
      have hD : va_D A [(gC_ways, .inl (cI, n_C_ways, .inl (upd C_ways r_2.toNatClampNeg 1))), ((aR 0), .inr (4, [.ref (aR 1), .ref (aR 2), .ref (aR 3), .ref (aR 4), .ref (aR 5), .ref (aR 6), .ref (aR 7), .int R_nodes, .int R_arrows, .int R_operators])), ((aR 2), .inl (cI, 30, .inl R_size)), ((aC 0), .inr (0, [.ref (aR 0), .ref (aC 2), .ref (aC 3), .ref gC_all, .ref gC_topped, .ref gC_firsts, .ref gC_ways, .int C_size, .int C_operators]))] := hD
      exact RET (upd C_ways r_2.toNatClampNeg 1) hm _ H locs ls dX0_openEnd_80 (P_sub' hP [3, 0, 1, 2] rfl) (hD.sub [3, 0, 1, 2] (by decide) rfl) hS
    · have hm := if_some' c_1 hm
      refine lv_aload_n hx hb dX0_openEnd_47 rfl (lv_at hl 0 rfl) ?_
      refine va_get (D := (dC, dI)) (ci := 0) (v := .ref gC_ways) (C := RX0) (T := TX0) (N := 9) hx hb hts X0_openEnd_inX0 hown hK hP 0 rfl rfl 6 (by decide) (hts (.fieldLink RX0 28 "MixfixDesk$Chart" "ways" "[I") (by decide +kernel)) (fun _ h9 => h9) rfl dX0_openEnd_48 ?_
      refine lv_aload_n hx hb dX0_openEnd_51 rfl (lv_at hl 0 rfl) ?_
      refine lv_iload_n hx hb dX0_openEnd_52 rfl (lv_at hl 1 rfl) ?_
      refine lv_iload_n hx hb dX0_openEnd_53 rfl (lv_at hl 3 rfl) ?_
      refine lv_iload hx hb dX0_openEnd_54 (lv_at hl 4 rfl) ?_
      obtain ⟨r_5, hc_6, hm⟩ := ob_some hm
      refine cx_i (wr := [(gC_ways, .inl (cI, n_C_ways, .inl C_ways)), ((aR 0), .inr (4, [.ref (aR 1), .ref (aR 2), .ref (aR 3), .ref (aR 4), .ref (aR 5), .ref (aR 6), .ref (aR 7), .int R_nodes, .int R_arrows, .int R_operators])), ((aR 2), .inl (cI, 30, .inl R_size))]) (va_runV (As := [.int x1, .int x3, .int x4]) (rest := [.ref gC_ways]) C0.1 (c_X0_way l dC dI cI cJ cB cZ aC (aR 0) gC_all gC_topped gC_firsts gC_ways H.size C_size C_operators x1 x3 x4 r_5 hc_6) (cwV 3 hts gX0_openEnd_X0_way rfl rfl rfl (by decide +kernel) ⟨Nat.le_of_ble_eq_true rfl, Nat.le_of_ble_eq_true rfl⟩) (cP_V (ci := 0) (q0 := 0) hK hN hP hD rfl rfl [0] (by decide) rfl) rfl rfl hl.1 rfl (lv_room (Nat.le_of_ble_eq_true rfl)) dX0_openEnd_56 ⟨Nat.le_of_ble_eq_true rfl, Nat.le_of_ble_eq_true rfl⟩) hP hD hS hA [0] [1, 2, 3] rfl rfl (by decide) (by decide) (fun H locs hP hD hS => ?_)
      have hP : va_P (dC, dI) vwCl [(gC_ways, .inl (cI, n_C_ways, .inl C_ways)), ((aR 0), .inr (4, [.ref (aR 1), .ref (aR 2), .ref (aR 3), .ref (aR 4), .ref (aR 5), .ref (aR 6), .ref (aR 7), .int R_nodes, .int R_arrows, .int R_operators])), ((aR 2), .inl (cI, 30, .inl R_size)), ((aC 0), .inr (0, [.ref (aR 0), .ref (aC 2), .ref (aC 3), .ref gC_all, .ref gC_topped, .ref gC_firsts, .ref gC_ways, .int C_size, .int C_operators]))] H := hP
      have hD : va_D A [(gC_ways, .inl (cI, n_C_ways, .inl C_ways)), ((aR 0), .inr (4, [.ref (aR 1), .ref (aR 2), .ref (aR 3), .ref (aR 4), .ref (aR 5), .ref (aR 6), .ref (aR 7), .int R_nodes, .int R_arrows, .int R_operators])), ((aR 2), .inl (cI, 30, .inl R_size)), ((aC 0), .inr (0, [.ref (aR 0), .ref (aC 2), .ref (aC 3), .ref gC_all, .ref gC_topped, .ref gC_firsts, .ref gC_ways, .int C_size, .int C_operators]))] := hD
      refine lv_iconst (v := 0) hx hb dX0_openEnd_59 (by decide) ?_
      obtain ⟨hi_7, hm⟩ := gd_some hm
      refine va_iast (D := (dC, dI)) hx hb hK hP hD hS 0 0 rfl rfl hi_7 dX0_openEnd_60 (fun H locs hP hD hS => ?_)
      have hP : va_P (dC, dI) vwCl [(gC_ways, .inl (cI, n_C_ways, .inl (upd C_ways r_5.toNatClampNeg 0))), ((aR 0), .inr (4, [.ref (aR 1), .ref (aR 2), .ref (aR 3), .ref (aR 4), .ref (aR 5), .ref (aR 6), .ref (aR 7), .int R_nodes, .int R_arrows, .int R_operators])), ((aR 2), .inl (cI, 30, .inl R_size)), ((aC 0), .inr (0, [.ref (aR 0), .ref (aC 2), .ref (aC 3), .ref gC_all, .ref gC_topped, .ref gC_firsts, .ref gC_ways, .int C_size, .int C_operators]))] H := hP
      have hD : va_D A [(gC_ways, .inl (cI, n_C_ways, .inl (upd C_ways r_5.toNatClampNeg 0))), ((aR 0), .inr (4, [.ref (aR 1), .ref (aR 2), .ref (aR 3), .ref (aR 4), .ref (aR 5), .ref (aR 6), .ref (aR 7), .int R_nodes, .int R_arrows, .int R_operators])), ((aR 2), .inl (cI, 30, .inl R_size)), ((aC 0), .inr (0, [.ref (aR 0), .ref (aC 2), .ref (aC 3), .ref gC_all, .ref gC_topped, .ref gC_firsts, .ref gC_ways, .int C_size, .int C_operators]))] := hD
      refine lv_iinc (v := x4 + 1) (lv' := [(4, .int (x4 + 1)), (0, .ref (aC 0)), (1, .int x1), (2, .int x2), (3, .int x3)]) hx hb dX0_openEnd_61 hl (k := 4) rfl rfl (by decide) rfl (fun ls hl => ?_)
      refine lv_goto (tgt := 41) hx hb dX0_openEnd_64 (by decide) ?_
      exact ih (upd C_ways r_5.toNatClampNeg 0) x1 x2 x3 (x4 + 1) hm H locs (P_sub' hP [3, 0, 1, 2] rfl) (hD.sub [3, 0, 1, 2] (by decide) rfl) hS ls (lv_sub hl [1, 2, 3, 4, 0] rfl)
set_option maxHeartbeats 4000000 in
set_option maxRecDepth 100000 in
theorem k_X0_openEnd_12 {p : Program} {l : Launch} {e : Env} {s : State} {m : MethodId} {args : Array Value} {below : List Frame} {meth : Method} {c : Code} {Q : State → Prop} {dC : Nat → ClassId} {dI : Nat → Nat → Nat} {cI cJ cB cZ : ClassId} {A : Nat → Prop} (C0 : Cx p s m meth c args cX0_openEnd 5 none wsX0_openEnd RX0) (hK : va_K (dC, dI) vwCl [(cI, .int), (cJ, .long), (cB, .byte), (cZ, .boolean)] s) (hN : NW s) (hA : ∀ q, s.heap.size ≤ q → A q) (aC : Nat → Nat) (gC_all : Nat) (gC_topped : Nat) (gC_firsts : Nat) (gC_ways : Nat) (aR : Nat → Nat) (C_size : Int32) (C_operators : Int32) (R_nodes : Int32) (R_arrows : Int32) (R_operators : Int32) (n_C_ways : Nat) (R_size : Nat → Int32) (res : (Nat → Int32)) (RET : RT_X0_openEnd p l e s m args below meth c Q dC dI cI cJ cB cZ A aC gC_all gC_topped gC_firsts gC_ways aR C_size C_operators R_nodes R_arrows R_operators n_C_ways R_size res)   : ∀ (n : Nat) (C_ways : Nat → Int32) (x1 : Int32) (x2 : Int32) (x3 : Int32) (x4 : Int32), m_X0_openEnd_12 C_size n_C_ways R_size n C_ways x1 x2 x3 x4 = some res → ∀ (H : Heap) (locs : List Loc), va_P (dC, dI) vwCl [((aC 0), .inr (0, [.ref (aR 0), .ref (aC 2), .ref (aC 3), .ref gC_all, .ref gC_topped, .ref gC_firsts, .ref gC_ways, .int C_size, .int C_operators])), (gC_ways, .inl (cI, n_C_ways, .inl C_ways)), ((aR 0), .inr (4, [.ref (aR 1), .ref (aR 2), .ref (aR 3), .ref (aR 4), .ref (aR 5), .ref (aR 6), .ref (aR 7), .int R_nodes, .int R_arrows, .int R_operators])), ((aR 2), .inl (cI, 30, .inl R_size))] H → va_D A [((aC 0), .inr (0, [.ref (aR 0), .ref (aC 2), .ref (aC 3), .ref gC_all, .ref gC_topped, .ref gC_firsts, .ref gC_ways, .int C_size, .int C_operators])), (gC_ways, .inl (cI, n_C_ways, .inl C_ways)), ((aR 0), .inr (4, [.ref (aR 1), .ref (aR 2), .ref (aR 3), .ref (aR 4), .ref (aR 5), .ref (aR 6), .ref (aR 7), .int R_nodes, .int R_arrows, .int R_operators])), ((aR 2), .inl (cI, 30, .inl R_size))] → va_S A s.heap H locs → ∀ (ls : Array Slot), lv_has ls 5 [(0, .ref (aC 0)), (1, .int x1), (2, .int x2), (3, .int x3), (4, .int x4)] → W p l e rm_X0_openEnd s m args below meth c H locs 0 0 Q (F0 m 12 ls []) := by
  obtain ⟨⟨hx, hb, hml, hown, hts⟩, hr, hlocks⟩ := id C0
  intro n
  induction n with
  | zero =>
    intro C_ways x1 x2 x3 x4 hm
    exact absurd hm (by intro h; cases h)
  | succ n ih =>
    intro C_ways x1 x2 x3 x4 hm H locs hP hD hS ls hl
    have hm : (if x3 ≤ x4 then (m_X0_openEnd_41 C_size n_C_ways R_size FU C_ways x1 x2 x3 0) else (Option.bind (m_X0_way C_size x1 x4 x2) (fun r_9 => gd r_9 n_C_ways (m_X0_openEnd_12 C_size n_C_ways R_size n (upd C_ways r_9.toNatClampNeg 0) x1 x2 x3 (x4 + 1))))) = some res := hm
    refine lv_iload hx hb dX0_openEnd_12 (lv_at hl 4 rfl) ?_
    refine lv_iload_n hx hb dX0_openEnd_14 rfl (lv_at hl 3 rfl) ?_
    refine lv_icmp_ge (tgt := 38) hx hb dX0_openEnd_15 (by decide) (fun c_8 => ?_) (fun c_8 => ?_)
    · have hm := it_some c_8 hm
      refine lv_iconst (v := 0) hx hb dX0_openEnd_38 (by decide) ?_
      refine lv_istore (lv' := [(4, .int 0), (0, .ref (aC 0)), (1, .int x1), (2, .int x2), (3, .int x3)]) hx hb dX0_openEnd_39 hl (by decide) rfl (fun ls hl => ?_)
      exact k_X0_openEnd_41 C0 hK hN hA aC gC_all gC_topped gC_firsts gC_ways aR C_size C_operators R_nodes R_arrows R_operators n_C_ways R_size res RET FU C_ways x1 x2 x3 0 hm H locs hP hD hS ls (lv_sub hl [1, 2, 3, 4, 0] rfl)
    · have hm := if_some' c_8 hm
      refine lv_aload_n hx hb dX0_openEnd_18 rfl (lv_at hl 0 rfl) ?_
      refine va_get (D := (dC, dI)) (ci := 0) (v := .ref gC_ways) (C := RX0) (T := TX0) (N := 9) hx hb hts X0_openEnd_inX0 hown hK hP 0 rfl rfl 6 (by decide) (hts (.fieldLink RX0 28 "MixfixDesk$Chart" "ways" "[I") (by decide +kernel)) (fun _ h9 => h9) rfl dX0_openEnd_19 ?_
      refine lv_aload_n hx hb dX0_openEnd_22 rfl (lv_at hl 0 rfl) ?_
      refine lv_iload_n hx hb dX0_openEnd_23 rfl (lv_at hl 1 rfl) ?_
      refine lv_iload hx hb dX0_openEnd_24 (lv_at hl 4 rfl) ?_
      refine lv_iload_n hx hb dX0_openEnd_26 rfl (lv_at hl 2 rfl) ?_
      obtain ⟨r_9, hc_10, hm⟩ := ob_some hm
      refine cx_i (wr := [(gC_ways, .inl (cI, n_C_ways, .inl C_ways)), ((aR 0), .inr (4, [.ref (aR 1), .ref (aR 2), .ref (aR 3), .ref (aR 4), .ref (aR 5), .ref (aR 6), .ref (aR 7), .int R_nodes, .int R_arrows, .int R_operators])), ((aR 2), .inl (cI, 30, .inl R_size))]) (va_runV (As := [.int x1, .int x4, .int x2]) (rest := [.ref gC_ways]) C0.1 (c_X0_way l dC dI cI cJ cB cZ aC (aR 0) gC_all gC_topped gC_firsts gC_ways H.size C_size C_operators x1 x4 x2 r_9 hc_10) (cwV 3 hts gX0_openEnd_X0_way rfl rfl rfl (by decide +kernel) ⟨Nat.le_of_ble_eq_true rfl, Nat.le_of_ble_eq_true rfl⟩) (cP_V (ci := 0) (q0 := 0) hK hN hP hD rfl rfl [0] (by decide) rfl) rfl rfl hl.1 rfl (lv_room (Nat.le_of_ble_eq_true rfl)) dX0_openEnd_27 ⟨Nat.le_of_ble_eq_true rfl, Nat.le_of_ble_eq_true rfl⟩) hP hD hS hA [0] [1, 2, 3] rfl rfl (by decide) (by decide) (fun H locs hP hD hS => ?_)
      have hP : va_P (dC, dI) vwCl [(gC_ways, .inl (cI, n_C_ways, .inl C_ways)), ((aR 0), .inr (4, [.ref (aR 1), .ref (aR 2), .ref (aR 3), .ref (aR 4), .ref (aR 5), .ref (aR 6), .ref (aR 7), .int R_nodes, .int R_arrows, .int R_operators])), ((aR 2), .inl (cI, 30, .inl R_size)), ((aC 0), .inr (0, [.ref (aR 0), .ref (aC 2), .ref (aC 3), .ref gC_all, .ref gC_topped, .ref gC_firsts, .ref gC_ways, .int C_size, .int C_operators]))] H := hP
      have hD : va_D A [(gC_ways, .inl (cI, n_C_ways, .inl C_ways)), ((aR 0), .inr (4, [.ref (aR 1), .ref (aR 2), .ref (aR 3), .ref (aR 4), .ref (aR 5), .ref (aR 6), .ref (aR 7), .int R_nodes, .int R_arrows, .int R_operators])), ((aR 2), .inl (cI, 30, .inl R_size)), ((aC 0), .inr (0, [.ref (aR 0), .ref (aC 2), .ref (aC 3), .ref gC_all, .ref gC_topped, .ref gC_firsts, .ref gC_ways, .int C_size, .int C_operators]))] := hD
      refine lv_iconst (v := 0) hx hb dX0_openEnd_30 (by decide) ?_
      obtain ⟨hi_11, hm⟩ := gd_some hm
      refine va_iast (D := (dC, dI)) hx hb hK hP hD hS 0 0 rfl rfl hi_11 dX0_openEnd_31 (fun H locs hP hD hS => ?_)
      have hP : va_P (dC, dI) vwCl [(gC_ways, .inl (cI, n_C_ways, .inl (upd C_ways r_9.toNatClampNeg 0))), ((aR 0), .inr (4, [.ref (aR 1), .ref (aR 2), .ref (aR 3), .ref (aR 4), .ref (aR 5), .ref (aR 6), .ref (aR 7), .int R_nodes, .int R_arrows, .int R_operators])), ((aR 2), .inl (cI, 30, .inl R_size)), ((aC 0), .inr (0, [.ref (aR 0), .ref (aC 2), .ref (aC 3), .ref gC_all, .ref gC_topped, .ref gC_firsts, .ref gC_ways, .int C_size, .int C_operators]))] H := hP
      have hD : va_D A [(gC_ways, .inl (cI, n_C_ways, .inl (upd C_ways r_9.toNatClampNeg 0))), ((aR 0), .inr (4, [.ref (aR 1), .ref (aR 2), .ref (aR 3), .ref (aR 4), .ref (aR 5), .ref (aR 6), .ref (aR 7), .int R_nodes, .int R_arrows, .int R_operators])), ((aR 2), .inl (cI, 30, .inl R_size)), ((aC 0), .inr (0, [.ref (aR 0), .ref (aC 2), .ref (aC 3), .ref gC_all, .ref gC_topped, .ref gC_firsts, .ref gC_ways, .int C_size, .int C_operators]))] := hD
      refine lv_iinc (v := x4 + 1) (lv' := [(4, .int (x4 + 1)), (0, .ref (aC 0)), (1, .int x1), (2, .int x2), (3, .int x3)]) hx hb dX0_openEnd_32 hl (k := 4) rfl rfl (by decide) rfl (fun ls hl => ?_)
      refine lv_goto (tgt := 12) hx hb dX0_openEnd_35 (by decide) ?_
      exact ih (upd C_ways r_9.toNatClampNeg 0) x1 x2 x3 (x4 + 1) hm H locs (P_sub' hP [3, 0, 1, 2] rfl) (hD.sub [3, 0, 1, 2] (by decide) rfl) hS ls (lv_sub hl [1, 2, 3, 4, 0] rfl)
set_option maxHeartbeats 4000000 in
set_option maxRecDepth 100000 in
theorem k_X0_openEnd_E {p : Program} {l : Launch} {e : Env} {s : State} {m : MethodId} {args : Array Value} {below : List Frame} {meth : Method} {c : Code} {Q : State → Prop} {dC : Nat → ClassId} {dI : Nat → Nat → Nat} {cI cJ cB cZ : ClassId} {A : Nat → Prop} (C0 : Cx p s m meth c args cX0_openEnd 5 none wsX0_openEnd RX0) (hK : va_K (dC, dI) vwCl [(cI, .int), (cJ, .long), (cB, .byte), (cZ, .boolean)] s) (hN : NW s) (hA : ∀ q, s.heap.size ≤ q → A q) (aC : Nat → Nat) (gC_all : Nat) (gC_topped : Nat) (gC_firsts : Nat) (gC_ways : Nat) (aR : Nat → Nat) (C_size : Int32) (C_operators : Int32) (R_nodes : Int32) (R_arrows : Int32) (R_operators : Int32) (n_C_ways : Nat) (R_size : Nat → Int32) (res : (Nat → Int32)) (RET : RT_X0_openEnd p l e s m args below meth c Q dC dI cI cJ cB cZ A aC gC_all gC_topped gC_firsts gC_ways aR C_size C_operators R_nodes R_arrows R_operators n_C_ways R_size res) : ∀ (C_ways : Nat → Int32) (p0 : Int32) (p1 : Int32), m_X0_openEnd n_C_ways C_ways C_size R_size p0 p1 = some res → ∀ (H : Heap) (locs : List Loc), va_P (dC, dI) vwCl [((aC 0), .inr (0, [.ref (aR 0), .ref (aC 2), .ref (aC 3), .ref gC_all, .ref gC_topped, .ref gC_firsts, .ref gC_ways, .int C_size, .int C_operators])), (gC_ways, .inl (cI, n_C_ways, .inl C_ways)), ((aR 0), .inr (4, [.ref (aR 1), .ref (aR 2), .ref (aR 3), .ref (aR 4), .ref (aR 5), .ref (aR 6), .ref (aR 7), .int R_nodes, .int R_arrows, .int R_operators])), ((aR 2), .inl (cI, 30, .inl R_size))] H → va_D A [((aC 0), .inr (0, [.ref (aR 0), .ref (aC 2), .ref (aC 3), .ref gC_all, .ref gC_topped, .ref gC_firsts, .ref gC_ways, .int C_size, .int C_operators])), (gC_ways, .inl (cI, n_C_ways, .inl C_ways)), ((aR 0), .inr (4, [.ref (aR 1), .ref (aR 2), .ref (aR 3), .ref (aR 4), .ref (aR 5), .ref (aR 6), .ref (aR 7), .int R_nodes, .int R_arrows, .int R_operators])), ((aR 2), .inl (cI, 30, .inl R_size))] → va_S A s.heap H locs → ∀ (ls : Array Slot), lv_has ls 5 [(0, .ref (aC 0)), (1, .int p0), (2, .int p1)] → W p l e rm_X0_openEnd s m args below meth c H locs 0 0 Q (F0 m 0 ls []) := by
  obtain ⟨⟨hx, hb, hml, hown, hts⟩, hr, hlocks⟩ := id C0
  intro C_ways p0 p1 hm H locs hP hD hS ls hl
  have hm : (Option.bind (m_X4_size R_size p0) (fun r_12 => m_X0_openEnd_12 C_size n_C_ways R_size FU C_ways p0 p1 r_12 0)) = some res := hm
  refine lv_aload_n hx hb dX0_openEnd_0 rfl (lv_at hl 0 rfl) ?_
  refine va_get (D := (dC, dI)) (ci := 0) (v := .ref (aR 0)) (C := RX0) (T := TX0) (N := 9) hx hb hts X0_openEnd_inX0 hown hK hP 0 rfl rfl 0 (by decide) (hts (.fieldLink RX0 38 "MixfixDesk$Chart" "rules" "LMixfixDesk$Rules;") (by decide +kernel)) (fun _ h9 => h9) rfl dX0_openEnd_1 ?_
  refine lv_iload_n hx hb dX0_openEnd_4 rfl (lv_at hl 1 rfl) ?_
  obtain ⟨r_12, hc_13, hm⟩ := ob_some hm
  refine cx_i (wr := [((aC 0), .inr (0, [.ref (aR 0), .ref (aC 2), .ref (aC 3), .ref gC_all, .ref gC_topped, .ref gC_firsts, .ref gC_ways, .int C_size, .int C_operators])), (gC_ways, .inl (cI, n_C_ways, .inl C_ways))]) (va_runV (As := [.int p0]) (rest := []) C0.1 (c_X4_size l dC dI cI cJ cB cZ aR H.size R_nodes R_arrows R_operators R_size p0 r_12 hc_13) (cwV 1 hts gX0_openEnd_X4_size rfl rfl rfl (by decide +kernel) ⟨Nat.le_of_ble_eq_true rfl, Nat.le_of_ble_eq_true rfl⟩) (cP_V (ci := 4) (q0 := 2) hK hN hP hD rfl rfl [2, 3] (by decide) rfl) rfl rfl hl.1 rfl (lv_room (Nat.le_of_ble_eq_true rfl)) dX0_openEnd_5 ⟨Nat.le_of_ble_eq_true rfl, Nat.le_of_ble_eq_true rfl⟩) hP hD hS hA [2, 3] [0, 1] rfl rfl (by decide) (by decide) (fun H locs hP hD hS => ?_)
  have hP : va_P (dC, dI) vwCl [((aC 0), .inr (0, [.ref (aR 0), .ref (aC 2), .ref (aC 3), .ref gC_all, .ref gC_topped, .ref gC_firsts, .ref gC_ways, .int C_size, .int C_operators])), (gC_ways, .inl (cI, n_C_ways, .inl C_ways)), ((aR 0), .inr (4, [.ref (aR 1), .ref (aR 2), .ref (aR 3), .ref (aR 4), .ref (aR 5), .ref (aR 6), .ref (aR 7), .int R_nodes, .int R_arrows, .int R_operators])), ((aR 2), .inl (cI, 30, .inl R_size))] H := hP
  have hD : va_D A [((aC 0), .inr (0, [.ref (aR 0), .ref (aC 2), .ref (aC 3), .ref gC_all, .ref gC_topped, .ref gC_firsts, .ref gC_ways, .int C_size, .int C_operators])), (gC_ways, .inl (cI, n_C_ways, .inl C_ways)), ((aR 0), .inr (4, [.ref (aR 1), .ref (aR 2), .ref (aR 3), .ref (aR 4), .ref (aR 5), .ref (aR 6), .ref (aR 7), .int R_nodes, .int R_arrows, .int R_operators])), ((aR 2), .inl (cI, 30, .inl R_size))] := hD
  refine lv_istore_n (lv' := [(3, .int r_12), (0, .ref (aC 0)), (1, .int p0), (2, .int p1)]) hx hb dX0_openEnd_8 rfl hl (by decide) rfl (fun ls hl => ?_)
  refine lv_iconst (v := 0) hx hb dX0_openEnd_9 (by decide) ?_
  refine lv_istore (lv' := [(4, .int 0), (3, .int r_12), (0, .ref (aC 0)), (1, .int p0), (2, .int p1)]) hx hb dX0_openEnd_10 hl (by decide) rfl (fun ls hl => ?_)
  exact k_X0_openEnd_12 C0 hK hN hA aC gC_all gC_topped gC_firsts gC_ways aR C_size C_operators R_nodes R_arrows R_operators n_C_ways R_size res RET FU C_ways p0 p1 r_12 0 hm H locs hP hD hS ls (lv_sub hl [2, 3, 4, 1, 0] rfl)
set_option maxHeartbeats 4000000 in
set_option maxRecDepth 100000 in
theorem c_X0_openEnd (l : Launch) (dC : Nat → ClassId) (dI : Nat → Nat → Nat) (cI cJ cB cZ : ClassId) (aC : Nat → Nat) (gC_all : Nat) (gC_topped : Nat) (gC_firsts : Nat) (gC_ways : Nat) (aR : Nat → Nat) (sz : Nat) (C_size : Int32) (C_operators : Int32) (R_nodes : Int32) (R_arrows : Int32) (R_operators : Int32) (n_C_ways : Nat) (C_ways : Nat → Int32) (R_size : Nat → Int32) (p0 : Int32) (p1 : Int32) (res : (Nat → Int32)) (hm : m_X0_openEnd n_C_ways C_ways C_size R_size p0 p1 = some res) : Met l yX0_openEnd wsX0_openEnd rm_X0_openEnd (cP (dC, dI) vwCl [(cI, .int), (cJ, .long), (cB, .byte), (cZ, .boolean)] [.ref (aC 0), .int p0, .int p1] [((aC 0), .inr (0, [.ref (aR 0), .ref (aC 2), .ref (aC 3), .ref gC_all, .ref gC_topped, .ref gC_firsts, .ref gC_ways, .int C_size, .int C_operators])), (gC_ways, .inl (cI, n_C_ways, .inl C_ways)), ((aR 0), .inr (4, [.ref (aR 1), .ref (aR 2), .ref (aR 3), .ref (aR 4), .ref (aR 5), .ref (aR 6), .ref (aR 7), .int R_nodes, .int R_arrows, .int R_operators])), ((aR 2), .inl (cI, 30, .inl R_size))] sz) (cQv (dC, dI) vwCl [((aC 0), .inr (0, [.ref (aR 0), .ref (aC 2), .ref (aC 3), .ref gC_all, .ref gC_topped, .ref gC_firsts, .ref gC_ways, .int C_size, .int C_operators])), (gC_ways, .inl (cI, n_C_ways, .inl res)), ((aR 0), .inr (4, [.ref (aR 1), .ref (aR 2), .ref (aR 3), .ref (aR 4), .ref (aR 5), .ref (aR 6), .ref (aR 7), .int R_nodes, .int R_arrows, .int R_operators])), ((aR 2), .inl (cI, 30, .inl R_size))] [((aC 0), .inr (0, [.ref (aR 0), .ref (aC 2), .ref (aC 3), .ref gC_all, .ref gC_topped, .ref gC_firsts, .ref gC_ways, .int C_size, .int C_operators])), (gC_ways, .inl (cI, n_C_ways, .inl C_ways)), ((aR 0), .inr (4, [.ref (aR 1), .ref (aR 2), .ref (aR 3), .ref (aR 4), .ref (aR 5), .ref (aR 6), .ref (aR 7), .int R_nodes, .int R_arrows, .int R_operators])), ((aR 2), .inl (cI, 30, .inl R_size))] sz) 0 0 (va_A [((aC 0), .inr (0, [.ref (aR 0), .ref (aC 2), .ref (aC 3), .ref gC_all, .ref gC_topped, .ref gC_firsts, .ref gC_ways, .int C_size, .int C_operators])), (gC_ways, .inl (cI, n_C_ways, .inl C_ways)), ((aR 0), .inr (4, [.ref (aR 1), .ref (aR 2), .ref (aR 3), .ref (aR 4), .ref (aR 5), .ref (aR 6), .ref (aR 7), .int R_nodes, .int R_arrows, .int R_operators])), ((aR 2), .inl (cI, 30, .inl R_size))] sz) := by
  refine cx_of (cc := cX0_openEnd) (maxL := 5) (ret := none) (own := RX0) (by decide) rfl rfl (Nat.le_of_ble_eq_true rfl) ?_
  intro p e s m below meth c A C0 hinN hK hN hsz hAe hA hP hD hS ls hl
  refine k_X0_openEnd_E C0 hK hN hA aC gC_all gC_topped gC_firsts gC_ways aR C_size C_operators R_nodes R_arrows R_operators n_C_ways R_size res ?_ C_ways p0 p1 hm _ _ hP hD hS ls hl
  intro C_ways he pc H locs ls hdg hP hD hS
  have he := Option.some.inj he
  subst he
  exact cx_retv C0 hsz hAe hdg hP hD hS

set_option maxRecDepth 20000 in
theorem ggX0_coverHole_X0_way : GoodIn wsX0_coverHole wsX0_way := goodIn_r _ [9, 10, 28, 29, 30, 31, 32, 33, 34, 35, 36] (by decide +kernel) (by decide +kernel)
set_option maxRecDepth 20000 in
theorem gX0_coverHole_X0_way : GoodIn wsX0_coverHole (wsV RX0 82 RX0 yX0_way wsX0_way) := goodIn_app (goodIn_of _ (by decide +kernel)) ggX0_coverHole_X0_way
set_option maxRecDepth 20000 in
theorem ggX0_coverHole_X0_span : GoodIn wsX0_coverHole wsX0_span := goodIn_r _ [13] (by decide +kernel) (by decide +kernel)
set_option maxRecDepth 20000 in
theorem gX0_coverHole_X0_span : GoodIn wsX0_coverHole (va_wsS RX0 42 yX0_span wsX0_span) := goodIn_app (goodIn_of _ (by decide +kernel)) ggX0_coverHole_X0_span
set_option maxRecDepth 20000 in
theorem ggX0_coverHole_X8_times : GoodIn wsX0_coverHole wsX8_times := goodIn_r _ [16, 17, 18, 19, 20, 21] (by decide +kernel) (by decide +kernel)
set_option maxRecDepth 20000 in
theorem gX0_coverHole_X8_times_n120 : GoodIn wsX0_coverHole (wsX8_times) := ggX0_coverHole_X8_times
set_option maxRecDepth 20000 in
theorem ggX0_coverHole_X8_plus : GoodIn wsX0_coverHole wsX8_plus := goodIn_r _ [23, 24, 25, 26, 20, 27] (by decide +kernel) (by decide +kernel)
set_option maxRecDepth 20000 in
theorem gX0_coverHole_X8_plus_n92 : GoodIn wsX0_coverHole (wsX8_plus) := ggX0_coverHole_X8_plus
theorem dX0_coverHole_0 : decode cX0_coverHole 0 = .ok (.aload_n 0, 1) := by decide +kernel
theorem dX0_coverHole_1 : decode cX0_coverHole 1 = .ok (.iload_n 1, 1) := by decide +kernel
theorem dX0_coverHole_2 : decode cX0_coverHole 2 = .ok (.iload_n 2, 1) := by decide +kernel
theorem dX0_coverHole_3 : decode cX0_coverHole 3 = .ok (.iconst 1, 1) := by decide +kernel
theorem dX0_coverHole_4 : decode cX0_coverHole 4 = .ok (.iadd, 1) := by decide +kernel
theorem dX0_coverHole_5 : decode cX0_coverHole 5 = .ok (.iconst 0, 1) := by decide +kernel
theorem dX0_coverHole_6 : decode cX0_coverHole 6 = .ok (.invokevirtual 82, 3) := by decide +kernel
theorem dX0_coverHole_9 : decode cX0_coverHole 9 = .ok (.istore 5, 2) := by decide +kernel
theorem dX0_coverHole_11 : decode cX0_coverHole 11 = .ok (.iconst 0, 1) := by decide +kernel
theorem dX0_coverHole_12 : decode cX0_coverHole 12 = .ok (.istore 6, 2) := by decide +kernel
theorem dX0_coverHole_14 : decode cX0_coverHole 14 = .ok (.iload_n 3, 1) := by decide +kernel
theorem dX0_coverHole_15 : decode cX0_coverHole 15 = .ok (.iconst 1, 1) := by decide +kernel
theorem dX0_coverHole_16 : decode cX0_coverHole 16 = .ok (.iadd, 1) := by decide +kernel
theorem dX0_coverHole_17 : decode cX0_coverHole 17 = .ok (.istore 7, 2) := by decide +kernel
theorem dX0_coverHole_19 : decode cX0_coverHole 19 = .ok (.iload 7, 2) := by decide +kernel
theorem dX0_coverHole_21 : decode cX0_coverHole 21 = .ok (.iload 4, 2) := by decide +kernel
theorem dX0_coverHole_23 : decode cX0_coverHole 23 = .ok (.if_icmp .ge 74, 3) := by decide +kernel
theorem dX0_coverHole_26 : decode cX0_coverHole 26 = .ok (.aload_n 0, 1) := by decide +kernel
theorem dX0_coverHole_27 : decode cX0_coverHole 27 = .ok (.getfield 28, 3) := by decide +kernel
theorem dX0_coverHole_30 : decode cX0_coverHole 30 = .ok (.iload 5, 2) := by decide +kernel
theorem dX0_coverHole_32 : decode cX0_coverHole 32 = .ok (.iload 7, 2) := by decide +kernel
theorem dX0_coverHole_34 : decode cX0_coverHole 34 = .ok (.iadd, 1) := by decide +kernel
theorem dX0_coverHole_35 : decode cX0_coverHole 35 = .ok (.iaload, 1) := by decide +kernel
theorem dX0_coverHole_36 : decode cX0_coverHole 36 = .ok (.istore 8, 2) := by decide +kernel
theorem dX0_coverHole_38 : decode cX0_coverHole 38 = .ok (.iload 8, 2) := by decide +kernel
theorem dX0_coverHole_40 : decode cX0_coverHole 40 = .ok (.ifCond .le 51, 3) := by decide +kernel
theorem dX0_coverHole_43 : decode cX0_coverHole 43 = .ok (.iload_n 3, 1) := by decide +kernel
theorem dX0_coverHole_44 : decode cX0_coverHole 44 = .ok (.iload 7, 2) := by decide +kernel
theorem dX0_coverHole_46 : decode cX0_coverHole 46 = .ok (.invokestatic 42, 3) := by decide +kernel
theorem dX0_coverHole_49 : decode cX0_coverHole 49 = .ok (.istore 9, 2) := by decide +kernel
theorem dX0_coverHole_51 : decode cX0_coverHole 51 = .ok (.iload 6, 2) := by decide +kernel
theorem dX0_coverHole_53 : decode cX0_coverHole 53 = .ok (.iload_n 2, 1) := by decide +kernel
theorem dX0_coverHole_54 : decode cX0_coverHole 54 = .ok (.ifCond .ne 20, 3) := by decide +kernel
theorem dX0_coverHole_57 : decode cX0_coverHole 57 = .ok (.aload_n 0, 1) := by decide +kernel
theorem dX0_coverHole_58 : decode cX0_coverHole 58 = .ok (.getfield 25, 3) := by decide +kernel
theorem dX0_coverHole_61 : decode cX0_coverHole 61 = .ok (.iload 9, 2) := by decide +kernel
theorem dX0_coverHole_63 : decode cX0_coverHole 63 = .ok (.aload_n 0, 1) := by decide +kernel
theorem dX0_coverHole_64 : decode cX0_coverHole 64 = .ok (.getfield 35, 3) := by decide +kernel
theorem dX0_coverHole_67 : decode cX0_coverHole 67 = .ok (.imul, 1) := by decide +kernel
theorem dX0_coverHole_68 : decode cX0_coverHole 68 = .ok (.iload_n 1, 1) := by decide +kernel
theorem dX0_coverHole_69 : decode cX0_coverHole 69 = .ok (.iadd, 1) := by decide +kernel
theorem dX0_coverHole_70 : decode cX0_coverHole 70 = .ok (.iaload, 1) := by decide +kernel
theorem dX0_coverHole_71 : decode cX0_coverHole 71 = .ok (.goto 10, 3) := by decide +kernel
theorem dX0_coverHole_74 : decode cX0_coverHole 74 = .ok (.aload_n 0, 1) := by decide +kernel
theorem dX0_coverHole_75 : decode cX0_coverHole 75 = .ok (.getfield 19, 3) := by decide +kernel
theorem dX0_coverHole_78 : decode cX0_coverHole 78 = .ok (.iload 9, 2) := by decide +kernel
theorem dX0_coverHole_80 : decode cX0_coverHole 80 = .ok (.iaload, 1) := by decide +kernel
theorem dX0_coverHole_81 : decode cX0_coverHole 81 = .ok (.iload 8, 2) := by decide +kernel
theorem dX0_coverHole_83 : decode cX0_coverHole 83 = .ok (.invokestatic 120, 3) := by decide +kernel
theorem dX0_coverHole_86 : decode cX0_coverHole 86 = .ok (.invokestatic 92, 3) := by decide +kernel
theorem dX0_coverHole_89 : decode cX0_coverHole 89 = .ok (.istore 6, 2) := by decide +kernel
theorem dX0_coverHole_91 : decode cX0_coverHole 91 = .ok (.iinc 7 1, 3) := by decide +kernel
theorem dX0_coverHole_94 : decode cX0_coverHole 94 = .ok (.goto (-75), 3) := by decide +kernel
theorem dX0_coverHole_97 : decode cX0_coverHole 97 = .ok (.iload 6, 2) := by decide +kernel
theorem dX0_coverHole_99 : decode cX0_coverHole 99 = .ok (.ireturn, 1) := by decide +kernel
/-! MixfixDesk$Chart.coverHole(IIII)I -/
abbrev rm_X0_coverHole : Room := { frames := 2, cells := 0, slots := 0, locals := 44 }
theorem X0_coverHole_inX0 : ∀ w ∈ wsX00, w ∈ wsX0_coverHole := by decide +kernel
abbrev RT_X0_coverHole (p : Program) (l : Launch) (e : Env) (s : State) (m : MethodId) (args : Array Value) (below : List Frame) (meth : Method) (c : Code) (Q : State → Prop) (dC : Nat → ClassId) (dI : Nat → Nat → Nat) (cI cJ cB cZ : ClassId) (A : Nat → Prop) (aC : Nat → Nat) (xC_rules : Nat) (gC_all : Nat) (gC_topped : Nat) (gC_firsts : Nat) (gC_ways : Nat) (C_size : Int32) (C_operators : Int32) (n_C_all : Nat) (C_all : Nat → Int32) (n_C_firsts : Nat) (C_firsts : Nat → Int32) (n_C_ways : Nat) (C_ways : Nat → Int32) (res : Int32) : Prop := ∀ (v : Int32) , some v = some res → ∀ (pc : Nat) (H : Heap) (locs : List Loc) (ls : Array Slot), decode cX0_coverHole pc = .ok (.ireturn, 1) → va_P (dC, dI) vwCl [((aC 0), .inr (0, [.ref xC_rules, .ref (aC 2), .ref (aC 3), .ref gC_all, .ref gC_topped, .ref gC_firsts, .ref gC_ways, .int C_size, .int C_operators])), (gC_all, .inl (cI, n_C_all, .inl C_all)), (gC_firsts, .inl (cI, n_C_firsts, .inl C_firsts)), (gC_ways, .inl (cI, n_C_ways, .inl C_ways))] H → va_D A [((aC 0), .inr (0, [.ref xC_rules, .ref (aC 2), .ref (aC 3), .ref gC_all, .ref gC_topped, .ref gC_firsts, .ref gC_ways, .int C_size, .int C_operators])), (gC_all, .inl (cI, n_C_all, .inl C_all)), (gC_firsts, .inl (cI, n_C_firsts, .inl C_firsts)), (gC_ways, .inl (cI, n_C_ways, .inl C_ways))] → va_S A s.heap H locs → W p l e rm_X0_coverHole s m args below meth c H locs 0 0 Q (F0 m pc ls [.int v])
set_option maxHeartbeats 4000000 in
set_option maxRecDepth 100000 in
theorem k_X0_coverHole_91 {p : Program} {l : Launch} {e : Env} {s : State} {m : MethodId} {args : Array Value} {below : List Frame} {meth : Method} {c : Code} {Q : State → Prop} {dC : Nat → ClassId} {dI : Nat → Nat → Nat} {cI cJ cB cZ : ClassId} {A : Nat → Prop} (C0 : Cx p s m meth c args cX0_coverHole 10 (some .int) wsX0_coverHole RX0) (hK : va_K (dC, dI) vwCl [(cI, .int), (cJ, .long), (cB, .byte), (cZ, .boolean)] s) (hN : NW s) (hA : ∀ q, s.heap.size ≤ q → A q) (aC : Nat → Nat) (xC_rules : Nat) (gC_all : Nat) (gC_topped : Nat) (gC_firsts : Nat) (gC_ways : Nat) (C_size : Int32) (C_operators : Int32) (n_C_all : Nat) (C_all : Nat → Int32) (n_C_firsts : Nat) (C_firsts : Nat → Int32) (n_C_ways : Nat) (C_ways : Nat → Int32) (res : Int32) (RET : RT_X0_coverHole p l e s m args below meth c Q dC dI cI cJ cB cZ A aC xC_rules gC_all gC_topped gC_firsts gC_ways C_size C_operators n_C_all C_all n_C_firsts C_firsts n_C_ways C_ways res) (k19 : Int32 → Int32 → Int32 → Int32 → Int32 → Int32 → Int32 → Option (Int32)) (hk19 : ∀ (x1 : Int32) (x2 : Int32) (x3 : Int32) (x4 : Int32) (x5 : Int32) (x6 : Int32) (x7 : Int32), k19 x1 x2 x3 x4 x5 x6 x7 = some res → ∀ (H : Heap) (locs : List Loc), va_P (dC, dI) vwCl [((aC 0), .inr (0, [.ref xC_rules, .ref (aC 2), .ref (aC 3), .ref gC_all, .ref gC_topped, .ref gC_firsts, .ref gC_ways, .int C_size, .int C_operators])), (gC_all, .inl (cI, n_C_all, .inl C_all)), (gC_firsts, .inl (cI, n_C_firsts, .inl C_firsts)), (gC_ways, .inl (cI, n_C_ways, .inl C_ways))] H → va_D A [((aC 0), .inr (0, [.ref xC_rules, .ref (aC 2), .ref (aC 3), .ref gC_all, .ref gC_topped, .ref gC_firsts, .ref gC_ways, .int C_size, .int C_operators])), (gC_all, .inl (cI, n_C_all, .inl C_all)), (gC_firsts, .inl (cI, n_C_firsts, .inl C_firsts)), (gC_ways, .inl (cI, n_C_ways, .inl C_ways))] → va_S A s.heap H locs → ∀ (ls : Array Slot), lv_has ls 10 [(0, .ref (aC 0)), (1, .int x1), (2, .int x2), (3, .int x3), (4, .int x4), (5, .int x5), (6, .int x6), (7, .int x7)] → W p l e rm_X0_coverHole s m args below meth c H locs 0 0 Q (F0 m 19 ls [])) : ∀ (x1 : Int32) (x2 : Int32) (x3 : Int32) (x4 : Int32) (x5 : Int32) (x6 : Int32) (x7 : Int32), m_X0_coverHole_91 C_size C_operators n_C_all C_all n_C_firsts C_firsts n_C_ways C_ways k19 x1 x2 x3 x4 x5 x6 x7 = some res → ∀ (H : Heap) (locs : List Loc), va_P (dC, dI) vwCl [((aC 0), .inr (0, [.ref xC_rules, .ref (aC 2), .ref (aC 3), .ref gC_all, .ref gC_topped, .ref gC_firsts, .ref gC_ways, .int C_size, .int C_operators])), (gC_all, .inl (cI, n_C_all, .inl C_all)), (gC_firsts, .inl (cI, n_C_firsts, .inl C_firsts)), (gC_ways, .inl (cI, n_C_ways, .inl C_ways))] H → va_D A [((aC 0), .inr (0, [.ref xC_rules, .ref (aC 2), .ref (aC 3), .ref gC_all, .ref gC_topped, .ref gC_firsts, .ref gC_ways, .int C_size, .int C_operators])), (gC_all, .inl (cI, n_C_all, .inl C_all)), (gC_firsts, .inl (cI, n_C_firsts, .inl C_firsts)), (gC_ways, .inl (cI, n_C_ways, .inl C_ways))] → va_S A s.heap H locs → ∀ (ls : Array Slot), lv_has ls 10 [(0, .ref (aC 0)), (1, .int x1), (2, .int x2), (3, .int x3), (4, .int x4), (5, .int x5), (6, .int x6), (7, .int x7)] → W p l e rm_X0_coverHole s m args below meth c H locs 0 0 Q (F0 m 91 ls []) := by
  obtain ⟨⟨hx, hb, hml, hown, hts⟩, hr, hlocks⟩ := id C0
  intro x1 x2 x3 x4 x5 x6 x7 hm H locs hP hD hS ls hl
  have hm : (k19 x1 x2 x3 x4 x5 x6 (x7 + 1)) = some res := hm
  refine lv_iinc (v := x7 + 1) (lv' := [(7, .int (x7 + 1)), (0, .ref (aC 0)), (1, .int x1), (2, .int x2), (3, .int x3), (4, .int x4), (5, .int x5), (6, .int x6)]) hx hb dX0_coverHole_91 hl (k := 7) rfl rfl (by decide) rfl (fun ls hl => ?_)
  refine lv_goto (tgt := 19) hx hb dX0_coverHole_94 (by decide) ?_
  exact hk19 x1 x2 x3 x4 x5 x6 (x7 + 1) hm H locs hP hD hS ls (lv_sub hl [1, 2, 3, 4, 5, 6, 7, 0] rfl)
set_option maxHeartbeats 4000000 in
set_option maxRecDepth 100000 in
theorem k_X0_coverHole_81 {p : Program} {l : Launch} {e : Env} {s : State} {m : MethodId} {args : Array Value} {below : List Frame} {meth : Method} {c : Code} {Q : State → Prop} {dC : Nat → ClassId} {dI : Nat → Nat → Nat} {cI cJ cB cZ : ClassId} {A : Nat → Prop} (C0 : Cx p s m meth c args cX0_coverHole 10 (some .int) wsX0_coverHole RX0) (hK : va_K (dC, dI) vwCl [(cI, .int), (cJ, .long), (cB, .byte), (cZ, .boolean)] s) (hN : NW s) (hA : ∀ q, s.heap.size ≤ q → A q) (aC : Nat → Nat) (xC_rules : Nat) (gC_all : Nat) (gC_topped : Nat) (gC_firsts : Nat) (gC_ways : Nat) (C_size : Int32) (C_operators : Int32) (n_C_all : Nat) (C_all : Nat → Int32) (n_C_firsts : Nat) (C_firsts : Nat → Int32) (n_C_ways : Nat) (C_ways : Nat → Int32) (res : Int32) (RET : RT_X0_coverHole p l e s m args below meth c Q dC dI cI cJ cB cZ A aC xC_rules gC_all gC_topped gC_firsts gC_ways C_size C_operators n_C_all C_all n_C_firsts C_firsts n_C_ways C_ways res) (k19 : Int32 → Int32 → Int32 → Int32 → Int32 → Int32 → Int32 → Option (Int32)) (hk19 : ∀ (x1 : Int32) (x2 : Int32) (x3 : Int32) (x4 : Int32) (x5 : Int32) (x6 : Int32) (x7 : Int32), k19 x1 x2 x3 x4 x5 x6 x7 = some res → ∀ (H : Heap) (locs : List Loc), va_P (dC, dI) vwCl [((aC 0), .inr (0, [.ref xC_rules, .ref (aC 2), .ref (aC 3), .ref gC_all, .ref gC_topped, .ref gC_firsts, .ref gC_ways, .int C_size, .int C_operators])), (gC_all, .inl (cI, n_C_all, .inl C_all)), (gC_firsts, .inl (cI, n_C_firsts, .inl C_firsts)), (gC_ways, .inl (cI, n_C_ways, .inl C_ways))] H → va_D A [((aC 0), .inr (0, [.ref xC_rules, .ref (aC 2), .ref (aC 3), .ref gC_all, .ref gC_topped, .ref gC_firsts, .ref gC_ways, .int C_size, .int C_operators])), (gC_all, .inl (cI, n_C_all, .inl C_all)), (gC_firsts, .inl (cI, n_C_firsts, .inl C_firsts)), (gC_ways, .inl (cI, n_C_ways, .inl C_ways))] → va_S A s.heap H locs → ∀ (ls : Array Slot), lv_has ls 10 [(0, .ref (aC 0)), (1, .int x1), (2, .int x2), (3, .int x3), (4, .int x4), (5, .int x5), (6, .int x6), (7, .int x7)] → W p l e rm_X0_coverHole s m args below meth c H locs 0 0 Q (F0 m 19 ls [])) : ∀ (x1 : Int32) (x2 : Int32) (x3 : Int32) (x4 : Int32) (x5 : Int32) (x7 : Int32) (x8 : Int32) (y0 : Int32) (y1 : Int32), m_X0_coverHole_81 C_size C_operators n_C_all C_all n_C_firsts C_firsts n_C_ways C_ways k19 x1 x2 x3 x4 x5 x7 x8 y0 y1 = some res → ∀ (H : Heap) (locs : List Loc), va_P (dC, dI) vwCl [((aC 0), .inr (0, [.ref xC_rules, .ref (aC 2), .ref (aC 3), .ref gC_all, .ref gC_topped, .ref gC_firsts, .ref gC_ways, .int C_size, .int C_operators])), (gC_all, .inl (cI, n_C_all, .inl C_all)), (gC_firsts, .inl (cI, n_C_firsts, .inl C_firsts)), (gC_ways, .inl (cI, n_C_ways, .inl C_ways))] H → va_D A [((aC 0), .inr (0, [.ref xC_rules, .ref (aC 2), .ref (aC 3), .ref gC_all, .ref gC_topped, .ref gC_firsts, .ref gC_ways, .int C_size, .int C_operators])), (gC_all, .inl (cI, n_C_all, .inl C_all)), (gC_firsts, .inl (cI, n_C_firsts, .inl C_firsts)), (gC_ways, .inl (cI, n_C_ways, .inl C_ways))] → va_S A s.heap H locs → ∀ (ls : Array Slot), lv_has ls 10 [(0, .ref (aC 0)), (1, .int x1), (2, .int x2), (3, .int x3), (4, .int x4), (5, .int x5), (7, .int x7), (8, .int x8)] → W p l e rm_X0_coverHole s m args below meth c H locs 0 0 Q (F0 m 81 ls [.int y0, .int y1]) := by
  obtain ⟨⟨hx, hb, hml, hown, hts⟩, hr, hlocks⟩ := id C0
  intro x1 x2 x3 x4 x5 x7 x8 y0 y1 hm H locs hP hD hS ls hl
  have hm : (Option.bind (m_X8_times y0 x8) (fun r_1 => Option.bind (m_X8_plus y1 r_1) (fun r_3 => m_X0_coverHole_91 C_size C_operators n_C_all C_all n_C_firsts C_firsts n_C_ways C_ways k19 x1 x2 x3 x4 x5 r_3 x7))) = some res := hm
  refine lv_iload hx hb dX0_coverHole_81 (lv_at hl 7 rfl) ?_
  obtain ⟨r_1, hc_2, hm⟩ := ob_some hm
  refine cx_i (wr := [((aC 0), .inr (0, [.ref xC_rules, .ref (aC 2), .ref (aC 3), .ref gC_all, .ref gC_topped, .ref gC_firsts, .ref gC_ways, .int C_size, .int C_operators])), (gC_all, .inl (cI, n_C_all, .inl C_all)), (gC_firsts, .inl (cI, n_C_firsts, .inl C_firsts)), (gC_ways, .inl (cI, n_C_ways, .inl C_ways))]) (va_runSN (As := [.int y0, .int x8]) (rest := [.int y1]) C0.1 (c_X8_times l dC dI cI cJ cB cZ H.size y0 x8 r_1 hc_2) ⟨va_cnB 2 hts gX0_coverHole_X8_times_n120 rfl rfl rfl (hN (RX0, 120, yX8_times, "MixfixDesk") (by decide +kernel)) (hts (.initialized RX8) (by decide +kernel)) (by decide +kernel) ⟨Nat.le_of_ble_eq_true rfl, Nat.le_of_ble_eq_true rfl⟩, (hts (.static yX8_times) (by decide +kernel)), trivial⟩ (cP_S hK hN hP hD [] (by decide) rfl) rfl rfl hl.1 rfl (lv_room (Nat.le_of_ble_eq_true rfl)) dX0_coverHole_83 ⟨Nat.le_of_ble_eq_true rfl, Nat.le_of_ble_eq_true rfl⟩) hP hD hS hA [] [0, 1, 2, 3] rfl rfl (by decide) (by decide) (fun H locs hP hD hS => ?_)
  have hP : va_P (dC, dI) vwCl [((aC 0), .inr (0, [.ref xC_rules, .ref (aC 2), .ref (aC 3), .ref gC_all, .ref gC_topped, .ref gC_firsts, .ref gC_ways, .int C_size, .int C_operators])), (gC_all, .inl (cI, n_C_all, .inl C_all)), (gC_firsts, .inl (cI, n_C_firsts, .inl C_firsts)), (gC_ways, .inl (cI, n_C_ways, .inl C_ways))] H := hP
  have hD : va_D A [((aC 0), .inr (0, [.ref xC_rules, .ref (aC 2), .ref (aC 3), .ref gC_all, .ref gC_topped, .ref gC_firsts, .ref gC_ways, .int C_size, .int C_operators])), (gC_all, .inl (cI, n_C_all, .inl C_all)), (gC_firsts, .inl (cI, n_C_firsts, .inl C_firsts)), (gC_ways, .inl (cI, n_C_ways, .inl C_ways))] := hD
  obtain ⟨r_3, hc_4, hm⟩ := ob_some hm
  refine cx_i (wr := [((aC 0), .inr (0, [.ref xC_rules, .ref (aC 2), .ref (aC 3), .ref gC_all, .ref gC_topped, .ref gC_firsts, .ref gC_ways, .int C_size, .int C_operators])), (gC_all, .inl (cI, n_C_all, .inl C_all)), (gC_firsts, .inl (cI, n_C_firsts, .inl C_firsts)), (gC_ways, .inl (cI, n_C_ways, .inl C_ways))]) (va_runSN (As := [.int y1, .int r_1]) (rest := []) C0.1 (c_X8_plus l dC dI cI cJ cB cZ H.size y1 r_1 r_3 hc_4) ⟨va_cnB 2 hts gX0_coverHole_X8_plus_n92 rfl rfl rfl (hN (RX0, 92, yX8_plus, "MixfixDesk") (by decide +kernel)) (hts (.initialized RX8) (by decide +kernel)) (by decide +kernel) ⟨Nat.le_of_ble_eq_true rfl, Nat.le_of_ble_eq_true rfl⟩, (hts (.static yX8_plus) (by decide +kernel)), trivial⟩ (cP_S hK hN hP hD [] (by decide) rfl) rfl rfl hl.1 rfl (lv_room (Nat.le_of_ble_eq_true rfl)) dX0_coverHole_86 ⟨Nat.le_of_ble_eq_true rfl, Nat.le_of_ble_eq_true rfl⟩) hP hD hS hA [] [0, 1, 2, 3] rfl rfl (by decide) (by decide) (fun H locs hP hD hS => ?_)
  have hP : va_P (dC, dI) vwCl [((aC 0), .inr (0, [.ref xC_rules, .ref (aC 2), .ref (aC 3), .ref gC_all, .ref gC_topped, .ref gC_firsts, .ref gC_ways, .int C_size, .int C_operators])), (gC_all, .inl (cI, n_C_all, .inl C_all)), (gC_firsts, .inl (cI, n_C_firsts, .inl C_firsts)), (gC_ways, .inl (cI, n_C_ways, .inl C_ways))] H := hP
  have hD : va_D A [((aC 0), .inr (0, [.ref xC_rules, .ref (aC 2), .ref (aC 3), .ref gC_all, .ref gC_topped, .ref gC_firsts, .ref gC_ways, .int C_size, .int C_operators])), (gC_all, .inl (cI, n_C_all, .inl C_all)), (gC_firsts, .inl (cI, n_C_firsts, .inl C_firsts)), (gC_ways, .inl (cI, n_C_ways, .inl C_ways))] := hD
  refine lv_istore (lv' := [(6, .int r_3), (0, .ref (aC 0)), (1, .int x1), (2, .int x2), (3, .int x3), (4, .int x4), (5, .int x5), (7, .int x7), (8, .int x8)]) hx hb dX0_coverHole_89 hl (by decide) rfl (fun ls hl => ?_)
  exact k_X0_coverHole_91 C0 hK hN hA aC xC_rules gC_all gC_topped gC_firsts gC_ways C_size C_operators n_C_all C_all n_C_firsts C_firsts n_C_ways C_ways res RET k19 hk19 x1 x2 x3 x4 x5 r_3 x7 hm H locs hP hD hS ls (lv_sub hl [1, 2, 3, 4, 5, 6, 0, 7] rfl)
set_option maxHeartbeats 4000000 in
set_option maxRecDepth 100000 in
theorem k_X0_coverHole_19 {p : Program} {l : Launch} {e : Env} {s : State} {m : MethodId} {args : Array Value} {below : List Frame} {meth : Method} {c : Code} {Q : State → Prop} {dC : Nat → ClassId} {dI : Nat → Nat → Nat} {cI cJ cB cZ : ClassId} {A : Nat → Prop} (C0 : Cx p s m meth c args cX0_coverHole 10 (some .int) wsX0_coverHole RX0) (hK : va_K (dC, dI) vwCl [(cI, .int), (cJ, .long), (cB, .byte), (cZ, .boolean)] s) (hN : NW s) (hA : ∀ q, s.heap.size ≤ q → A q) (aC : Nat → Nat) (xC_rules : Nat) (gC_all : Nat) (gC_topped : Nat) (gC_firsts : Nat) (gC_ways : Nat) (C_size : Int32) (C_operators : Int32) (n_C_all : Nat) (C_all : Nat → Int32) (n_C_firsts : Nat) (C_firsts : Nat → Int32) (n_C_ways : Nat) (C_ways : Nat → Int32) (res : Int32) (RET : RT_X0_coverHole p l e s m args below meth c Q dC dI cI cJ cB cZ A aC xC_rules gC_all gC_topped gC_firsts gC_ways C_size C_operators n_C_all C_all n_C_firsts C_firsts n_C_ways C_ways res)   : ∀ (n : Nat) (x1 : Int32) (x2 : Int32) (x3 : Int32) (x4 : Int32) (x5 : Int32) (x6 : Int32) (x7 : Int32), m_X0_coverHole_19 C_size C_operators n_C_all C_all n_C_firsts C_firsts n_C_ways C_ways n x1 x2 x3 x4 x5 x6 x7 = some res → ∀ (H : Heap) (locs : List Loc), va_P (dC, dI) vwCl [((aC 0), .inr (0, [.ref xC_rules, .ref (aC 2), .ref (aC 3), .ref gC_all, .ref gC_topped, .ref gC_firsts, .ref gC_ways, .int C_size, .int C_operators])), (gC_all, .inl (cI, n_C_all, .inl C_all)), (gC_firsts, .inl (cI, n_C_firsts, .inl C_firsts)), (gC_ways, .inl (cI, n_C_ways, .inl C_ways))] H → va_D A [((aC 0), .inr (0, [.ref xC_rules, .ref (aC 2), .ref (aC 3), .ref gC_all, .ref gC_topped, .ref gC_firsts, .ref gC_ways, .int C_size, .int C_operators])), (gC_all, .inl (cI, n_C_all, .inl C_all)), (gC_firsts, .inl (cI, n_C_firsts, .inl C_firsts)), (gC_ways, .inl (cI, n_C_ways, .inl C_ways))] → va_S A s.heap H locs → ∀ (ls : Array Slot), lv_has ls 10 [(0, .ref (aC 0)), (1, .int x1), (2, .int x2), (3, .int x3), (4, .int x4), (5, .int x5), (6, .int x6), (7, .int x7)] → W p l e rm_X0_coverHole s m args below meth c H locs 0 0 Q (F0 m 19 ls []) := by
  obtain ⟨⟨hx, hb, hml, hown, hts⟩, hr, hlocks⟩ := id C0
  intro n
  induction n with
  | zero =>
    intro x1 x2 x3 x4 x5 x6 x7 hm
    exact absurd hm (by intro h; cases h)
  | succ n ih =>
    intro x1 x2 x3 x4 x5 x6 x7 hm H locs hP hD hS ls hl
    have hm : (if x4 ≤ x7 then (some x6) else (gd (x5 + x7) n_C_ways (if (C_ways (x5 + x7).toNatClampNeg) ≤ 0 then (m_X0_coverHole_91 C_size C_operators n_C_all C_all n_C_firsts C_firsts n_C_ways C_ways (m_X0_coverHole_19 C_size C_operators n_C_all C_all n_C_firsts C_firsts n_C_ways C_ways n) x1 x2 x3 x4 x5 x6 x7) else (Option.bind (m_X0_span x3 x7) (fun r_8 => if x2 = 0 then (gd ((r_8 * C_operators) + x1) n_C_firsts (m_X0_coverHole_81 C_size C_operators n_C_all C_all n_C_firsts C_firsts n_C_ways C_ways (m_X0_coverHole_19 C_size C_operators n_C_all C_all n_C_firsts C_firsts n_C_ways C_ways n) x1 x2 x3 x4 x5 x7 (C_ways (x5 + x7).toNatClampNeg) (C_firsts ((r_8 * C_operators) + x1).toNatClampNeg) x6)) else (gd r_8 n_C_all (m_X0_coverHole_81 C_size C_operators n_C_all C_all n_C_firsts C_firsts n_C_ways C_ways (m_X0_coverHole_19 C_size C_operators n_C_all C_all n_C_firsts C_firsts n_C_ways C_ways n) x1 x2 x3 x4 x5 x7 (C_ways (x5 + x7).toNatClampNeg) (C_all r_8.toNatClampNeg) x6))))))) = some res := hm
    refine lv_iload hx hb dX0_coverHole_19 (lv_at hl 7 rfl) ?_
    refine lv_iload hx hb dX0_coverHole_21 (lv_at hl 4 rfl) ?_
    refine lv_icmp_ge (tgt := 97) hx hb dX0_coverHole_23 (by decide) (fun c_5 => ?_) (fun c_5 => ?_)
    · have hm := it_some c_5 hm
      refine lv_iload hx hb dX0_coverHole_97 (lv_at hl 6 rfl) ?_
      exact RET x6 hm _ H locs ls dX0_coverHole_99 hP hD hS
    · have hm := if_some' c_5 hm
      refine lv_aload_n hx hb dX0_coverHole_26 rfl (lv_at hl 0 rfl) ?_
      refine va_get (D := (dC, dI)) (ci := 0) (v := .ref gC_ways) (C := RX0) (T := TX0) (N := 9) hx hb hts X0_coverHole_inX0 hown hK hP 0 rfl rfl 6 (by decide) (hts (.fieldLink RX0 28 "MixfixDesk$Chart" "ways" "[I") (by decide +kernel)) (fun _ h9 => h9) rfl dX0_coverHole_27 ?_
      refine lv_iload hx hb dX0_coverHole_30 (lv_at hl 5 rfl) ?_
      refine lv_iload hx hb dX0_coverHole_32 (lv_at hl 7 rfl) ?_
      refine lv_iadd hx hb dX0_coverHole_34 ?_
      obtain ⟨hi_6, hm⟩ := gd_some hm
      refine va_iald (D := (dC, dI)) hx hb hK hP 3 0 rfl rfl hi_6 dX0_coverHole_35 ?_
      refine lv_istore (lv' := [(8, .int (C_ways (x5 + x7).toNatClampNeg)), (0, .ref (aC 0)), (1, .int x1), (2, .int x2), (3, .int x3), (4, .int x4), (5, .int x5), (6, .int x6), (7, .int x7)]) hx hb dX0_coverHole_36 hl (by decide) rfl (fun ls hl => ?_)
      refine lv_iload hx hb dX0_coverHole_38 (lv_at hl 0 rfl) ?_
      refine lv_if_le (tgt := 91) hx hb dX0_coverHole_40 (by decide) (fun c_7 => ?_) (fun c_7 => ?_)
      · have hm := it_some c_7 hm
        exact k_X0_coverHole_91 C0 hK hN hA aC xC_rules gC_all gC_topped gC_firsts gC_ways C_size C_operators n_C_all C_all n_C_firsts C_firsts n_C_ways C_ways res RET (m_X0_coverHole_19 C_size C_operators n_C_all C_all n_C_firsts C_firsts n_C_ways C_ways n) ih x1 x2 x3 x4 x5 x6 x7 hm H locs hP hD hS ls (lv_sub hl [1, 2, 3, 4, 5, 6, 7, 8] rfl)
      · have hm := if_some' c_7 hm
        refine lv_iload_n hx hb dX0_coverHole_43 rfl (lv_at hl 4 rfl) ?_
        refine lv_iload hx hb dX0_coverHole_44 (lv_at hl 8 rfl) ?_
        obtain ⟨r_8, hc_9, hm⟩ := ob_some hm
        refine cx_i (wr := [((aC 0), .inr (0, [.ref xC_rules, .ref (aC 2), .ref (aC 3), .ref gC_all, .ref gC_topped, .ref gC_firsts, .ref gC_ways, .int C_size, .int C_operators])), (gC_all, .inl (cI, n_C_all, .inl C_all)), (gC_firsts, .inl (cI, n_C_firsts, .inl C_firsts)), (gC_ways, .inl (cI, n_C_ways, .inl C_ways))]) (va_runS (As := [.int x3, .int x7]) (rest := []) C0.1 (c_X0_span l dC dI cI cJ cB cZ H.size x3 x7 r_8 hc_9) (va_cwS 2 hts gX0_coverHole_X0_span rfl rfl rfl (by decide +kernel) ⟨Nat.le_of_ble_eq_true rfl, Nat.le_of_ble_eq_true rfl⟩) (cP_S hK hN hP hD [] (by decide) rfl) rfl rfl hl.1 rfl (lv_room (Nat.le_of_ble_eq_true rfl)) dX0_coverHole_46 ⟨Nat.le_of_ble_eq_true rfl, Nat.le_of_ble_eq_true rfl⟩) hP hD hS hA [] [0, 1, 2, 3] rfl rfl (by decide) (by decide) (fun H locs hP hD hS => ?_)
        have hP : va_P (dC, dI) vwCl [((aC 0), .inr (0, [.ref xC_rules, .ref (aC 2), .ref (aC 3), .ref gC_all, .ref gC_topped, .ref gC_firsts, .ref gC_ways, .int C_size, .int C_operators])), (gC_all, .inl (cI, n_C_all, .inl C_all)), (gC_firsts, .inl (cI, n_C_firsts, .inl C_firsts)), (gC_ways, .inl (cI, n_C_ways, .inl C_ways))] H := hP
        have hD : va_D A [((aC 0), .inr (0, [.ref xC_rules, .ref (aC 2), .ref (aC 3), .ref gC_all, .ref gC_topped, .ref gC_firsts, .ref gC_ways, .int C_size, .int C_operators])), (gC_all, .inl (cI, n_C_all, .inl C_all)), (gC_firsts, .inl (cI, n_C_firsts, .inl C_firsts)), (gC_ways, .inl (cI, n_C_ways, .inl C_ways))] := hD
        refine lv_istore (lv' := [(9, .int r_8), (8, .int (C_ways (x5 + x7).toNatClampNeg)), (0, .ref (aC 0)), (1, .int x1), (2, .int x2), (3, .int x3), (4, .int x4), (5, .int x5), (6, .int x6), (7, .int x7)]) hx hb dX0_coverHole_49 hl (by decide) rfl (fun ls hl => ?_)
        refine lv_iload hx hb dX0_coverHole_51 (lv_at hl 8 rfl) ?_
        refine lv_iload_n hx hb dX0_coverHole_53 rfl (lv_at hl 4 rfl) ?_
        refine lv_if_ne (tgt := 74) hx hb dX0_coverHole_54 (by decide) (fun c_10 => ?_) (fun c_10 => ?_)
        · have hm := if_some' c_10 hm
          refine lv_aload_n hx hb dX0_coverHole_74 rfl (lv_at hl 2 rfl) ?_
          refine va_get (D := (dC, dI)) (ci := 0) (v := .ref gC_all) (C := RX0) (T := TX0) (N := 9) hx hb hts X0_coverHole_inX0 hown hK hP 0 rfl rfl 3 (by decide) (hts (.fieldLink RX0 19 "MixfixDesk$Chart" "all" "[I") (by decide +kernel)) (fun _ h9 => h9) rfl dX0_coverHole_75 ?_
          refine lv_iload hx hb dX0_coverHole_78 (lv_at hl 0 rfl) ?_
          obtain ⟨hi_11, hm⟩ := gd_some hm
          refine va_iald (D := (dC, dI)) hx hb hK hP 1 0 rfl rfl hi_11 dX0_coverHole_80 ?_
          exact k_X0_coverHole_81 C0 hK hN hA aC xC_rules gC_all gC_topped gC_firsts gC_ways C_size C_operators n_C_all C_all n_C_firsts C_firsts n_C_ways C_ways res RET (m_X0_coverHole_19 C_size C_operators n_C_all C_all n_C_firsts C_firsts n_C_ways C_ways n) ih x1 x2 x3 x4 x5 x7 (C_ways (x5 + x7).toNatClampNeg) (C_all r_8.toNatClampNeg) x6 hm H locs hP hD hS ls (lv_sub hl [2, 3, 4, 5, 6, 7, 9, 1] rfl)
        · have hm := it_some c_10 hm
          refine lv_aload_n hx hb dX0_coverHole_57 rfl (lv_at hl 2 rfl) ?_
          refine va_get (D := (dC, dI)) (ci := 0) (v := .ref gC_firsts) (C := RX0) (T := TX0) (N := 9) hx hb hts X0_coverHole_inX0 hown hK hP 0 rfl rfl 5 (by decide) (hts (.fieldLink RX0 25 "MixfixDesk$Chart" "firsts" "[I") (by decide +kernel)) (fun _ h9 => h9) rfl dX0_coverHole_58 ?_
          refine lv_iload hx hb dX0_coverHole_61 (lv_at hl 0 rfl) ?_
          refine lv_aload_n hx hb dX0_coverHole_63 rfl (lv_at hl 2 rfl) ?_
          refine va_get (D := (dC, dI)) (ci := 0) (v := .int C_operators) (C := RX0) (T := TX0) (N := 9) hx hb hts X0_coverHole_inX0 hown hK hP 0 rfl rfl 8 (by decide) (hts (.fieldLink RX0 35 "MixfixDesk$Chart" "operators" "I") (by decide +kernel)) (fun _ h9 => h9) rfl dX0_coverHole_64 ?_
          refine lv_imul hx hb dX0_coverHole_67 ?_
          refine lv_iload_n hx hb dX0_coverHole_68 rfl (lv_at hl 3 rfl) ?_
          refine lv_iadd hx hb dX0_coverHole_69 ?_
          obtain ⟨hi_12, hm⟩ := gd_some hm
          refine va_iald (D := (dC, dI)) hx hb hK hP 2 0 rfl rfl hi_12 dX0_coverHole_70 ?_
          refine lv_goto (tgt := 81) hx hb dX0_coverHole_71 (by decide) ?_
          exact k_X0_coverHole_81 C0 hK hN hA aC xC_rules gC_all gC_topped gC_firsts gC_ways C_size C_operators n_C_all C_all n_C_firsts C_firsts n_C_ways C_ways res RET (m_X0_coverHole_19 C_size C_operators n_C_all C_all n_C_firsts C_firsts n_C_ways C_ways n) ih x1 x2 x3 x4 x5 x7 (C_ways (x5 + x7).toNatClampNeg) (C_firsts ((r_8 * C_operators) + x1).toNatClampNeg) x6 hm H locs hP hD hS ls (lv_sub hl [2, 3, 4, 5, 6, 7, 9, 1] rfl)
set_option maxHeartbeats 4000000 in
set_option maxRecDepth 100000 in
theorem k_X0_coverHole_E {p : Program} {l : Launch} {e : Env} {s : State} {m : MethodId} {args : Array Value} {below : List Frame} {meth : Method} {c : Code} {Q : State → Prop} {dC : Nat → ClassId} {dI : Nat → Nat → Nat} {cI cJ cB cZ : ClassId} {A : Nat → Prop} (C0 : Cx p s m meth c args cX0_coverHole 10 (some .int) wsX0_coverHole RX0) (hK : va_K (dC, dI) vwCl [(cI, .int), (cJ, .long), (cB, .byte), (cZ, .boolean)] s) (hN : NW s) (hA : ∀ q, s.heap.size ≤ q → A q) (aC : Nat → Nat) (xC_rules : Nat) (gC_all : Nat) (gC_topped : Nat) (gC_firsts : Nat) (gC_ways : Nat) (C_size : Int32) (C_operators : Int32) (n_C_all : Nat) (C_all : Nat → Int32) (n_C_firsts : Nat) (C_firsts : Nat → Int32) (n_C_ways : Nat) (C_ways : Nat → Int32) (res : Int32) (RET : RT_X0_coverHole p l e s m args below meth c Q dC dI cI cJ cB cZ A aC xC_rules gC_all gC_topped gC_firsts gC_ways C_size C_operators n_C_all C_all n_C_firsts C_firsts n_C_ways C_ways res) : ∀ (p0 : Int32) (p1 : Int32) (p2 : Int32) (p3 : Int32), m_X0_coverHole n_C_all C_all n_C_firsts C_firsts n_C_ways C_ways C_size C_operators p0 p1 p2 p3 = some res → ∀ (H : Heap) (locs : List Loc), va_P (dC, dI) vwCl [((aC 0), .inr (0, [.ref xC_rules, .ref (aC 2), .ref (aC 3), .ref gC_all, .ref gC_topped, .ref gC_firsts, .ref gC_ways, .int C_size, .int C_operators])), (gC_all, .inl (cI, n_C_all, .inl C_all)), (gC_firsts, .inl (cI, n_C_firsts, .inl C_firsts)), (gC_ways, .inl (cI, n_C_ways, .inl C_ways))] H → va_D A [((aC 0), .inr (0, [.ref xC_rules, .ref (aC 2), .ref (aC 3), .ref gC_all, .ref gC_topped, .ref gC_firsts, .ref gC_ways, .int C_size, .int C_operators])), (gC_all, .inl (cI, n_C_all, .inl C_all)), (gC_firsts, .inl (cI, n_C_firsts, .inl C_firsts)), (gC_ways, .inl (cI, n_C_ways, .inl C_ways))] → va_S A s.heap H locs → ∀ (ls : Array Slot), lv_has ls 10 [(0, .ref (aC 0)), (1, .int p0), (2, .int p1), (3, .int p2), (4, .int p3)] → W p l e rm_X0_coverHole s m args below meth c H locs 0 0 Q (F0 m 0 ls []) := by
  obtain ⟨⟨hx, hb, hml, hown, hts⟩, hr, hlocks⟩ := id C0
  intro p0 p1 p2 p3 hm H locs hP hD hS ls hl
  have hm : (Option.bind (m_X0_way C_size p0 (p1 + 1) 0) (fun r_13 => m_X0_coverHole_19 C_size C_operators n_C_all C_all n_C_firsts C_firsts n_C_ways C_ways FU p0 p1 p2 p3 r_13 0 (p2 + 1))) = some res := hm
  refine lv_aload_n hx hb dX0_coverHole_0 rfl (lv_at hl 0 rfl) ?_
  refine lv_iload_n hx hb dX0_coverHole_1 rfl (lv_at hl 1 rfl) ?_
  refine lv_iload_n hx hb dX0_coverHole_2 rfl (lv_at hl 2 rfl) ?_
  refine lv_iconst (v := 1) hx hb dX0_coverHole_3 (by decide) ?_
  refine lv_iadd hx hb dX0_coverHole_4 ?_
  refine lv_iconst (v := 0) hx hb dX0_coverHole_5 (by decide) ?_
  obtain ⟨r_13, hc_14, hm⟩ := ob_some hm
  refine cx_i (wr := [(gC_all, .inl (cI, n_C_all, .inl C_all)), (gC_firsts, .inl (cI, n_C_firsts, .inl C_firsts)), (gC_ways, .inl (cI, n_C_ways, .inl C_ways))]) (va_runV (As := [.int p0, .int (p1 + 1), .int 0]) (rest := []) C0.1 (c_X0_way l dC dI cI cJ cB cZ aC xC_rules gC_all gC_topped gC_firsts gC_ways H.size C_size C_operators p0 (p1 + 1) 0 r_13 hc_14) (cwV 3 hts gX0_coverHole_X0_way rfl rfl rfl (by decide +kernel) ⟨Nat.le_of_ble_eq_true rfl, Nat.le_of_ble_eq_true rfl⟩) (cP_V (ci := 0) (q0 := 0) hK hN hP hD rfl rfl [0] (by decide) rfl) rfl rfl hl.1 rfl (lv_room (Nat.le_of_ble_eq_true rfl)) dX0_coverHole_6 ⟨Nat.le_of_ble_eq_true rfl, Nat.le_of_ble_eq_true rfl⟩) hP hD hS hA [0] [1, 2, 3] rfl rfl (by decide) (by decide) (fun H locs hP hD hS => ?_)
  have hP : va_P (dC, dI) vwCl [(gC_all, .inl (cI, n_C_all, .inl C_all)), (gC_firsts, .inl (cI, n_C_firsts, .inl C_firsts)), (gC_ways, .inl (cI, n_C_ways, .inl C_ways)), ((aC 0), .inr (0, [.ref xC_rules, .ref (aC 2), .ref (aC 3), .ref gC_all, .ref gC_topped, .ref gC_firsts, .ref gC_ways, .int C_size, .int C_operators]))] H := hP
  have hD : va_D A [(gC_all, .inl (cI, n_C_all, .inl C_all)), (gC_firsts, .inl (cI, n_C_firsts, .inl C_firsts)), (gC_ways, .inl (cI, n_C_ways, .inl C_ways)), ((aC 0), .inr (0, [.ref xC_rules, .ref (aC 2), .ref (aC 3), .ref gC_all, .ref gC_topped, .ref gC_firsts, .ref gC_ways, .int C_size, .int C_operators]))] := hD
  refine lv_istore (lv' := [(5, .int r_13), (0, .ref (aC 0)), (1, .int p0), (2, .int p1), (3, .int p2), (4, .int p3)]) hx hb dX0_coverHole_9 hl (by decide) rfl (fun ls hl => ?_)
  refine lv_iconst (v := 0) hx hb dX0_coverHole_11 (by decide) ?_
  refine lv_istore (lv' := [(6, .int 0), (5, .int r_13), (0, .ref (aC 0)), (1, .int p0), (2, .int p1), (3, .int p2), (4, .int p3)]) hx hb dX0_coverHole_12 hl (by decide) rfl (fun ls hl => ?_)
  refine lv_iload_n hx hb dX0_coverHole_14 rfl (lv_at hl 5 rfl) ?_
  refine lv_iconst (v := 1) hx hb dX0_coverHole_15 (by decide) ?_
  refine lv_iadd hx hb dX0_coverHole_16 ?_
  refine lv_istore (lv' := [(7, .int (p2 + 1)), (6, .int 0), (5, .int r_13), (0, .ref (aC 0)), (1, .int p0), (2, .int p1), (3, .int p2), (4, .int p3)]) hx hb dX0_coverHole_17 hl (by decide) rfl (fun ls hl => ?_)
  exact k_X0_coverHole_19 C0 hK hN hA aC xC_rules gC_all gC_topped gC_firsts gC_ways C_size C_operators n_C_all C_all n_C_firsts C_firsts n_C_ways C_ways res RET FU p0 p1 p2 p3 r_13 0 (p2 + 1) hm H locs (P_sub' hP [3, 0, 1, 2] rfl) (hD.sub [3, 0, 1, 2] (by decide) rfl) hS ls (lv_sub hl [3, 4, 5, 6, 7, 2, 1, 0] rfl)
set_option maxHeartbeats 4000000 in
set_option maxRecDepth 100000 in
theorem c_X0_coverHole (l : Launch) (dC : Nat → ClassId) (dI : Nat → Nat → Nat) (cI cJ cB cZ : ClassId) (aC : Nat → Nat) (xC_rules : Nat) (gC_all : Nat) (gC_topped : Nat) (gC_firsts : Nat) (gC_ways : Nat) (sz : Nat) (C_size : Int32) (C_operators : Int32) (n_C_all : Nat) (C_all : Nat → Int32) (n_C_firsts : Nat) (C_firsts : Nat → Int32) (n_C_ways : Nat) (C_ways : Nat → Int32) (p0 : Int32) (p1 : Int32) (p2 : Int32) (p3 : Int32) (res : Int32) (hm : m_X0_coverHole n_C_all C_all n_C_firsts C_firsts n_C_ways C_ways C_size C_operators p0 p1 p2 p3 = some res) : Met l yX0_coverHole wsX0_coverHole rm_X0_coverHole (cP (dC, dI) vwCl [(cI, .int), (cJ, .long), (cB, .byte), (cZ, .boolean)] [.ref (aC 0), .int p0, .int p1, .int p2, .int p3] [((aC 0), .inr (0, [.ref xC_rules, .ref (aC 2), .ref (aC 3), .ref gC_all, .ref gC_topped, .ref gC_firsts, .ref gC_ways, .int C_size, .int C_operators])), (gC_all, .inl (cI, n_C_all, .inl C_all)), (gC_firsts, .inl (cI, n_C_firsts, .inl C_firsts)), (gC_ways, .inl (cI, n_C_ways, .inl C_ways))] sz) (cQi res (dC, dI) vwCl [((aC 0), .inr (0, [.ref xC_rules, .ref (aC 2), .ref (aC 3), .ref gC_all, .ref gC_topped, .ref gC_firsts, .ref gC_ways, .int C_size, .int C_operators])), (gC_all, .inl (cI, n_C_all, .inl C_all)), (gC_firsts, .inl (cI, n_C_firsts, .inl C_firsts)), (gC_ways, .inl (cI, n_C_ways, .inl C_ways))] [((aC 0), .inr (0, [.ref xC_rules, .ref (aC 2), .ref (aC 3), .ref gC_all, .ref gC_topped, .ref gC_firsts, .ref gC_ways, .int C_size, .int C_operators])), (gC_all, .inl (cI, n_C_all, .inl C_all)), (gC_firsts, .inl (cI, n_C_firsts, .inl C_firsts)), (gC_ways, .inl (cI, n_C_ways, .inl C_ways))] sz) 0 0 (va_A [((aC 0), .inr (0, [.ref xC_rules, .ref (aC 2), .ref (aC 3), .ref gC_all, .ref gC_topped, .ref gC_firsts, .ref gC_ways, .int C_size, .int C_operators])), (gC_all, .inl (cI, n_C_all, .inl C_all)), (gC_firsts, .inl (cI, n_C_firsts, .inl C_firsts)), (gC_ways, .inl (cI, n_C_ways, .inl C_ways))] sz) := by
  refine cx_of (cc := cX0_coverHole) (maxL := 10) (ret := (some .int)) (own := RX0) (by decide) rfl rfl (Nat.le_of_ble_eq_true rfl) ?_
  intro p e s m below meth c A C0 hinN hK hN hsz hAe hA hP hD hS ls hl
  refine k_X0_coverHole_E C0 hK hN hA aC xC_rules gC_all gC_topped gC_firsts gC_ways C_size C_operators n_C_all C_all n_C_firsts C_firsts n_C_ways C_ways res ?_ p0 p1 p2 p3 hm _ _ hP hD hS ls hl
  intro v he pc H locs ls hdg hP hD hS
  have he := Option.some.inj he
  subst he
  exact cx_reti C0 hsz hAe hdg hP hD hS

set_option maxRecDepth 20000 in
theorem ggX0_cover_X4_size : GoodIn wsX0_cover wsX4_size := goodIn_r _ [8, 9, 59, 60, 61, 62, 63, 64, 65, 66, 67, 68] (by decide +kernel) (by decide +kernel)
set_option maxRecDepth 20000 in
theorem gX0_cover_X4_size : GoodIn wsX0_cover (wsV RX0 79 RX4 yX4_size wsX4_size) := goodIn_app (goodIn_of _ (by decide +kernel)) ggX0_cover_X4_size
set_option maxRecDepth 20000 in
theorem ggX0_cover_X4_isHole : GoodIn wsX0_cover wsX4_isHole := goodIn_r _ [13, 14, 15, 59, 60, 61, 62, 63, 64, 65, 66, 67, 68] (by decide +kernel) (by decide +kernel)
set_option maxRecDepth 20000 in
theorem gX0_cover_X4_isHole : GoodIn wsX0_cover (wsV RX0 95 RX4 yX4_isHole wsX4_isHole) := goodIn_app (goodIn_of _ (by decide +kernel)) ggX0_cover_X4_isHole
set_option maxRecDepth 20000 in
theorem ggX0_cover_X0_coverHole : GoodIn wsX0_cover wsX0_coverHole := goodIn_r _ [20, 3, 21, 22, 23, 24, 25, 26, 19, 27, 28, 29, 30, 31, 32, 33, 34, 35, 36, 37, 38, 39, 40, 41, 42, 43, 44, 45, 50, 51, 52, 53, 54, 55, 56, 57, 58] (by decide +kernel) (by decide +kernel)
set_option maxRecDepth 20000 in
theorem gX0_cover_X0_coverHole : GoodIn wsX0_cover (wsV RX0 112 RX0 yX0_coverHole wsX0_coverHole) := goodIn_app (goodIn_of _ (by decide +kernel)) ggX0_cover_X0_coverHole
set_option maxRecDepth 20000 in
theorem ggX0_cover_X4_element : GoodIn wsX0_cover wsX4_element := goodIn_r _ [49, 14, 59, 60, 61, 62, 63, 64, 65, 66, 67, 68] (by decide +kernel) (by decide +kernel)
set_option maxRecDepth 20000 in
theorem gX0_cover_X4_element : GoodIn wsX0_cover (wsV RX0 116 RX4 yX4_element wsX4_element) := goodIn_app (goodIn_of _ (by decide +kernel)) ggX0_cover_X4_element
set_option maxRecDepth 20000 in
theorem ggX0_cover_X0_way : GoodIn wsX0_cover wsX0_way := goodIn_r _ [27, 28, 50, 51, 52, 53, 54, 55, 56, 57, 58] (by decide +kernel) (by decide +kernel)
set_option maxRecDepth 20000 in
theorem gX0_cover_X0_way : GoodIn wsX0_cover (wsV RX0 82 RX0 yX0_way wsX0_way) := goodIn_app (goodIn_of _ (by decide +kernel)) ggX0_cover_X0_way
theorem dX0_cover_0 : decode cX0_cover 0 = .ok (.aload_n 0, 1) := by decide +kernel
theorem dX0_cover_1 : decode cX0_cover 1 = .ok (.getfield 38, 3) := by decide +kernel
theorem dX0_cover_4 : decode cX0_cover 4 = .ok (.iload_n 1, 1) := by decide +kernel
theorem dX0_cover_5 : decode cX0_cover 5 = .ok (.invokevirtual 79, 3) := by decide +kernel
theorem dX0_cover_8 : decode cX0_cover 8 = .ok (.iconst 1, 1) := by decide +kernel
theorem dX0_cover_9 : decode cX0_cover 9 = .ok (.isub, 1) := by decide +kernel
theorem dX0_cover_10 : decode cX0_cover 10 = .ok (.istore 4, 2) := by decide +kernel
theorem dX0_cover_12 : decode cX0_cover 12 = .ok (.iconst 0, 1) := by decide +kernel
theorem dX0_cover_13 : decode cX0_cover 13 = .ok (.istore 5, 2) := by decide +kernel
theorem dX0_cover_15 : decode cX0_cover 15 = .ok (.aload_n 0, 1) := by decide +kernel
theorem dX0_cover_16 : decode cX0_cover 16 = .ok (.getfield 38, 3) := by decide +kernel
theorem dX0_cover_19 : decode cX0_cover 19 = .ok (.iload_n 1, 1) := by decide +kernel
theorem dX0_cover_20 : decode cX0_cover 20 = .ok (.iload 4, 2) := by decide +kernel
theorem dX0_cover_22 : decode cX0_cover 22 = .ok (.invokevirtual 95, 3) := by decide +kernel
theorem dX0_cover_25 : decode cX0_cover 25 = .ok (.ifCond .eq 10, 3) := by decide +kernel
theorem dX0_cover_28 : decode cX0_cover 28 = .ok (.iload 4, 2) := by decide +kernel
theorem dX0_cover_30 : decode cX0_cover 30 = .ok (.iconst 1, 1) := by decide +kernel
theorem dX0_cover_31 : decode cX0_cover 31 = .ok (.isub, 1) := by decide +kernel
theorem dX0_cover_32 : decode cX0_cover 32 = .ok (.goto 5, 3) := by decide +kernel
theorem dX0_cover_35 : decode cX0_cover 35 = .ok (.iload 4, 2) := by decide +kernel
theorem dX0_cover_37 : decode cX0_cover 37 = .ok (.istore 6, 2) := by decide +kernel
theorem dX0_cover_39 : decode cX0_cover 39 = .ok (.iload 6, 2) := by decide +kernel
theorem dX0_cover_41 : decode cX0_cover 41 = .ok (.ifCond .lt 94, 3) := by decide +kernel
theorem dX0_cover_44 : decode cX0_cover 44 = .ok (.aload_n 0, 1) := by decide +kernel
theorem dX0_cover_45 : decode cX0_cover 45 = .ok (.getfield 38, 3) := by decide +kernel
theorem dX0_cover_48 : decode cX0_cover 48 = .ok (.iload_n 1, 1) := by decide +kernel
theorem dX0_cover_49 : decode cX0_cover 49 = .ok (.iload 6, 2) := by decide +kernel
theorem dX0_cover_51 : decode cX0_cover 51 = .ok (.invokevirtual 95, 3) := by decide +kernel
theorem dX0_cover_54 : decode cX0_cover 54 = .ok (.ifCond .eq 17, 3) := by decide +kernel
theorem dX0_cover_57 : decode cX0_cover 57 = .ok (.aload_n 0, 1) := by decide +kernel
theorem dX0_cover_58 : decode cX0_cover 58 = .ok (.iload_n 1, 1) := by decide +kernel
theorem dX0_cover_59 : decode cX0_cover 59 = .ok (.iload 6, 2) := by decide +kernel
theorem dX0_cover_61 : decode cX0_cover 61 = .ok (.iload_n 2, 1) := by decide +kernel
theorem dX0_cover_62 : decode cX0_cover 62 = .ok (.iload_n 3, 1) := by decide +kernel
theorem dX0_cover_63 : decode cX0_cover 63 = .ok (.invokevirtual 112, 3) := by decide +kernel
theorem dX0_cover_66 : decode cX0_cover 66 = .ok (.istore 5, 2) := by decide +kernel
theorem dX0_cover_68 : decode cX0_cover 68 = .ok (.goto 46, 3) := by decide +kernel
theorem dX0_cover_71 : decode cX0_cover 71 = .ok (.aload_n 0, 1) := by decide +kernel
theorem dX0_cover_72 : decode cX0_cover 72 = .ok (.getfield 9, 3) := by decide +kernel
theorem dX0_cover_75 : decode cX0_cover 75 = .ok (.iload_n 2, 1) := by decide +kernel
theorem dX0_cover_76 : decode cX0_cover 76 = .ok (.laload, 1) := by decide +kernel
theorem dX0_cover_77 : decode cX0_cover 77 = .ok (.aload_n 0, 1) := by decide +kernel
theorem dX0_cover_78 : decode cX0_cover 78 = .ok (.getfield 38, 3) := by decide +kernel
theorem dX0_cover_81 : decode cX0_cover 81 = .ok (.iload_n 1, 1) := by decide +kernel
theorem dX0_cover_82 : decode cX0_cover 82 = .ok (.iload 6, 2) := by decide +kernel
theorem dX0_cover_84 : decode cX0_cover 84 = .ok (.invokevirtual 116, 3) := by decide +kernel
theorem dX0_cover_87 : decode cX0_cover 87 = .ok (.lcmp, 1) := by decide +kernel
theorem dX0_cover_88 : decode cX0_cover 88 = .ok (.ifCond .ne 23, 3) := by decide +kernel
theorem dX0_cover_91 : decode cX0_cover 91 = .ok (.aload_n 0, 1) := by decide +kernel
theorem dX0_cover_92 : decode cX0_cover 92 = .ok (.getfield 28, 3) := by decide +kernel
theorem dX0_cover_95 : decode cX0_cover 95 = .ok (.aload_n 0, 1) := by decide +kernel
theorem dX0_cover_96 : decode cX0_cover 96 = .ok (.iload_n 1, 1) := by decide +kernel
theorem dX0_cover_97 : decode cX0_cover 97 = .ok (.iload 6, 2) := by decide +kernel
theorem dX0_cover_99 : decode cX0_cover 99 = .ok (.iconst 1, 1) := by decide +kernel
theorem dX0_cover_100 : decode cX0_cover 100 = .ok (.iadd, 1) := by decide +kernel
theorem dX0_cover_101 : decode cX0_cover 101 = .ok (.iload_n 2, 1) := by decide +kernel
theorem dX0_cover_102 : decode cX0_cover 102 = .ok (.iconst 1, 1) := by decide +kernel
theorem dX0_cover_103 : decode cX0_cover 103 = .ok (.iadd, 1) := by decide +kernel
theorem dX0_cover_104 : decode cX0_cover 104 = .ok (.invokevirtual 82, 3) := by decide +kernel
theorem dX0_cover_107 : decode cX0_cover 107 = .ok (.iaload, 1) := by decide +kernel
theorem dX0_cover_108 : decode cX0_cover 108 = .ok (.goto 4, 3) := by decide +kernel
theorem dX0_cover_111 : decode cX0_cover 111 = .ok (.iconst 0, 1) := by decide +kernel
theorem dX0_cover_112 : decode cX0_cover 112 = .ok (.istore 5, 2) := by decide +kernel
theorem dX0_cover_114 : decode cX0_cover 114 = .ok (.aload_n 0, 1) := by decide +kernel
theorem dX0_cover_115 : decode cX0_cover 115 = .ok (.getfield 28, 3) := by decide +kernel
theorem dX0_cover_118 : decode cX0_cover 118 = .ok (.aload_n 0, 1) := by decide +kernel
theorem dX0_cover_119 : decode cX0_cover 119 = .ok (.iload_n 1, 1) := by decide +kernel
theorem dX0_cover_120 : decode cX0_cover 120 = .ok (.iload 6, 2) := by decide +kernel
theorem dX0_cover_122 : decode cX0_cover 122 = .ok (.iload_n 2, 1) := by decide +kernel
theorem dX0_cover_123 : decode cX0_cover 123 = .ok (.invokevirtual 82, 3) := by decide +kernel
theorem dX0_cover_126 : decode cX0_cover 126 = .ok (.iload 5, 2) := by decide +kernel
theorem dX0_cover_128 : decode cX0_cover 128 = .ok (.iastore, 1) := by decide +kernel
theorem dX0_cover_129 : decode cX0_cover 129 = .ok (.iinc 6 (-1), 3) := by decide +kernel
theorem dX0_cover_132 : decode cX0_cover 132 = .ok (.goto (-93), 3) := by decide +kernel
theorem dX0_cover_135 : decode cX0_cover 135 = .ok (.iload 5, 2) := by decide +kernel
theorem dX0_cover_137 : decode cX0_cover 137 = .ok (.ireturn, 1) := by decide +kernel
/-! MixfixDesk$Chart.cover(III)I -/
abbrev rm_X0_cover : Room := { frames := 3, cells := 0, slots := 0, locals := 73 }
theorem X0_cover_inX0 : ∀ w ∈ wsX00, w ∈ wsX0_cover := by decide +kernel
theorem X0_cover_inX4 : ∀ w ∈ wsX40, w ∈ wsX0_cover := by decide +kernel
abbrev RT_X0_cover (p : Program) (l : Launch) (e : Env) (s : State) (m : MethodId) (args : Array Value) (below : List Frame) (meth : Method) (c : Code) (Q : State → Prop) (dC : Nat → ClassId) (dI : Nat → Nat → Nat) (cI cJ cB cZ : ClassId) (A : Nat → Prop) (aC : Nat → Nat) (gC_all : Nat) (gC_topped : Nat) (gC_firsts : Nat) (gC_ways : Nat) (aR : Nat → Nat) (C_size : Int32) (C_operators : Int32) (R_nodes : Int32) (R_arrows : Int32) (R_operators : Int32) (C_words : Nat → Int64) (n_C_all : Nat) (C_all : Nat → Int32) (n_C_firsts : Nat) (C_firsts : Nat → Int32) (n_C_ways : Nat) (R_size : Nat → Int32) (R_elements : Nat → Int64) (res : Int32 × (Nat → Int32)) : Prop := ∀ (v : Int32) (C_ways : Nat → Int32), some (v, C_ways) = some res → ∀ (pc : Nat) (H : Heap) (locs : List Loc) (ls : Array Slot), decode cX0_cover pc = .ok (.ireturn, 1) → va_P (dC, dI) vwCl [((aC 0), .inr (0, [.ref (aR 0), .ref (aC 2), .ref (aC 3), .ref gC_all, .ref gC_topped, .ref gC_firsts, .ref gC_ways, .int C_size, .int C_operators])), ((aC 2), .inl (cJ, 40, .inr (.inl C_words))), (gC_all, .inl (cI, n_C_all, .inl C_all)), (gC_firsts, .inl (cI, n_C_firsts, .inl C_firsts)), (gC_ways, .inl (cI, n_C_ways, .inl C_ways)), ((aR 0), .inr (4, [.ref (aR 1), .ref (aR 2), .ref (aR 3), .ref (aR 4), .ref (aR 5), .ref (aR 6), .ref (aR 7), .int R_nodes, .int R_arrows, .int R_operators])), ((aR 2), .inl (cI, 30, .inl R_size)), ((aR 7), .inl (cJ, 270, .inr (.inl R_elements)))] H → va_D A [((aC 0), .inr (0, [.ref (aR 0), .ref (aC 2), .ref (aC 3), .ref gC_all, .ref gC_topped, .ref gC_firsts, .ref gC_ways, .int C_size, .int C_operators])), ((aC 2), .inl (cJ, 40, .inr (.inl C_words))), (gC_all, .inl (cI, n_C_all, .inl C_all)), (gC_firsts, .inl (cI, n_C_firsts, .inl C_firsts)), (gC_ways, .inl (cI, n_C_ways, .inl C_ways)), ((aR 0), .inr (4, [.ref (aR 1), .ref (aR 2), .ref (aR 3), .ref (aR 4), .ref (aR 5), .ref (aR 6), .ref (aR 7), .int R_nodes, .int R_arrows, .int R_operators])), ((aR 2), .inl (cI, 30, .inl R_size)), ((aR 7), .inl (cJ, 270, .inr (.inl R_elements)))] → va_S A s.heap H locs → W p l e rm_X0_cover s m args below meth c H locs 0 0 Q (F0 m pc ls [.int v])
set_option maxHeartbeats 4000000 in
set_option maxRecDepth 100000 in
theorem k_X0_cover_114 {p : Program} {l : Launch} {e : Env} {s : State} {m : MethodId} {args : Array Value} {below : List Frame} {meth : Method} {c : Code} {Q : State → Prop} {dC : Nat → ClassId} {dI : Nat → Nat → Nat} {cI cJ cB cZ : ClassId} {A : Nat → Prop} (C0 : Cx p s m meth c args cX0_cover 7 (some .int) wsX0_cover RX0) (hK : va_K (dC, dI) vwCl [(cI, .int), (cJ, .long), (cB, .byte), (cZ, .boolean)] s) (hN : NW s) (hA : ∀ q, s.heap.size ≤ q → A q) (aC : Nat → Nat) (gC_all : Nat) (gC_topped : Nat) (gC_firsts : Nat) (gC_ways : Nat) (aR : Nat → Nat) (C_size : Int32) (C_operators : Int32) (R_nodes : Int32) (R_arrows : Int32) (R_operators : Int32) (C_words : Nat → Int64) (n_C_all : Nat) (C_all : Nat → Int32) (n_C_firsts : Nat) (C_firsts : Nat → Int32) (n_C_ways : Nat) (R_size : Nat → Int32) (R_elements : Nat → Int64) (res : Int32 × (Nat → Int32)) (RET : RT_X0_cover p l e s m args below meth c Q dC dI cI cJ cB cZ A aC gC_all gC_topped gC_firsts gC_ways aR C_size C_operators R_nodes R_arrows R_operators C_words n_C_all C_all n_C_firsts C_firsts n_C_ways R_size R_elements res) (k39 : (Nat → Int32) → Int32 → Int32 → Int32 → Int32 → Int32 → Option (Int32 × (Nat → Int32))) (hk39 : ∀ (C_ways : Nat → Int32) (x1 : Int32) (x2 : Int32) (x3 : Int32) (x5 : Int32) (x6 : Int32), k39 C_ways x1 x2 x3 x5 x6 = some res → ∀ (H : Heap) (locs : List Loc), va_P (dC, dI) vwCl [((aC 0), .inr (0, [.ref (aR 0), .ref (aC 2), .ref (aC 3), .ref gC_all, .ref gC_topped, .ref gC_firsts, .ref gC_ways, .int C_size, .int C_operators])), ((aC 2), .inl (cJ, 40, .inr (.inl C_words))), (gC_all, .inl (cI, n_C_all, .inl C_all)), (gC_firsts, .inl (cI, n_C_firsts, .inl C_firsts)), (gC_ways, .inl (cI, n_C_ways, .inl C_ways)), ((aR 0), .inr (4, [.ref (aR 1), .ref (aR 2), .ref (aR 3), .ref (aR 4), .ref (aR 5), .ref (aR 6), .ref (aR 7), .int R_nodes, .int R_arrows, .int R_operators])), ((aR 2), .inl (cI, 30, .inl R_size)), ((aR 7), .inl (cJ, 270, .inr (.inl R_elements)))] H → va_D A [((aC 0), .inr (0, [.ref (aR 0), .ref (aC 2), .ref (aC 3), .ref gC_all, .ref gC_topped, .ref gC_firsts, .ref gC_ways, .int C_size, .int C_operators])), ((aC 2), .inl (cJ, 40, .inr (.inl C_words))), (gC_all, .inl (cI, n_C_all, .inl C_all)), (gC_firsts, .inl (cI, n_C_firsts, .inl C_firsts)), (gC_ways, .inl (cI, n_C_ways, .inl C_ways)), ((aR 0), .inr (4, [.ref (aR 1), .ref (aR 2), .ref (aR 3), .ref (aR 4), .ref (aR 5), .ref (aR 6), .ref (aR 7), .int R_nodes, .int R_arrows, .int R_operators])), ((aR 2), .inl (cI, 30, .inl R_size)), ((aR 7), .inl (cJ, 270, .inr (.inl R_elements)))] → va_S A s.heap H locs → ∀ (ls : Array Slot), lv_has ls 7 [(0, .ref (aC 0)), (1, .int x1), (2, .int x2), (3, .int x3), (5, .int x5), (6, .int x6)] → W p l e rm_X0_cover s m args below meth c H locs 0 0 Q (F0 m 39 ls [])) : ∀ (C_ways : Nat → Int32) (x1 : Int32) (x2 : Int32) (x3 : Int32) (x5 : Int32) (x6 : Int32), m_X0_cover_114 C_size C_operators C_words n_C_all C_all n_C_firsts C_firsts n_C_ways R_size R_elements k39 C_ways x1 x2 x3 x5 x6 = some res → ∀ (H : Heap) (locs : List Loc), va_P (dC, dI) vwCl [((aC 0), .inr (0, [.ref (aR 0), .ref (aC 2), .ref (aC 3), .ref gC_all, .ref gC_topped, .ref gC_firsts, .ref gC_ways, .int C_size, .int C_operators])), ((aC 2), .inl (cJ, 40, .inr (.inl C_words))), (gC_all, .inl (cI, n_C_all, .inl C_all)), (gC_firsts, .inl (cI, n_C_firsts, .inl C_firsts)), (gC_ways, .inl (cI, n_C_ways, .inl C_ways)), ((aR 0), .inr (4, [.ref (aR 1), .ref (aR 2), .ref (aR 3), .ref (aR 4), .ref (aR 5), .ref (aR 6), .ref (aR 7), .int R_nodes, .int R_arrows, .int R_operators])), ((aR 2), .inl (cI, 30, .inl R_size)), ((aR 7), .inl (cJ, 270, .inr (.inl R_elements)))] H → va_D A [((aC 0), .inr (0, [.ref (aR 0), .ref (aC 2), .ref (aC 3), .ref gC_all, .ref gC_topped, .ref gC_firsts, .ref gC_ways, .int C_size, .int C_operators])), ((aC 2), .inl (cJ, 40, .inr (.inl C_words))), (gC_all, .inl (cI, n_C_all, .inl C_all)), (gC_firsts, .inl (cI, n_C_firsts, .inl C_firsts)), (gC_ways, .inl (cI, n_C_ways, .inl C_ways)), ((aR 0), .inr (4, [.ref (aR 1), .ref (aR 2), .ref (aR 3), .ref (aR 4), .ref (aR 5), .ref (aR 6), .ref (aR 7), .int R_nodes, .int R_arrows, .int R_operators])), ((aR 2), .inl (cI, 30, .inl R_size)), ((aR 7), .inl (cJ, 270, .inr (.inl R_elements)))] → va_S A s.heap H locs → ∀ (ls : Array Slot), lv_has ls 7 [(0, .ref (aC 0)), (1, .int x1), (2, .int x2), (3, .int x3), (5, .int x5), (6, .int x6)] → W p l e rm_X0_cover s m args below meth c H locs 0 0 Q (F0 m 114 ls []) := by
  obtain ⟨⟨hx, hb, hml, hown, hts⟩, hr, hlocks⟩ := id C0
  intro C_ways x1 x2 x3 x5 x6 hm H locs hP hD hS ls hl
  have hm : (Option.bind (m_X0_way C_size x1 x6 x2) (fun r_1 => gd r_1 n_C_ways (k39 (upd C_ways r_1.toNatClampNeg x5) x1 x2 x3 x5 (x6 + (-1))))) = some res := hm
  refine lv_aload_n hx hb dX0_cover_114 rfl (lv_at hl 0 rfl) ?_
  refine va_get (D := (dC, dI)) (ci := 0) (v := .ref gC_ways) (C := RX0) (T := TX0) (N := 9) hx hb hts X0_cover_inX0 hown hK hP 0 rfl rfl 6 (by decide) (hts (.fieldLink RX0 28 "MixfixDesk$Chart" "ways" "[I") (by decide +kernel)) (fun _ h9 => h9) rfl dX0_cover_115 ?_
  refine lv_aload_n hx hb dX0_cover_118 rfl (lv_at hl 0 rfl) ?_
  refine lv_iload_n hx hb dX0_cover_119 rfl (lv_at hl 1 rfl) ?_
  refine lv_iload hx hb dX0_cover_120 (lv_at hl 5 rfl) ?_
  refine lv_iload_n hx hb dX0_cover_122 rfl (lv_at hl 2 rfl) ?_
  obtain ⟨r_1, hc_2, hm⟩ := ob_some hm
  refine cx_i (wr := [((aC 2), .inl (cJ, 40, .inr (.inl C_words))), (gC_all, .inl (cI, n_C_all, .inl C_all)), (gC_firsts, .inl (cI, n_C_firsts, .inl C_firsts)), (gC_ways, .inl (cI, n_C_ways, .inl C_ways)), ((aR 0), .inr (4, [.ref (aR 1), .ref (aR 2), .ref (aR 3), .ref (aR 4), .ref (aR 5), .ref (aR 6), .ref (aR 7), .int R_nodes, .int R_arrows, .int R_operators])), ((aR 2), .inl (cI, 30, .inl R_size)), ((aR 7), .inl (cJ, 270, .inr (.inl R_elements)))]) (va_runV (As := [.int x1, .int x6, .int x2]) (rest := [.ref gC_ways]) C0.1 (c_X0_way l dC dI cI cJ cB cZ aC (aR 0) gC_all gC_topped gC_firsts gC_ways H.size C_size C_operators x1 x6 x2 r_1 hc_2) (cwV 3 hts gX0_cover_X0_way rfl rfl rfl (by decide +kernel) ⟨Nat.le_of_ble_eq_true rfl, Nat.le_of_ble_eq_true rfl⟩) (cP_V (ci := 0) (q0 := 0) hK hN hP hD rfl rfl [0] (by decide) rfl) rfl rfl hl.1 rfl (lv_room (Nat.le_of_ble_eq_true rfl)) dX0_cover_123 ⟨Nat.le_of_ble_eq_true rfl, Nat.le_of_ble_eq_true rfl⟩) hP hD hS hA [0] [1, 2, 3, 4, 5, 6, 7] rfl rfl (by decide) (by decide) (fun H locs hP hD hS => ?_)
  have hP : va_P (dC, dI) vwCl [((aC 2), .inl (cJ, 40, .inr (.inl C_words))), (gC_all, .inl (cI, n_C_all, .inl C_all)), (gC_firsts, .inl (cI, n_C_firsts, .inl C_firsts)), (gC_ways, .inl (cI, n_C_ways, .inl C_ways)), ((aR 0), .inr (4, [.ref (aR 1), .ref (aR 2), .ref (aR 3), .ref (aR 4), .ref (aR 5), .ref (aR 6), .ref (aR 7), .int R_nodes, .int R_arrows, .int R_operators])), ((aR 2), .inl (cI, 30, .inl R_size)), ((aR 7), .inl (cJ, 270, .inr (.inl R_elements))), ((aC 0), .inr (0, [.ref (aR 0), .ref (aC 2), .ref (aC 3), .ref gC_all, .ref gC_topped, .ref gC_firsts, .ref gC_ways, .int C_size, .int C_operators]))] H := hP
  have hD : va_D A [((aC 2), .inl (cJ, 40, .inr (.inl C_words))), (gC_all, .inl (cI, n_C_all, .inl C_all)), (gC_firsts, .inl (cI, n_C_firsts, .inl C_firsts)), (gC_ways, .inl (cI, n_C_ways, .inl C_ways)), ((aR 0), .inr (4, [.ref (aR 1), .ref (aR 2), .ref (aR 3), .ref (aR 4), .ref (aR 5), .ref (aR 6), .ref (aR 7), .int R_nodes, .int R_arrows, .int R_operators])), ((aR 2), .inl (cI, 30, .inl R_size)), ((aR 7), .inl (cJ, 270, .inr (.inl R_elements))), ((aC 0), .inr (0, [.ref (aR 0), .ref (aC 2), .ref (aC 3), .ref gC_all, .ref gC_topped, .ref gC_firsts, .ref gC_ways, .int C_size, .int C_operators]))] := hD
  refine lv_iload hx hb dX0_cover_126 (lv_at hl 4 rfl) ?_
  obtain ⟨hi_3, hm⟩ := gd_some hm
  refine va_iast (D := (dC, dI)) hx hb hK hP hD hS 3 0 rfl rfl hi_3 dX0_cover_128 (fun H locs hP hD hS => ?_)
  have hP : va_P (dC, dI) vwCl [((aC 2), .inl (cJ, 40, .inr (.inl C_words))), (gC_all, .inl (cI, n_C_all, .inl C_all)), (gC_firsts, .inl (cI, n_C_firsts, .inl C_firsts)), (gC_ways, .inl (cI, n_C_ways, .inl (upd C_ways r_1.toNatClampNeg x5))), ((aR 0), .inr (4, [.ref (aR 1), .ref (aR 2), .ref (aR 3), .ref (aR 4), .ref (aR 5), .ref (aR 6), .ref (aR 7), .int R_nodes, .int R_arrows, .int R_operators])), ((aR 2), .inl (cI, 30, .inl R_size)), ((aR 7), .inl (cJ, 270, .inr (.inl R_elements))), ((aC 0), .inr (0, [.ref (aR 0), .ref (aC 2), .ref (aC 3), .ref gC_all, .ref gC_topped, .ref gC_firsts, .ref gC_ways, .int C_size, .int C_operators]))] H := hP
  have hD : va_D A [((aC 2), .inl (cJ, 40, .inr (.inl C_words))), (gC_all, .inl (cI, n_C_all, .inl C_all)), (gC_firsts, .inl (cI, n_C_firsts, .inl C_firsts)), (gC_ways, .inl (cI, n_C_ways, .inl (upd C_ways r_1.toNatClampNeg x5))), ((aR 0), .inr (4, [.ref (aR 1), .ref (aR 2), .ref (aR 3), .ref (aR 4), .ref (aR 5), .ref (aR 6), .ref (aR 7), .int R_nodes, .int R_arrows, .int R_operators])), ((aR 2), .inl (cI, 30, .inl R_size)), ((aR 7), .inl (cJ, 270, .inr (.inl R_elements))), ((aC 0), .inr (0, [.ref (aR 0), .ref (aC 2), .ref (aC 3), .ref gC_all, .ref gC_topped, .ref gC_firsts, .ref gC_ways, .int C_size, .int C_operators]))] := hD
  refine lv_iinc (v := x6 + (-1)) (lv' := [(6, .int (x6 + (-1))), (0, .ref (aC 0)), (1, .int x1), (2, .int x2), (3, .int x3), (5, .int x5)]) hx hb dX0_cover_129 hl (k := 5) rfl rfl (by decide) rfl (fun ls hl => ?_)
  refine lv_goto (tgt := 39) hx hb dX0_cover_132 (by decide) ?_
  exact hk39 (upd C_ways r_1.toNatClampNeg x5) x1 x2 x3 x5 (x6 + (-1)) hm H locs (P_sub' hP [7, 0, 1, 2, 3, 4, 5, 6] rfl) (hD.sub [7, 0, 1, 2, 3, 4, 5, 6] (by decide) rfl) hS ls (lv_sub hl [1, 2, 3, 4, 5, 0] rfl)
set_option maxHeartbeats 4000000 in
set_option maxRecDepth 100000 in
theorem k_X0_cover_112 {p : Program} {l : Launch} {e : Env} {s : State} {m : MethodId} {args : Array Value} {below : List Frame} {meth : Method} {c : Code} {Q : State → Prop} {dC : Nat → ClassId} {dI : Nat → Nat → Nat} {cI cJ cB cZ : ClassId} {A : Nat → Prop} (C0 : Cx p s m meth c args cX0_cover 7 (some .int) wsX0_cover RX0) (hK : va_K (dC, dI) vwCl [(cI, .int), (cJ, .long), (cB, .byte), (cZ, .boolean)] s) (hN : NW s) (hA : ∀ q, s.heap.size ≤ q → A q) (aC : Nat → Nat) (gC_all : Nat) (gC_topped : Nat) (gC_firsts : Nat) (gC_ways : Nat) (aR : Nat → Nat) (C_size : Int32) (C_operators : Int32) (R_nodes : Int32) (R_arrows : Int32) (R_operators : Int32) (C_words : Nat → Int64) (n_C_all : Nat) (C_all : Nat → Int32) (n_C_firsts : Nat) (C_firsts : Nat → Int32) (n_C_ways : Nat) (R_size : Nat → Int32) (R_elements : Nat → Int64) (res : Int32 × (Nat → Int32)) (RET : RT_X0_cover p l e s m args below meth c Q dC dI cI cJ cB cZ A aC gC_all gC_topped gC_firsts gC_ways aR C_size C_operators R_nodes R_arrows R_operators C_words n_C_all C_all n_C_firsts C_firsts n_C_ways R_size R_elements res) (k39 : (Nat → Int32) → Int32 → Int32 → Int32 → Int32 → Int32 → Option (Int32 × (Nat → Int32))) (hk39 : ∀ (C_ways : Nat → Int32) (x1 : Int32) (x2 : Int32) (x3 : Int32) (x5 : Int32) (x6 : Int32), k39 C_ways x1 x2 x3 x5 x6 = some res → ∀ (H : Heap) (locs : List Loc), va_P (dC, dI) vwCl [((aC 0), .inr (0, [.ref (aR 0), .ref (aC 2), .ref (aC 3), .ref gC_all, .ref gC_topped, .ref gC_firsts, .ref gC_ways, .int C_size, .int C_operators])), ((aC 2), .inl (cJ, 40, .inr (.inl C_words))), (gC_all, .inl (cI, n_C_all, .inl C_all)), (gC_firsts, .inl (cI, n_C_firsts, .inl C_firsts)), (gC_ways, .inl (cI, n_C_ways, .inl C_ways)), ((aR 0), .inr (4, [.ref (aR 1), .ref (aR 2), .ref (aR 3), .ref (aR 4), .ref (aR 5), .ref (aR 6), .ref (aR 7), .int R_nodes, .int R_arrows, .int R_operators])), ((aR 2), .inl (cI, 30, .inl R_size)), ((aR 7), .inl (cJ, 270, .inr (.inl R_elements)))] H → va_D A [((aC 0), .inr (0, [.ref (aR 0), .ref (aC 2), .ref (aC 3), .ref gC_all, .ref gC_topped, .ref gC_firsts, .ref gC_ways, .int C_size, .int C_operators])), ((aC 2), .inl (cJ, 40, .inr (.inl C_words))), (gC_all, .inl (cI, n_C_all, .inl C_all)), (gC_firsts, .inl (cI, n_C_firsts, .inl C_firsts)), (gC_ways, .inl (cI, n_C_ways, .inl C_ways)), ((aR 0), .inr (4, [.ref (aR 1), .ref (aR 2), .ref (aR 3), .ref (aR 4), .ref (aR 5), .ref (aR 6), .ref (aR 7), .int R_nodes, .int R_arrows, .int R_operators])), ((aR 2), .inl (cI, 30, .inl R_size)), ((aR 7), .inl (cJ, 270, .inr (.inl R_elements)))] → va_S A s.heap H locs → ∀ (ls : Array Slot), lv_has ls 7 [(0, .ref (aC 0)), (1, .int x1), (2, .int x2), (3, .int x3), (5, .int x5), (6, .int x6)] → W p l e rm_X0_cover s m args below meth c H locs 0 0 Q (F0 m 39 ls [])) : ∀ (C_ways : Nat → Int32) (x1 : Int32) (x2 : Int32) (x3 : Int32) (x6 : Int32) (y0 : Int32), m_X0_cover_112 C_size C_operators C_words n_C_all C_all n_C_firsts C_firsts n_C_ways R_size R_elements k39 C_ways x1 x2 x3 x6 y0 = some res → ∀ (H : Heap) (locs : List Loc), va_P (dC, dI) vwCl [((aC 0), .inr (0, [.ref (aR 0), .ref (aC 2), .ref (aC 3), .ref gC_all, .ref gC_topped, .ref gC_firsts, .ref gC_ways, .int C_size, .int C_operators])), ((aC 2), .inl (cJ, 40, .inr (.inl C_words))), (gC_all, .inl (cI, n_C_all, .inl C_all)), (gC_firsts, .inl (cI, n_C_firsts, .inl C_firsts)), (gC_ways, .inl (cI, n_C_ways, .inl C_ways)), ((aR 0), .inr (4, [.ref (aR 1), .ref (aR 2), .ref (aR 3), .ref (aR 4), .ref (aR 5), .ref (aR 6), .ref (aR 7), .int R_nodes, .int R_arrows, .int R_operators])), ((aR 2), .inl (cI, 30, .inl R_size)), ((aR 7), .inl (cJ, 270, .inr (.inl R_elements)))] H → va_D A [((aC 0), .inr (0, [.ref (aR 0), .ref (aC 2), .ref (aC 3), .ref gC_all, .ref gC_topped, .ref gC_firsts, .ref gC_ways, .int C_size, .int C_operators])), ((aC 2), .inl (cJ, 40, .inr (.inl C_words))), (gC_all, .inl (cI, n_C_all, .inl C_all)), (gC_firsts, .inl (cI, n_C_firsts, .inl C_firsts)), (gC_ways, .inl (cI, n_C_ways, .inl C_ways)), ((aR 0), .inr (4, [.ref (aR 1), .ref (aR 2), .ref (aR 3), .ref (aR 4), .ref (aR 5), .ref (aR 6), .ref (aR 7), .int R_nodes, .int R_arrows, .int R_operators])), ((aR 2), .inl (cI, 30, .inl R_size)), ((aR 7), .inl (cJ, 270, .inr (.inl R_elements)))] → va_S A s.heap H locs → ∀ (ls : Array Slot), lv_has ls 7 [(0, .ref (aC 0)), (1, .int x1), (2, .int x2), (3, .int x3), (6, .int x6)] → W p l e rm_X0_cover s m args below meth c H locs 0 0 Q (F0 m 112 ls [.int y0]) := by
  obtain ⟨⟨hx, hb, hml, hown, hts⟩, hr, hlocks⟩ := id C0
  intro C_ways x1 x2 x3 x6 y0 hm H locs hP hD hS ls hl
  have hm : (m_X0_cover_114 C_size C_operators C_words n_C_all C_all n_C_firsts C_firsts n_C_ways R_size R_elements k39 C_ways x1 x2 x3 y0 x6) = some res := hm
  refine lv_istore (lv' := [(5, .int y0), (0, .ref (aC 0)), (1, .int x1), (2, .int x2), (3, .int x3), (6, .int x6)]) hx hb dX0_cover_112 hl (by decide) rfl (fun ls hl => ?_)
  exact k_X0_cover_114 C0 hK hN hA aC gC_all gC_topped gC_firsts gC_ways aR C_size C_operators R_nodes R_arrows R_operators C_words n_C_all C_all n_C_firsts C_firsts n_C_ways R_size R_elements res RET k39 hk39 C_ways x1 x2 x3 y0 x6 hm H locs hP hD hS ls (lv_sub hl [1, 2, 3, 4, 0, 5] rfl)
set_option maxHeartbeats 4000000 in
set_option maxRecDepth 100000 in
theorem k_X0_cover_39 {p : Program} {l : Launch} {e : Env} {s : State} {m : MethodId} {args : Array Value} {below : List Frame} {meth : Method} {c : Code} {Q : State → Prop} {dC : Nat → ClassId} {dI : Nat → Nat → Nat} {cI cJ cB cZ : ClassId} {A : Nat → Prop} (C0 : Cx p s m meth c args cX0_cover 7 (some .int) wsX0_cover RX0) (hK : va_K (dC, dI) vwCl [(cI, .int), (cJ, .long), (cB, .byte), (cZ, .boolean)] s) (hN : NW s) (hA : ∀ q, s.heap.size ≤ q → A q) (aC : Nat → Nat) (gC_all : Nat) (gC_topped : Nat) (gC_firsts : Nat) (gC_ways : Nat) (aR : Nat → Nat) (C_size : Int32) (C_operators : Int32) (R_nodes : Int32) (R_arrows : Int32) (R_operators : Int32) (C_words : Nat → Int64) (n_C_all : Nat) (C_all : Nat → Int32) (n_C_firsts : Nat) (C_firsts : Nat → Int32) (n_C_ways : Nat) (R_size : Nat → Int32) (R_elements : Nat → Int64) (res : Int32 × (Nat → Int32)) (RET : RT_X0_cover p l e s m args below meth c Q dC dI cI cJ cB cZ A aC gC_all gC_topped gC_firsts gC_ways aR C_size C_operators R_nodes R_arrows R_operators C_words n_C_all C_all n_C_firsts C_firsts n_C_ways R_size R_elements res)   : ∀ (n : Nat) (C_ways : Nat → Int32) (x1 : Int32) (x2 : Int32) (x3 : Int32) (x5 : Int32) (x6 : Int32), m_X0_cover_39 C_size C_operators C_words n_C_all C_all n_C_firsts C_firsts n_C_ways R_size R_elements n C_ways x1 x2 x3 x5 x6 = some res → ∀ (H : Heap) (locs : List Loc), va_P (dC, dI) vwCl [((aC 0), .inr (0, [.ref (aR 0), .ref (aC 2), .ref (aC 3), .ref gC_all, .ref gC_topped, .ref gC_firsts, .ref gC_ways, .int C_size, .int C_operators])), ((aC 2), .inl (cJ, 40, .inr (.inl C_words))), (gC_all, .inl (cI, n_C_all, .inl C_all)), (gC_firsts, .inl (cI, n_C_firsts, .inl C_firsts)), (gC_ways, .inl (cI, n_C_ways, .inl C_ways)), ((aR 0), .inr (4, [.ref (aR 1), .ref (aR 2), .ref (aR 3), .ref (aR 4), .ref (aR 5), .ref (aR 6), .ref (aR 7), .int R_nodes, .int R_arrows, .int R_operators])), ((aR 2), .inl (cI, 30, .inl R_size)), ((aR 7), .inl (cJ, 270, .inr (.inl R_elements)))] H → va_D A [((aC 0), .inr (0, [.ref (aR 0), .ref (aC 2), .ref (aC 3), .ref gC_all, .ref gC_topped, .ref gC_firsts, .ref gC_ways, .int C_size, .int C_operators])), ((aC 2), .inl (cJ, 40, .inr (.inl C_words))), (gC_all, .inl (cI, n_C_all, .inl C_all)), (gC_firsts, .inl (cI, n_C_firsts, .inl C_firsts)), (gC_ways, .inl (cI, n_C_ways, .inl C_ways)), ((aR 0), .inr (4, [.ref (aR 1), .ref (aR 2), .ref (aR 3), .ref (aR 4), .ref (aR 5), .ref (aR 6), .ref (aR 7), .int R_nodes, .int R_arrows, .int R_operators])), ((aR 2), .inl (cI, 30, .inl R_size)), ((aR 7), .inl (cJ, 270, .inr (.inl R_elements)))] → va_S A s.heap H locs → ∀ (ls : Array Slot), lv_has ls 7 [(0, .ref (aC 0)), (1, .int x1), (2, .int x2), (3, .int x3), (5, .int x5), (6, .int x6)] → W p l e rm_X0_cover s m args below meth c H locs 0 0 Q (F0 m 39 ls []) := by
  obtain ⟨⟨hx, hb, hml, hown, hts⟩, hr, hlocks⟩ := id C0
  intro n
  induction n with
  | zero =>
    intro C_ways x1 x2 x3 x5 x6 hm
    exact absurd hm (by intro h; cases h)
  | succ n ih =>
    intro C_ways x1 x2 x3 x5 x6 hm H locs hP hD hS ls hl
    have hm : (if x6 < 0 then (some (x5, C_ways)) else (Option.bind (m_X4_isHole R_elements x1 x6) (fun r_5 => if r_5 = 0 then (gd x2 40 (Option.bind (m_X4_element R_elements x1 x6) (fun r_9 => if (lg_cmp (C_words x2.toNatClampNeg) r_9) = 0 then (Option.bind (m_X0_way C_size x1 (x6 + 1) (x2 + 1)) (fun r_12 => gd r_12 n_C_ways (m_X0_cover_112 C_size C_operators C_words n_C_all C_all n_C_firsts C_firsts n_C_ways R_size R_elements (m_X0_cover_39 C_size C_operators C_words n_C_all C_all n_C_firsts C_firsts n_C_ways R_size R_elements n) C_ways x1 x2 x3 x6 (C_ways r_12.toNatClampNeg)))) else (m_X0_cover_112 C_size C_operators C_words n_C_all C_all n_C_firsts C_firsts n_C_ways R_size R_elements (m_X0_cover_39 C_size C_operators C_words n_C_all C_all n_C_firsts C_firsts n_C_ways R_size R_elements n) C_ways x1 x2 x3 x6 0)))) else (Option.bind (m_X0_coverHole n_C_all C_all n_C_firsts C_firsts n_C_ways C_ways C_size C_operators x1 x6 x2 x3) (fun r_15 => m_X0_cover_114 C_size C_operators C_words n_C_all C_all n_C_firsts C_firsts n_C_ways R_size R_elements (m_X0_cover_39 C_size C_operators C_words n_C_all C_all n_C_firsts C_firsts n_C_ways R_size R_elements n) C_ways x1 x2 x3 r_15 x6))))) = some res := hm
    refine lv_iload hx hb dX0_cover_39 (lv_at hl 5 rfl) ?_
    refine lv_if_lt (tgt := 135) hx hb dX0_cover_41 (by decide) (fun c_4 => ?_) (fun c_4 => ?_)
    · have hm := it_some c_4 hm
      refine lv_iload hx hb dX0_cover_135 (lv_at hl 4 rfl) ?_
      exact RET x5 C_ways hm _ H locs ls dX0_cover_137 hP hD hS
    · have hm := if_some' c_4 hm
      refine lv_aload_n hx hb dX0_cover_44 rfl (lv_at hl 0 rfl) ?_
      refine va_get (D := (dC, dI)) (ci := 0) (v := .ref (aR 0)) (C := RX0) (T := TX0) (N := 9) hx hb hts X0_cover_inX0 hown hK hP 0 rfl rfl 0 (by decide) (hts (.fieldLink RX0 38 "MixfixDesk$Chart" "rules" "LMixfixDesk$Rules;") (by decide +kernel)) (fun _ h9 => h9) rfl dX0_cover_45 ?_
      refine lv_iload_n hx hb dX0_cover_48 rfl (lv_at hl 1 rfl) ?_
      refine lv_iload hx hb dX0_cover_49 (lv_at hl 5 rfl) ?_
      obtain ⟨r_5, hc_6, hm⟩ := ob_some hm
      refine cx_i (wr := [((aC 0), .inr (0, [.ref (aR 0), .ref (aC 2), .ref (aC 3), .ref gC_all, .ref gC_topped, .ref gC_firsts, .ref gC_ways, .int C_size, .int C_operators])), ((aC 2), .inl (cJ, 40, .inr (.inl C_words))), (gC_all, .inl (cI, n_C_all, .inl C_all)), (gC_firsts, .inl (cI, n_C_firsts, .inl C_firsts)), (gC_ways, .inl (cI, n_C_ways, .inl C_ways)), ((aR 2), .inl (cI, 30, .inl R_size))]) (va_runV (As := [.int x1, .int x6]) (rest := []) C0.1 (c_X4_isHole l dC dI cI cJ cB cZ aR H.size R_nodes R_arrows R_operators R_elements x1 x6 r_5 hc_6) (cwV 2 hts gX0_cover_X4_isHole rfl rfl rfl (by decide +kernel) ⟨Nat.le_of_ble_eq_true rfl, Nat.le_of_ble_eq_true rfl⟩) (cP_V (ci := 4) (q0 := 5) hK hN hP hD rfl rfl [5, 7] (by decide) rfl) rfl rfl hl.1 rfl (lv_room (Nat.le_of_ble_eq_true rfl)) dX0_cover_51 ⟨Nat.le_of_ble_eq_true rfl, Nat.le_of_ble_eq_true rfl⟩) hP hD hS hA [5, 7] [0, 1, 2, 3, 4, 6] rfl rfl (by decide) (by decide) (fun H locs hP hD hS => ?_)
      have hP : va_P (dC, dI) vwCl [((aC 0), .inr (0, [.ref (aR 0), .ref (aC 2), .ref (aC 3), .ref gC_all, .ref gC_topped, .ref gC_firsts, .ref gC_ways, .int C_size, .int C_operators])), ((aC 2), .inl (cJ, 40, .inr (.inl C_words))), (gC_all, .inl (cI, n_C_all, .inl C_all)), (gC_firsts, .inl (cI, n_C_firsts, .inl C_firsts)), (gC_ways, .inl (cI, n_C_ways, .inl C_ways)), ((aR 2), .inl (cI, 30, .inl R_size)), ((aR 0), .inr (4, [.ref (aR 1), .ref (aR 2), .ref (aR 3), .ref (aR 4), .ref (aR 5), .ref (aR 6), .ref (aR 7), .int R_nodes, .int R_arrows, .int R_operators])), ((aR 7), .inl (cJ, 270, .inr (.inl R_elements)))] H := hP
      have hD : va_D A [((aC 0), .inr (0, [.ref (aR 0), .ref (aC 2), .ref (aC 3), .ref gC_all, .ref gC_topped, .ref gC_firsts, .ref gC_ways, .int C_size, .int C_operators])), ((aC 2), .inl (cJ, 40, .inr (.inl C_words))), (gC_all, .inl (cI, n_C_all, .inl C_all)), (gC_firsts, .inl (cI, n_C_firsts, .inl C_firsts)), (gC_ways, .inl (cI, n_C_ways, .inl C_ways)), ((aR 2), .inl (cI, 30, .inl R_size)), ((aR 0), .inr (4, [.ref (aR 1), .ref (aR 2), .ref (aR 3), .ref (aR 4), .ref (aR 5), .ref (aR 6), .ref (aR 7), .int R_nodes, .int R_arrows, .int R_operators])), ((aR 7), .inl (cJ, 270, .inr (.inl R_elements)))] := hD
      refine lv_if_eq (tgt := 71) hx hb dX0_cover_54 (by decide) (fun c_7 => ?_) (fun c_7 => ?_)
      · have hm := it_some c_7 hm
        refine lv_aload_n hx hb dX0_cover_71 rfl (lv_at hl 0 rfl) ?_
        refine va_get (D := (dC, dI)) (ci := 0) (v := .ref (aC 2)) (C := RX0) (T := TX0) (N := 9) hx hb hts X0_cover_inX0 hown hK hP 0 rfl rfl 1 (by decide) (hts (.fieldLink RX0 9 "MixfixDesk$Chart" "words" "[J") (by decide +kernel)) (fun _ h9 => h9) rfl dX0_cover_72 ?_
        refine lv_iload_n hx hb dX0_cover_75 rfl (lv_at hl 2 rfl) ?_
        obtain ⟨hi_8, hm⟩ := gd_some hm
        refine va_lald (D := (dC, dI)) hx hb hK hP 1 1 rfl rfl hi_8 dX0_cover_76 ?_
        refine lv_aload_n hx hb dX0_cover_77 rfl (lv_at hl 0 rfl) ?_
        refine va_get (D := (dC, dI)) (ci := 0) (v := .ref (aR 0)) (C := RX0) (T := TX0) (N := 9) hx hb hts X0_cover_inX0 hown hK hP 0 rfl rfl 0 (by decide) (hts (.fieldLink RX0 38 "MixfixDesk$Chart" "rules" "LMixfixDesk$Rules;") (by decide +kernel)) (fun _ h9 => h9) rfl dX0_cover_78 ?_
        refine lv_iload_n hx hb dX0_cover_81 rfl (lv_at hl 1 rfl) ?_
        refine lv_iload hx hb dX0_cover_82 (lv_at hl 5 rfl) ?_
        obtain ⟨r_9, hc_10, hm⟩ := ob_some hm
        refine cx_l (wr := [((aC 0), .inr (0, [.ref (aR 0), .ref (aC 2), .ref (aC 3), .ref gC_all, .ref gC_topped, .ref gC_firsts, .ref gC_ways, .int C_size, .int C_operators])), ((aC 2), .inl (cJ, 40, .inr (.inl C_words))), (gC_all, .inl (cI, n_C_all, .inl C_all)), (gC_firsts, .inl (cI, n_C_firsts, .inl C_firsts)), (gC_ways, .inl (cI, n_C_ways, .inl C_ways)), ((aR 2), .inl (cI, 30, .inl R_size))]) (va_runV (As := [.int x1, .int x6]) (rest := [.long (C_words x2.toNatClampNeg)]) C0.1 (c_X4_element l dC dI cI cJ cB cZ aR H.size R_nodes R_arrows R_operators R_elements x1 x6 r_9 hc_10) (cwV 2 hts gX0_cover_X4_element rfl rfl rfl (by decide +kernel) ⟨Nat.le_of_ble_eq_true rfl, Nat.le_of_ble_eq_true rfl⟩) (cP_V (ci := 4) (q0 := 6) hK hN hP hD rfl rfl [6, 7] (by decide) rfl) rfl rfl hl.1 rfl (lv_room (Nat.le_of_ble_eq_true rfl)) dX0_cover_84 ⟨Nat.le_of_ble_eq_true rfl, Nat.le_of_ble_eq_true rfl⟩) hP hD hS hA [6, 7] [0, 1, 2, 3, 4, 5] rfl rfl (by decide) (by decide) (fun H locs hP hD hS => ?_)
        have hP : va_P (dC, dI) vwCl [((aC 0), .inr (0, [.ref (aR 0), .ref (aC 2), .ref (aC 3), .ref gC_all, .ref gC_topped, .ref gC_firsts, .ref gC_ways, .int C_size, .int C_operators])), ((aC 2), .inl (cJ, 40, .inr (.inl C_words))), (gC_all, .inl (cI, n_C_all, .inl C_all)), (gC_firsts, .inl (cI, n_C_firsts, .inl C_firsts)), (gC_ways, .inl (cI, n_C_ways, .inl C_ways)), ((aR 2), .inl (cI, 30, .inl R_size)), ((aR 0), .inr (4, [.ref (aR 1), .ref (aR 2), .ref (aR 3), .ref (aR 4), .ref (aR 5), .ref (aR 6), .ref (aR 7), .int R_nodes, .int R_arrows, .int R_operators])), ((aR 7), .inl (cJ, 270, .inr (.inl R_elements)))] H := hP
        have hD : va_D A [((aC 0), .inr (0, [.ref (aR 0), .ref (aC 2), .ref (aC 3), .ref gC_all, .ref gC_topped, .ref gC_firsts, .ref gC_ways, .int C_size, .int C_operators])), ((aC 2), .inl (cJ, 40, .inr (.inl C_words))), (gC_all, .inl (cI, n_C_all, .inl C_all)), (gC_firsts, .inl (cI, n_C_firsts, .inl C_firsts)), (gC_ways, .inl (cI, n_C_ways, .inl C_ways)), ((aR 2), .inl (cI, 30, .inl R_size)), ((aR 0), .inr (4, [.ref (aR 1), .ref (aR 2), .ref (aR 3), .ref (aR 4), .ref (aR 5), .ref (aR 6), .ref (aR 7), .int R_nodes, .int R_arrows, .int R_operators])), ((aR 7), .inl (cJ, 270, .inr (.inl R_elements)))] := hD
        refine W.lcmp hx hb dX0_cover_87 ?_
        refine lv_if_ne (tgt := 111) hx hb dX0_cover_88 (by decide) (fun c_11 => ?_) (fun c_11 => ?_)
        · have hm := if_some' c_11 hm
          refine lv_iconst (v := 0) hx hb dX0_cover_111 (by decide) ?_
          exact k_X0_cover_112 C0 hK hN hA aC gC_all gC_topped gC_firsts gC_ways aR C_size C_operators R_nodes R_arrows R_operators C_words n_C_all C_all n_C_firsts C_firsts n_C_ways R_size R_elements res RET (m_X0_cover_39 C_size C_operators C_words n_C_all C_all n_C_firsts C_firsts n_C_ways R_size R_elements n) ih C_ways x1 x2 x3 x6 0 hm H locs (P_sub' hP [0, 1, 2, 3, 4, 6, 5, 7] rfl) (hD.sub [0, 1, 2, 3, 4, 6, 5, 7] (by decide) rfl) hS ls (lv_sub hl [0, 1, 2, 3, 5] rfl)
        · have hm := it_some c_11 hm
          refine lv_aload_n hx hb dX0_cover_91 rfl (lv_at hl 0 rfl) ?_
          refine va_get (D := (dC, dI)) (ci := 0) (v := .ref gC_ways) (C := RX0) (T := TX0) (N := 9) hx hb hts X0_cover_inX0 hown hK hP 0 rfl rfl 6 (by decide) (hts (.fieldLink RX0 28 "MixfixDesk$Chart" "ways" "[I") (by decide +kernel)) (fun _ h9 => h9) rfl dX0_cover_92 ?_
          refine lv_aload_n hx hb dX0_cover_95 rfl (lv_at hl 0 rfl) ?_
          refine lv_iload_n hx hb dX0_cover_96 rfl (lv_at hl 1 rfl) ?_
          refine lv_iload hx hb dX0_cover_97 (lv_at hl 5 rfl) ?_
          refine lv_iconst (v := 1) hx hb dX0_cover_99 (by decide) ?_
          refine lv_iadd hx hb dX0_cover_100 ?_
          refine lv_iload_n hx hb dX0_cover_101 rfl (lv_at hl 2 rfl) ?_
          refine lv_iconst (v := 1) hx hb dX0_cover_102 (by decide) ?_
          refine lv_iadd hx hb dX0_cover_103 ?_
          obtain ⟨r_12, hc_13, hm⟩ := ob_some hm
          refine cx_i (wr := [((aC 2), .inl (cJ, 40, .inr (.inl C_words))), (gC_all, .inl (cI, n_C_all, .inl C_all)), (gC_firsts, .inl (cI, n_C_firsts, .inl C_firsts)), (gC_ways, .inl (cI, n_C_ways, .inl C_ways)), ((aR 2), .inl (cI, 30, .inl R_size)), ((aR 0), .inr (4, [.ref (aR 1), .ref (aR 2), .ref (aR 3), .ref (aR 4), .ref (aR 5), .ref (aR 6), .ref (aR 7), .int R_nodes, .int R_arrows, .int R_operators])), ((aR 7), .inl (cJ, 270, .inr (.inl R_elements)))]) (va_runV (As := [.int x1, .int (x6 + 1), .int (x2 + 1)]) (rest := [.ref gC_ways]) C0.1 (c_X0_way l dC dI cI cJ cB cZ aC (aR 0) gC_all gC_topped gC_firsts gC_ways H.size C_size C_operators x1 (x6 + 1) (x2 + 1) r_12 hc_13) (cwV 3 hts gX0_cover_X0_way rfl rfl rfl (by decide +kernel) ⟨Nat.le_of_ble_eq_true rfl, Nat.le_of_ble_eq_true rfl⟩) (cP_V (ci := 0) (q0 := 0) hK hN hP hD rfl rfl [0] (by decide) rfl) rfl rfl hl.1 rfl (lv_room (Nat.le_of_ble_eq_true rfl)) dX0_cover_104 ⟨Nat.le_of_ble_eq_true rfl, Nat.le_of_ble_eq_true rfl⟩) hP hD hS hA [0] [1, 2, 3, 4, 5, 6, 7] rfl rfl (by decide) (by decide) (fun H locs hP hD hS => ?_)
          have hP : va_P (dC, dI) vwCl [((aC 2), .inl (cJ, 40, .inr (.inl C_words))), (gC_all, .inl (cI, n_C_all, .inl C_all)), (gC_firsts, .inl (cI, n_C_firsts, .inl C_firsts)), (gC_ways, .inl (cI, n_C_ways, .inl C_ways)), ((aR 2), .inl (cI, 30, .inl R_size)), ((aR 0), .inr (4, [.ref (aR 1), .ref (aR 2), .ref (aR 3), .ref (aR 4), .ref (aR 5), .ref (aR 6), .ref (aR 7), .int R_nodes, .int R_arrows, .int R_operators])), ((aR 7), .inl (cJ, 270, .inr (.inl R_elements))), ((aC 0), .inr (0, [.ref (aR 0), .ref (aC 2), .ref (aC 3), .ref gC_all, .ref gC_topped, .ref gC_firsts, .ref gC_ways, .int C_size, .int C_operators]))] H := hP
          have hD : va_D A [((aC 2), .inl (cJ, 40, .inr (.inl C_words))), (gC_all, .inl (cI, n_C_all, .inl C_all)), (gC_firsts, .inl (cI, n_C_firsts, .inl C_firsts)), (gC_ways, .inl (cI, n_C_ways, .inl C_ways)), ((aR 2), .inl (cI, 30, .inl R_size)), ((aR 0), .inr (4, [.ref (aR 1), .ref (aR 2), .ref (aR 3), .ref (aR 4), .ref (aR 5), .ref (aR 6), .ref (aR 7), .int R_nodes, .int R_arrows, .int R_operators])), ((aR 7), .inl (cJ, 270, .inr (.inl R_elements))), ((aC 0), .inr (0, [.ref (aR 0), .ref (aC 2), .ref (aC 3), .ref gC_all, .ref gC_topped, .ref gC_firsts, .ref gC_ways, .int C_size, .int C_operators]))] := hD
          obtain ⟨hi_14, hm⟩ := gd_some hm
          refine va_iald (D := (dC, dI)) hx hb hK hP 3 0 rfl rfl hi_14 dX0_cover_107 ?_
          refine lv_goto (tgt := 112) hx hb dX0_cover_108 (by decide) ?_
          exact k_X0_cover_112 C0 hK hN hA aC gC_all gC_topped gC_firsts gC_ways aR C_size C_operators R_nodes R_arrows R_operators C_words n_C_all C_all n_C_firsts C_firsts n_C_ways R_size R_elements res RET (m_X0_cover_39 C_size C_operators C_words n_C_all C_all n_C_firsts C_firsts n_C_ways R_size R_elements n) ih C_ways x1 x2 x3 x6 (C_ways r_12.toNatClampNeg) hm H locs (P_sub' hP [7, 0, 1, 2, 3, 5, 4, 6] rfl) (hD.sub [7, 0, 1, 2, 3, 5, 4, 6] (by decide) rfl) hS ls (lv_sub hl [0, 1, 2, 3, 5] rfl)
      · have hm := if_some' c_7 hm
        refine lv_aload_n hx hb dX0_cover_57 rfl (lv_at hl 0 rfl) ?_
        refine lv_iload_n hx hb dX0_cover_58 rfl (lv_at hl 1 rfl) ?_
        refine lv_iload hx hb dX0_cover_59 (lv_at hl 5 rfl) ?_
        refine lv_iload_n hx hb dX0_cover_61 rfl (lv_at hl 2 rfl) ?_
        refine lv_iload_n hx hb dX0_cover_62 rfl (lv_at hl 3 rfl) ?_
        obtain ⟨r_15, hc_16, hm⟩ := ob_some hm
        refine cx_i (wr := [((aC 2), .inl (cJ, 40, .inr (.inl C_words))), ((aR 2), .inl (cI, 30, .inl R_size)), ((aR 0), .inr (4, [.ref (aR 1), .ref (aR 2), .ref (aR 3), .ref (aR 4), .ref (aR 5), .ref (aR 6), .ref (aR 7), .int R_nodes, .int R_arrows, .int R_operators])), ((aR 7), .inl (cJ, 270, .inr (.inl R_elements)))]) (va_runV (As := [.int x1, .int x6, .int x2, .int x3]) (rest := []) C0.1 (c_X0_coverHole l dC dI cI cJ cB cZ aC (aR 0) gC_all gC_topped gC_firsts gC_ways H.size C_size C_operators n_C_all C_all n_C_firsts C_firsts n_C_ways C_ways x1 x6 x2 x3 r_15 hc_16) (cwV 4 hts gX0_cover_X0_coverHole rfl rfl rfl (by decide +kernel) ⟨Nat.le_of_ble_eq_true rfl, Nat.le_of_ble_eq_true rfl⟩) (cP_V (ci := 0) (q0 := 0) hK hN hP hD rfl rfl [0, 2, 3, 4] (by decide) rfl) rfl rfl hl.1 rfl (lv_room (Nat.le_of_ble_eq_true rfl)) dX0_cover_63 ⟨Nat.le_of_ble_eq_true rfl, Nat.le_of_ble_eq_true rfl⟩) hP hD hS hA [0, 2, 3, 4] [1, 5, 6, 7] rfl rfl (by decide) (by decide) (fun H locs hP hD hS => ?_)
        have hP : va_P (dC, dI) vwCl [((aC 2), .inl (cJ, 40, .inr (.inl C_words))), ((aR 2), .inl (cI, 30, .inl R_size)), ((aR 0), .inr (4, [.ref (aR 1), .ref (aR 2), .ref (aR 3), .ref (aR 4), .ref (aR 5), .ref (aR 6), .ref (aR 7), .int R_nodes, .int R_arrows, .int R_operators])), ((aR 7), .inl (cJ, 270, .inr (.inl R_elements))), ((aC 0), .inr (0, [.ref (aR 0), .ref (aC 2), .ref (aC 3), .ref gC_all, .ref gC_topped, .ref gC_firsts, .ref gC_ways, .int C_size, .int C_operators])), (gC_all, .inl (cI, n_C_all, .inl C_all)), (gC_firsts, .inl (cI, n_C_firsts, .inl C_firsts)), (gC_ways, .inl (cI, n_C_ways, .inl C_ways))] H := hP
        have hD : va_D A [((aC 2), .inl (cJ, 40, .inr (.inl C_words))), ((aR 2), .inl (cI, 30, .inl R_size)), ((aR 0), .inr (4, [.ref (aR 1), .ref (aR 2), .ref (aR 3), .ref (aR 4), .ref (aR 5), .ref (aR 6), .ref (aR 7), .int R_nodes, .int R_arrows, .int R_operators])), ((aR 7), .inl (cJ, 270, .inr (.inl R_elements))), ((aC 0), .inr (0, [.ref (aR 0), .ref (aC 2), .ref (aC 3), .ref gC_all, .ref gC_topped, .ref gC_firsts, .ref gC_ways, .int C_size, .int C_operators])), (gC_all, .inl (cI, n_C_all, .inl C_all)), (gC_firsts, .inl (cI, n_C_firsts, .inl C_firsts)), (gC_ways, .inl (cI, n_C_ways, .inl C_ways))] := hD
        refine lv_istore (lv' := [(5, .int r_15), (0, .ref (aC 0)), (1, .int x1), (2, .int x2), (3, .int x3), (6, .int x6)]) hx hb dX0_cover_66 hl (by decide) rfl (fun ls hl => ?_)
        refine lv_goto (tgt := 114) hx hb dX0_cover_68 (by decide) ?_
        exact k_X0_cover_114 C0 hK hN hA aC gC_all gC_topped gC_firsts gC_ways aR C_size C_operators R_nodes R_arrows R_operators C_words n_C_all C_all n_C_firsts C_firsts n_C_ways R_size R_elements res RET (m_X0_cover_39 C_size C_operators C_words n_C_all C_all n_C_firsts C_firsts n_C_ways R_size R_elements n) ih C_ways x1 x2 x3 r_15 x6 hm H locs (P_sub' hP [4, 0, 5, 6, 7, 2, 1, 3] rfl) (hD.sub [4, 0, 5, 6, 7, 2, 1, 3] (by decide) rfl) hS ls (lv_sub hl [1, 2, 3, 4, 0, 5] rfl)
set_option maxHeartbeats 4000000 in
set_option maxRecDepth 100000 in
theorem k_X0_cover_37 {p : Program} {l : Launch} {e : Env} {s : State} {m : MethodId} {args : Array Value} {below : List Frame} {meth : Method} {c : Code} {Q : State → Prop} {dC : Nat → ClassId} {dI : Nat → Nat → Nat} {cI cJ cB cZ : ClassId} {A : Nat → Prop} (C0 : Cx p s m meth c args cX0_cover 7 (some .int) wsX0_cover RX0) (hK : va_K (dC, dI) vwCl [(cI, .int), (cJ, .long), (cB, .byte), (cZ, .boolean)] s) (hN : NW s) (hA : ∀ q, s.heap.size ≤ q → A q) (aC : Nat → Nat) (gC_all : Nat) (gC_topped : Nat) (gC_firsts : Nat) (gC_ways : Nat) (aR : Nat → Nat) (C_size : Int32) (C_operators : Int32) (R_nodes : Int32) (R_arrows : Int32) (R_operators : Int32) (C_words : Nat → Int64) (n_C_all : Nat) (C_all : Nat → Int32) (n_C_firsts : Nat) (C_firsts : Nat → Int32) (n_C_ways : Nat) (R_size : Nat → Int32) (R_elements : Nat → Int64) (res : Int32 × (Nat → Int32)) (RET : RT_X0_cover p l e s m args below meth c Q dC dI cI cJ cB cZ A aC gC_all gC_topped gC_firsts gC_ways aR C_size C_operators R_nodes R_arrows R_operators C_words n_C_all C_all n_C_firsts C_firsts n_C_ways R_size R_elements res)   : ∀ (C_ways : Nat → Int32) (x1 : Int32) (x2 : Int32) (x3 : Int32) (x5 : Int32) (y0 : Int32), m_X0_cover_37 C_size C_operators C_words n_C_all C_all n_C_firsts C_firsts n_C_ways R_size R_elements C_ways x1 x2 x3 x5 y0 = some res → ∀ (H : Heap) (locs : List Loc), va_P (dC, dI) vwCl [((aC 0), .inr (0, [.ref (aR 0), .ref (aC 2), .ref (aC 3), .ref gC_all, .ref gC_topped, .ref gC_firsts, .ref gC_ways, .int C_size, .int C_operators])), ((aC 2), .inl (cJ, 40, .inr (.inl C_words))), (gC_all, .inl (cI, n_C_all, .inl C_all)), (gC_firsts, .inl (cI, n_C_firsts, .inl C_firsts)), (gC_ways, .inl (cI, n_C_ways, .inl C_ways)), ((aR 0), .inr (4, [.ref (aR 1), .ref (aR 2), .ref (aR 3), .ref (aR 4), .ref (aR 5), .ref (aR 6), .ref (aR 7), .int R_nodes, .int R_arrows, .int R_operators])), ((aR 2), .inl (cI, 30, .inl R_size)), ((aR 7), .inl (cJ, 270, .inr (.inl R_elements)))] H → va_D A [((aC 0), .inr (0, [.ref (aR 0), .ref (aC 2), .ref (aC 3), .ref gC_all, .ref gC_topped, .ref gC_firsts, .ref gC_ways, .int C_size, .int C_operators])), ((aC 2), .inl (cJ, 40, .inr (.inl C_words))), (gC_all, .inl (cI, n_C_all, .inl C_all)), (gC_firsts, .inl (cI, n_C_firsts, .inl C_firsts)), (gC_ways, .inl (cI, n_C_ways, .inl C_ways)), ((aR 0), .inr (4, [.ref (aR 1), .ref (aR 2), .ref (aR 3), .ref (aR 4), .ref (aR 5), .ref (aR 6), .ref (aR 7), .int R_nodes, .int R_arrows, .int R_operators])), ((aR 2), .inl (cI, 30, .inl R_size)), ((aR 7), .inl (cJ, 270, .inr (.inl R_elements)))] → va_S A s.heap H locs → ∀ (ls : Array Slot), lv_has ls 7 [(0, .ref (aC 0)), (1, .int x1), (2, .int x2), (3, .int x3), (5, .int x5)] → W p l e rm_X0_cover s m args below meth c H locs 0 0 Q (F0 m 37 ls [.int y0]) := by
  obtain ⟨⟨hx, hb, hml, hown, hts⟩, hr, hlocks⟩ := id C0
  intro C_ways x1 x2 x3 x5 y0 hm H locs hP hD hS ls hl
  have hm : (m_X0_cover_39 C_size C_operators C_words n_C_all C_all n_C_firsts C_firsts n_C_ways R_size R_elements FU C_ways x1 x2 x3 x5 y0) = some res := hm
  refine lv_istore (lv' := [(6, .int y0), (0, .ref (aC 0)), (1, .int x1), (2, .int x2), (3, .int x3), (5, .int x5)]) hx hb dX0_cover_37 hl (by decide) rfl (fun ls hl => ?_)
  exact k_X0_cover_39 C0 hK hN hA aC gC_all gC_topped gC_firsts gC_ways aR C_size C_operators R_nodes R_arrows R_operators C_words n_C_all C_all n_C_firsts C_firsts n_C_ways R_size R_elements res RET FU C_ways x1 x2 x3 x5 y0 hm H locs hP hD hS ls (lv_sub hl [1, 2, 3, 4, 5, 0] rfl)
set_option maxHeartbeats 4000000 in
set_option maxRecDepth 100000 in
theorem k_X0_cover_E {p : Program} {l : Launch} {e : Env} {s : State} {m : MethodId} {args : Array Value} {below : List Frame} {meth : Method} {c : Code} {Q : State → Prop} {dC : Nat → ClassId} {dI : Nat → Nat → Nat} {cI cJ cB cZ : ClassId} {A : Nat → Prop} (C0 : Cx p s m meth c args cX0_cover 7 (some .int) wsX0_cover RX0) (hK : va_K (dC, dI) vwCl [(cI, .int), (cJ, .long), (cB, .byte), (cZ, .boolean)] s) (hN : NW s) (hA : ∀ q, s.heap.size ≤ q → A q) (aC : Nat → Nat) (gC_all : Nat) (gC_topped : Nat) (gC_firsts : Nat) (gC_ways : Nat) (aR : Nat → Nat) (C_size : Int32) (C_operators : Int32) (R_nodes : Int32) (R_arrows : Int32) (R_operators : Int32) (C_words : Nat → Int64) (n_C_all : Nat) (C_all : Nat → Int32) (n_C_firsts : Nat) (C_firsts : Nat → Int32) (n_C_ways : Nat) (R_size : Nat → Int32) (R_elements : Nat → Int64) (res : Int32 × (Nat → Int32)) (RET : RT_X0_cover p l e s m args below meth c Q dC dI cI cJ cB cZ A aC gC_all gC_topped gC_firsts gC_ways aR C_size C_operators R_nodes R_arrows R_operators C_words n_C_all C_all n_C_firsts C_firsts n_C_ways R_size R_elements res) : ∀ (C_ways : Nat → Int32) (p0 : Int32) (p1 : Int32) (p2 : Int32), m_X0_cover C_words n_C_all C_all n_C_firsts C_firsts n_C_ways C_ways C_size C_operators R_size R_elements p0 p1 p2 = some res → ∀ (H : Heap) (locs : List Loc), va_P (dC, dI) vwCl [((aC 0), .inr (0, [.ref (aR 0), .ref (aC 2), .ref (aC 3), .ref gC_all, .ref gC_topped, .ref gC_firsts, .ref gC_ways, .int C_size, .int C_operators])), ((aC 2), .inl (cJ, 40, .inr (.inl C_words))), (gC_all, .inl (cI, n_C_all, .inl C_all)), (gC_firsts, .inl (cI, n_C_firsts, .inl C_firsts)), (gC_ways, .inl (cI, n_C_ways, .inl C_ways)), ((aR 0), .inr (4, [.ref (aR 1), .ref (aR 2), .ref (aR 3), .ref (aR 4), .ref (aR 5), .ref (aR 6), .ref (aR 7), .int R_nodes, .int R_arrows, .int R_operators])), ((aR 2), .inl (cI, 30, .inl R_size)), ((aR 7), .inl (cJ, 270, .inr (.inl R_elements)))] H → va_D A [((aC 0), .inr (0, [.ref (aR 0), .ref (aC 2), .ref (aC 3), .ref gC_all, .ref gC_topped, .ref gC_firsts, .ref gC_ways, .int C_size, .int C_operators])), ((aC 2), .inl (cJ, 40, .inr (.inl C_words))), (gC_all, .inl (cI, n_C_all, .inl C_all)), (gC_firsts, .inl (cI, n_C_firsts, .inl C_firsts)), (gC_ways, .inl (cI, n_C_ways, .inl C_ways)), ((aR 0), .inr (4, [.ref (aR 1), .ref (aR 2), .ref (aR 3), .ref (aR 4), .ref (aR 5), .ref (aR 6), .ref (aR 7), .int R_nodes, .int R_arrows, .int R_operators])), ((aR 2), .inl (cI, 30, .inl R_size)), ((aR 7), .inl (cJ, 270, .inr (.inl R_elements)))] → va_S A s.heap H locs → ∀ (ls : Array Slot), lv_has ls 7 [(0, .ref (aC 0)), (1, .int p0), (2, .int p1), (3, .int p2)] → W p l e rm_X0_cover s m args below meth c H locs 0 0 Q (F0 m 0 ls []) := by
  obtain ⟨⟨hx, hb, hml, hown, hts⟩, hr, hlocks⟩ := id C0
  intro C_ways p0 p1 p2 hm H locs hP hD hS ls hl
  have hm : (Option.bind (m_X4_size R_size p0) (fun r_17 => Option.bind (m_X4_isHole R_elements p0 (r_17 - 1)) (fun r_19 => if r_19 = 0 then (m_X0_cover_37 C_size C_operators C_words n_C_all C_all n_C_firsts C_firsts n_C_ways R_size R_elements C_ways p0 p1 p2 0 (r_17 - 1)) else (m_X0_cover_37 C_size C_operators C_words n_C_all C_all n_C_firsts C_firsts n_C_ways R_size R_elements C_ways p0 p1 p2 0 ((r_17 - 1) - 1))))) = some res := hm
  refine lv_aload_n hx hb dX0_cover_0 rfl (lv_at hl 0 rfl) ?_
  refine va_get (D := (dC, dI)) (ci := 0) (v := .ref (aR 0)) (C := RX0) (T := TX0) (N := 9) hx hb hts X0_cover_inX0 hown hK hP 0 rfl rfl 0 (by decide) (hts (.fieldLink RX0 38 "MixfixDesk$Chart" "rules" "LMixfixDesk$Rules;") (by decide +kernel)) (fun _ h9 => h9) rfl dX0_cover_1 ?_
  refine lv_iload_n hx hb dX0_cover_4 rfl (lv_at hl 1 rfl) ?_
  obtain ⟨r_17, hc_18, hm⟩ := ob_some hm
  refine cx_i (wr := [((aC 0), .inr (0, [.ref (aR 0), .ref (aC 2), .ref (aC 3), .ref gC_all, .ref gC_topped, .ref gC_firsts, .ref gC_ways, .int C_size, .int C_operators])), ((aC 2), .inl (cJ, 40, .inr (.inl C_words))), (gC_all, .inl (cI, n_C_all, .inl C_all)), (gC_firsts, .inl (cI, n_C_firsts, .inl C_firsts)), (gC_ways, .inl (cI, n_C_ways, .inl C_ways)), ((aR 7), .inl (cJ, 270, .inr (.inl R_elements)))]) (va_runV (As := [.int p0]) (rest := []) C0.1 (c_X4_size l dC dI cI cJ cB cZ aR H.size R_nodes R_arrows R_operators R_size p0 r_17 hc_18) (cwV 1 hts gX0_cover_X4_size rfl rfl rfl (by decide +kernel) ⟨Nat.le_of_ble_eq_true rfl, Nat.le_of_ble_eq_true rfl⟩) (cP_V (ci := 4) (q0 := 5) hK hN hP hD rfl rfl [5, 6] (by decide) rfl) rfl rfl hl.1 rfl (lv_room (Nat.le_of_ble_eq_true rfl)) dX0_cover_5 ⟨Nat.le_of_ble_eq_true rfl, Nat.le_of_ble_eq_true rfl⟩) hP hD hS hA [5, 6] [0, 1, 2, 3, 4, 7] rfl rfl (by decide) (by decide) (fun H locs hP hD hS => ?_)
  have hP : va_P (dC, dI) vwCl [((aC 0), .inr (0, [.ref (aR 0), .ref (aC 2), .ref (aC 3), .ref gC_all, .ref gC_topped, .ref gC_firsts, .ref gC_ways, .int C_size, .int C_operators])), ((aC 2), .inl (cJ, 40, .inr (.inl C_words))), (gC_all, .inl (cI, n_C_all, .inl C_all)), (gC_firsts, .inl (cI, n_C_firsts, .inl C_firsts)), (gC_ways, .inl (cI, n_C_ways, .inl C_ways)), ((aR 7), .inl (cJ, 270, .inr (.inl R_elements))), ((aR 0), .inr (4, [.ref (aR 1), .ref (aR 2), .ref (aR 3), .ref (aR 4), .ref (aR 5), .ref (aR 6), .ref (aR 7), .int R_nodes, .int R_arrows, .int R_operators])), ((aR 2), .inl (cI, 30, .inl R_size))] H := hP
  have hD : va_D A [((aC 0), .inr (0, [.ref (aR 0), .ref (aC 2), .ref (aC 3), .ref gC_all, .ref gC_topped, .ref gC_firsts, .ref gC_ways, .int C_size, .int C_operators])), ((aC 2), .inl (cJ, 40, .inr (.inl C_words))), (gC_all, .inl (cI, n_C_all, .inl C_all)), (gC_firsts, .inl (cI, n_C_firsts, .inl C_firsts)), (gC_ways, .inl (cI, n_C_ways, .inl C_ways)), ((aR 7), .inl (cJ, 270, .inr (.inl R_elements))), ((aR 0), .inr (4, [.ref (aR 1), .ref (aR 2), .ref (aR 3), .ref (aR 4), .ref (aR 5), .ref (aR 6), .ref (aR 7), .int R_nodes, .int R_arrows, .int R_operators])), ((aR 2), .inl (cI, 30, .inl R_size))] := hD
  refine lv_iconst (v := 1) hx hb dX0_cover_8 (by decide) ?_
  refine lv_isub hx hb dX0_cover_9 ?_
  refine lv_istore (lv' := [(4, .int (r_17 - 1)), (0, .ref (aC 0)), (1, .int p0), (2, .int p1), (3, .int p2)]) hx hb dX0_cover_10 hl (by decide) rfl (fun ls hl => ?_)
  refine lv_iconst (v := 0) hx hb dX0_cover_12 (by decide) ?_
  refine lv_istore (lv' := [(5, .int 0), (4, .int (r_17 - 1)), (0, .ref (aC 0)), (1, .int p0), (2, .int p1), (3, .int p2)]) hx hb dX0_cover_13 hl (by decide) rfl (fun ls hl => ?_)
  refine lv_aload_n hx hb dX0_cover_15 rfl (lv_at hl 2 rfl) ?_
  refine va_get (D := (dC, dI)) (ci := 0) (v := .ref (aR 0)) (C := RX0) (T := TX0) (N := 9) hx hb hts X0_cover_inX0 hown hK hP 0 rfl rfl 0 (by decide) (hts (.fieldLink RX0 38 "MixfixDesk$Chart" "rules" "LMixfixDesk$Rules;") (by decide +kernel)) (fun _ h9 => h9) rfl dX0_cover_16 ?_
  refine lv_iload_n hx hb dX0_cover_19 rfl (lv_at hl 3 rfl) ?_
  refine lv_iload hx hb dX0_cover_20 (lv_at hl 1 rfl) ?_
  obtain ⟨r_19, hc_20, hm⟩ := ob_some hm
  refine cx_i (wr := [((aC 0), .inr (0, [.ref (aR 0), .ref (aC 2), .ref (aC 3), .ref gC_all, .ref gC_topped, .ref gC_firsts, .ref gC_ways, .int C_size, .int C_operators])), ((aC 2), .inl (cJ, 40, .inr (.inl C_words))), (gC_all, .inl (cI, n_C_all, .inl C_all)), (gC_firsts, .inl (cI, n_C_firsts, .inl C_firsts)), (gC_ways, .inl (cI, n_C_ways, .inl C_ways)), ((aR 2), .inl (cI, 30, .inl R_size))]) (va_runV (As := [.int p0, .int (r_17 - 1)]) (rest := []) C0.1 (c_X4_isHole l dC dI cI cJ cB cZ aR H.size R_nodes R_arrows R_operators R_elements p0 (r_17 - 1) r_19 hc_20) (cwV 2 hts gX0_cover_X4_isHole rfl rfl rfl (by decide +kernel) ⟨Nat.le_of_ble_eq_true rfl, Nat.le_of_ble_eq_true rfl⟩) (cP_V (ci := 4) (q0 := 6) hK hN hP hD rfl rfl [6, 5] (by decide) rfl) rfl rfl hl.1 rfl (lv_room (Nat.le_of_ble_eq_true rfl)) dX0_cover_22 ⟨Nat.le_of_ble_eq_true rfl, Nat.le_of_ble_eq_true rfl⟩) hP hD hS hA [6, 5] [0, 1, 2, 3, 4, 7] rfl rfl (by decide) (by decide) (fun H locs hP hD hS => ?_)
  have hP : va_P (dC, dI) vwCl [((aC 0), .inr (0, [.ref (aR 0), .ref (aC 2), .ref (aC 3), .ref gC_all, .ref gC_topped, .ref gC_firsts, .ref gC_ways, .int C_size, .int C_operators])), ((aC 2), .inl (cJ, 40, .inr (.inl C_words))), (gC_all, .inl (cI, n_C_all, .inl C_all)), (gC_firsts, .inl (cI, n_C_firsts, .inl C_firsts)), (gC_ways, .inl (cI, n_C_ways, .inl C_ways)), ((aR 2), .inl (cI, 30, .inl R_size)), ((aR 0), .inr (4, [.ref (aR 1), .ref (aR 2), .ref (aR 3), .ref (aR 4), .ref (aR 5), .ref (aR 6), .ref (aR 7), .int R_nodes, .int R_arrows, .int R_operators])), ((aR 7), .inl (cJ, 270, .inr (.inl R_elements)))] H := hP
  have hD : va_D A [((aC 0), .inr (0, [.ref (aR 0), .ref (aC 2), .ref (aC 3), .ref gC_all, .ref gC_topped, .ref gC_firsts, .ref gC_ways, .int C_size, .int C_operators])), ((aC 2), .inl (cJ, 40, .inr (.inl C_words))), (gC_all, .inl (cI, n_C_all, .inl C_all)), (gC_firsts, .inl (cI, n_C_firsts, .inl C_firsts)), (gC_ways, .inl (cI, n_C_ways, .inl C_ways)), ((aR 2), .inl (cI, 30, .inl R_size)), ((aR 0), .inr (4, [.ref (aR 1), .ref (aR 2), .ref (aR 3), .ref (aR 4), .ref (aR 5), .ref (aR 6), .ref (aR 7), .int R_nodes, .int R_arrows, .int R_operators])), ((aR 7), .inl (cJ, 270, .inr (.inl R_elements)))] := hD
  refine lv_if_eq (tgt := 35) hx hb dX0_cover_25 (by decide) (fun c_21 => ?_) (fun c_21 => ?_)
  · have hm := it_some c_21 hm
    refine lv_iload hx hb dX0_cover_35 (lv_at hl 1 rfl) ?_
    exact k_X0_cover_37 C0 hK hN hA aC gC_all gC_topped gC_firsts gC_ways aR C_size C_operators R_nodes R_arrows R_operators C_words n_C_all C_all n_C_firsts C_firsts n_C_ways R_size R_elements res RET C_ways p0 p1 p2 0 (r_17 - 1) hm H locs (P_sub' hP [0, 1, 2, 3, 4, 6, 5, 7] rfl) (hD.sub [0, 1, 2, 3, 4, 6, 5, 7] (by decide) rfl) hS ls (lv_sub hl [2, 3, 4, 5, 0] rfl)
  · have hm := if_some' c_21 hm
    refine lv_iload hx hb dX0_cover_28 (lv_at hl 1 rfl) ?_
    refine lv_iconst (v := 1) hx hb dX0_cover_30 (by decide) ?_
    refine lv_isub hx hb dX0_cover_31 ?_
    refine lv_goto (tgt := 37) hx hb dX0_cover_32 (by decide) ?_
    exact k_X0_cover_37 C0 hK hN hA aC gC_all gC_topped gC_firsts gC_ways aR C_size C_operators R_nodes R_arrows R_operators C_words n_C_all C_all n_C_firsts C_firsts n_C_ways R_size R_elements res RET C_ways p0 p1 p2 0 ((r_17 - 1) - 1) hm H locs (P_sub' hP [0, 1, 2, 3, 4, 6, 5, 7] rfl) (hD.sub [0, 1, 2, 3, 4, 6, 5, 7] (by decide) rfl) hS ls (lv_sub hl [2, 3, 4, 5, 0] rfl)
set_option maxHeartbeats 4000000 in
set_option maxRecDepth 100000 in
theorem c_X0_cover (l : Launch) (dC : Nat → ClassId) (dI : Nat → Nat → Nat) (cI cJ cB cZ : ClassId) (aC : Nat → Nat) (gC_all : Nat) (gC_topped : Nat) (gC_firsts : Nat) (gC_ways : Nat) (aR : Nat → Nat) (sz : Nat) (C_size : Int32) (C_operators : Int32) (R_nodes : Int32) (R_arrows : Int32) (R_operators : Int32) (C_words : Nat → Int64) (n_C_all : Nat) (C_all : Nat → Int32) (n_C_firsts : Nat) (C_firsts : Nat → Int32) (n_C_ways : Nat) (C_ways : Nat → Int32) (R_size : Nat → Int32) (R_elements : Nat → Int64) (p0 : Int32) (p1 : Int32) (p2 : Int32) (res : Int32 × (Nat → Int32)) (hm : m_X0_cover C_words n_C_all C_all n_C_firsts C_firsts n_C_ways C_ways C_size C_operators R_size R_elements p0 p1 p2 = some res) : Met l yX0_cover wsX0_cover rm_X0_cover (cP (dC, dI) vwCl [(cI, .int), (cJ, .long), (cB, .byte), (cZ, .boolean)] [.ref (aC 0), .int p0, .int p1, .int p2] [((aC 0), .inr (0, [.ref (aR 0), .ref (aC 2), .ref (aC 3), .ref gC_all, .ref gC_topped, .ref gC_firsts, .ref gC_ways, .int C_size, .int C_operators])), ((aC 2), .inl (cJ, 40, .inr (.inl C_words))), (gC_all, .inl (cI, n_C_all, .inl C_all)), (gC_firsts, .inl (cI, n_C_firsts, .inl C_firsts)), (gC_ways, .inl (cI, n_C_ways, .inl C_ways)), ((aR 0), .inr (4, [.ref (aR 1), .ref (aR 2), .ref (aR 3), .ref (aR 4), .ref (aR 5), .ref (aR 6), .ref (aR 7), .int R_nodes, .int R_arrows, .int R_operators])), ((aR 2), .inl (cI, 30, .inl R_size)), ((aR 7), .inl (cJ, 270, .inr (.inl R_elements)))] sz) (cQi res.1 (dC, dI) vwCl [((aC 0), .inr (0, [.ref (aR 0), .ref (aC 2), .ref (aC 3), .ref gC_all, .ref gC_topped, .ref gC_firsts, .ref gC_ways, .int C_size, .int C_operators])), ((aC 2), .inl (cJ, 40, .inr (.inl C_words))), (gC_all, .inl (cI, n_C_all, .inl C_all)), (gC_firsts, .inl (cI, n_C_firsts, .inl C_firsts)), (gC_ways, .inl (cI, n_C_ways, .inl res.2)), ((aR 0), .inr (4, [.ref (aR 1), .ref (aR 2), .ref (aR 3), .ref (aR 4), .ref (aR 5), .ref (aR 6), .ref (aR 7), .int R_nodes, .int R_arrows, .int R_operators])), ((aR 2), .inl (cI, 30, .inl R_size)), ((aR 7), .inl (cJ, 270, .inr (.inl R_elements)))] [((aC 0), .inr (0, [.ref (aR 0), .ref (aC 2), .ref (aC 3), .ref gC_all, .ref gC_topped, .ref gC_firsts, .ref gC_ways, .int C_size, .int C_operators])), ((aC 2), .inl (cJ, 40, .inr (.inl C_words))), (gC_all, .inl (cI, n_C_all, .inl C_all)), (gC_firsts, .inl (cI, n_C_firsts, .inl C_firsts)), (gC_ways, .inl (cI, n_C_ways, .inl C_ways)), ((aR 0), .inr (4, [.ref (aR 1), .ref (aR 2), .ref (aR 3), .ref (aR 4), .ref (aR 5), .ref (aR 6), .ref (aR 7), .int R_nodes, .int R_arrows, .int R_operators])), ((aR 2), .inl (cI, 30, .inl R_size)), ((aR 7), .inl (cJ, 270, .inr (.inl R_elements)))] sz) 0 0 (va_A [((aC 0), .inr (0, [.ref (aR 0), .ref (aC 2), .ref (aC 3), .ref gC_all, .ref gC_topped, .ref gC_firsts, .ref gC_ways, .int C_size, .int C_operators])), ((aC 2), .inl (cJ, 40, .inr (.inl C_words))), (gC_all, .inl (cI, n_C_all, .inl C_all)), (gC_firsts, .inl (cI, n_C_firsts, .inl C_firsts)), (gC_ways, .inl (cI, n_C_ways, .inl C_ways)), ((aR 0), .inr (4, [.ref (aR 1), .ref (aR 2), .ref (aR 3), .ref (aR 4), .ref (aR 5), .ref (aR 6), .ref (aR 7), .int R_nodes, .int R_arrows, .int R_operators])), ((aR 2), .inl (cI, 30, .inl R_size)), ((aR 7), .inl (cJ, 270, .inr (.inl R_elements)))] sz) := by
  refine cx_of (cc := cX0_cover) (maxL := 7) (ret := (some .int)) (own := RX0) (by decide) rfl rfl (Nat.le_of_ble_eq_true rfl) ?_
  intro p e s m below meth c A C0 hinN hK hN hsz hAe hA hP hD hS ls hl
  refine k_X0_cover_E C0 hK hN hA aC gC_all gC_topped gC_firsts gC_ways aR C_size C_operators R_nodes R_arrows R_operators C_words n_C_all C_all n_C_firsts C_firsts n_C_ways R_size R_elements res ?_ C_ways p0 p1 p2 hm _ _ hP hD hS ls hl
  intro v C_ways he pc H locs ls hdg hP hD hS
  have he := Option.some.inj he
  subst he
  exact cx_reti C0 hsz hAe hdg hP hD hS

set_option maxRecDepth 20000 in
theorem ggX0_fitting_X0_atoms : GoodIn wsX0_fitting wsX0_atoms := goodIn_r _ [7, 8, 22, 23, 24, 25, 26, 27, 28, 29, 30] (by decide +kernel) (by decide +kernel)
set_option maxRecDepth 20000 in
theorem gX0_fitting_X0_atoms : GoodIn wsX0_fitting (wsV RX0 86 RX0 yX0_atoms wsX0_atoms) := goodIn_app (goodIn_of _ (by decide +kernel)) ggX0_fitting_X0_atoms
set_option maxRecDepth 20000 in
theorem ggX0_fitting_X0_span : GoodIn wsX0_fitting wsX0_span := goodIn_r _ [11] (by decide +kernel) (by decide +kernel)
set_option maxRecDepth 20000 in
theorem gX0_fitting_X0_span : GoodIn wsX0_fitting (va_wsS RX0 42 yX0_span wsX0_span) := goodIn_app (goodIn_of _ (by decide +kernel)) ggX0_fitting_X0_span
set_option maxRecDepth 20000 in
theorem ggX0_fitting_X8_hasBit : GoodIn wsX0_fitting wsX8_hasBit := goodIn_r _ [14] (by decide +kernel) (by decide +kernel)
set_option maxRecDepth 20000 in
theorem gX0_fitting_X8_hasBit_n109 : GoodIn wsX0_fitting (wsX8_hasBit) := ggX0_fitting_X8_hasBit
set_option maxRecDepth 20000 in
theorem ggX0_fitting_X8_plus : GoodIn wsX0_fitting wsX8_plus := goodIn_r _ [16, 17, 18, 19, 20, 21] (by decide +kernel) (by decide +kernel)
set_option maxRecDepth 20000 in
theorem gX0_fitting_X8_plus_n92 : GoodIn wsX0_fitting (wsX8_plus) := ggX0_fitting_X8_plus
theorem dX0_fitting_0 : decode cX0_fitting 0 = .ok (.aload_n 0, 1) := by decide +kernel
theorem dX0_fitting_1 : decode cX0_fitting 1 = .ok (.iload_n 2, 1) := by decide +kernel
theorem dX0_fitting_2 : decode cX0_fitting 2 = .ok (.iload_n 3, 1) := by decide +kernel
theorem dX0_fitting_3 : decode cX0_fitting 3 = .ok (.invokevirtual 86, 3) := by decide +kernel
theorem dX0_fitting_6 : decode cX0_fitting 6 = .ok (.istore 4, 2) := by decide +kernel
theorem dX0_fitting_8 : decode cX0_fitting 8 = .ok (.iload_n 1, 1) := by decide +kernel
theorem dX0_fitting_9 : decode cX0_fitting 9 = .ok (.ifCond .ne 6, 3) := by decide +kernel
theorem dX0_fitting_12 : decode cX0_fitting 12 = .ok (.iload 4, 2) := by decide +kernel
theorem dX0_fitting_14 : decode cX0_fitting 14 = .ok (.ireturn, 1) := by decide +kernel
theorem dX0_fitting_15 : decode cX0_fitting 15 = .ok (.iload_n 2, 1) := by decide +kernel
theorem dX0_fitting_16 : decode cX0_fitting 16 = .ok (.iload_n 3, 1) := by decide +kernel
theorem dX0_fitting_17 : decode cX0_fitting 17 = .ok (.invokestatic 42, 3) := by decide +kernel
theorem dX0_fitting_20 : decode cX0_fitting 20 = .ok (.aload_n 0, 1) := by decide +kernel
theorem dX0_fitting_21 : decode cX0_fitting 21 = .ok (.getfield 35, 3) := by decide +kernel
theorem dX0_fitting_24 : decode cX0_fitting 24 = .ok (.imul, 1) := by decide +kernel
theorem dX0_fitting_25 : decode cX0_fitting 25 = .ok (.istore 5, 2) := by decide +kernel
theorem dX0_fitting_27 : decode cX0_fitting 27 = .ok (.iconst 0, 1) := by decide +kernel
theorem dX0_fitting_28 : decode cX0_fitting 28 = .ok (.istore 6, 2) := by decide +kernel
theorem dX0_fitting_30 : decode cX0_fitting 30 = .ok (.iload 6, 2) := by decide +kernel
theorem dX0_fitting_32 : decode cX0_fitting 32 = .ok (.aload_n 0, 1) := by decide +kernel
theorem dX0_fitting_33 : decode cX0_fitting 33 = .ok (.getfield 35, 3) := by decide +kernel
theorem dX0_fitting_36 : decode cX0_fitting 36 = .ok (.if_icmp .ge 35, 3) := by decide +kernel
theorem dX0_fitting_39 : decode cX0_fitting 39 = .ok (.iload_n 1, 1) := by decide +kernel
theorem dX0_fitting_40 : decode cX0_fitting 40 = .ok (.iload 6, 2) := by decide +kernel
theorem dX0_fitting_42 : decode cX0_fitting 42 = .ok (.invokestatic 109, 3) := by decide +kernel
theorem dX0_fitting_45 : decode cX0_fitting 45 = .ok (.ifCond .eq 20, 3) := by decide +kernel
theorem dX0_fitting_48 : decode cX0_fitting 48 = .ok (.iload 4, 2) := by decide +kernel
theorem dX0_fitting_50 : decode cX0_fitting 50 = .ok (.aload_n 0, 1) := by decide +kernel
theorem dX0_fitting_51 : decode cX0_fitting 51 = .ok (.getfield 22, 3) := by decide +kernel
theorem dX0_fitting_54 : decode cX0_fitting 54 = .ok (.iload 5, 2) := by decide +kernel
theorem dX0_fitting_56 : decode cX0_fitting 56 = .ok (.iload 6, 2) := by decide +kernel
theorem dX0_fitting_58 : decode cX0_fitting 58 = .ok (.iadd, 1) := by decide +kernel
theorem dX0_fitting_59 : decode cX0_fitting 59 = .ok (.iaload, 1) := by decide +kernel
theorem dX0_fitting_60 : decode cX0_fitting 60 = .ok (.invokestatic 92, 3) := by decide +kernel
theorem dX0_fitting_63 : decode cX0_fitting 63 = .ok (.istore 4, 2) := by decide +kernel
theorem dX0_fitting_65 : decode cX0_fitting 65 = .ok (.iinc 6 1, 3) := by decide +kernel
theorem dX0_fitting_68 : decode cX0_fitting 68 = .ok (.goto (-38), 3) := by decide +kernel
theorem dX0_fitting_71 : decode cX0_fitting 71 = .ok (.iload 4, 2) := by decide +kernel
theorem dX0_fitting_73 : decode cX0_fitting 73 = .ok (.ireturn, 1) := by decide +kernel
/-! MixfixDesk$Chart.fitting(III)I -/
abbrev rm_X0_fitting : Room := { frames := 2, cells := 0, slots := 0, locals := 44 }
theorem X0_fitting_inX0 : ∀ w ∈ wsX00, w ∈ wsX0_fitting := by decide +kernel
abbrev RT_X0_fitting (p : Program) (l : Launch) (e : Env) (s : State) (m : MethodId) (args : Array Value) (below : List Frame) (meth : Method) (c : Code) (Q : State → Prop) (dC : Nat → ClassId) (dI : Nat → Nat → Nat) (cI cJ cB cZ : ClassId) (A : Nat → Prop) (aC : Nat → Nat) (xC_rules : Nat) (gC_all : Nat) (gC_topped : Nat) (gC_firsts : Nat) (gC_ways : Nat) (C_size : Int32) (C_operators : Int32) (C_atom : Nat → Int32) (n_C_topped : Nat) (C_topped : Nat → Int32) (res : Int32) : Prop := ∀ (v : Int32) , some v = some res → ∀ (pc : Nat) (H : Heap) (locs : List Loc) (ls : Array Slot), decode cX0_fitting pc = .ok (.ireturn, 1) → va_P (dC, dI) vwCl [((aC 0), .inr (0, [.ref xC_rules, .ref (aC 2), .ref (aC 3), .ref gC_all, .ref gC_topped, .ref gC_firsts, .ref gC_ways, .int C_size, .int C_operators])), ((aC 3), .inl (cI, 40, .inl C_atom)), (gC_topped, .inl (cI, n_C_topped, .inl C_topped))] H → va_D A [((aC 0), .inr (0, [.ref xC_rules, .ref (aC 2), .ref (aC 3), .ref gC_all, .ref gC_topped, .ref gC_firsts, .ref gC_ways, .int C_size, .int C_operators])), ((aC 3), .inl (cI, 40, .inl C_atom)), (gC_topped, .inl (cI, n_C_topped, .inl C_topped))] → va_S A s.heap H locs → W p l e rm_X0_fitting s m args below meth c H locs 0 0 Q (F0 m pc ls [.int v])
set_option maxHeartbeats 4000000 in
set_option maxRecDepth 100000 in
theorem k_X0_fitting_65 {p : Program} {l : Launch} {e : Env} {s : State} {m : MethodId} {args : Array Value} {below : List Frame} {meth : Method} {c : Code} {Q : State → Prop} {dC : Nat → ClassId} {dI : Nat → Nat → Nat} {cI cJ cB cZ : ClassId} {A : Nat → Prop} (C0 : Cx p s m meth c args cX0_fitting 7 (some .int) wsX0_fitting RX0) (hK : va_K (dC, dI) vwCl [(cI, .int), (cJ, .long), (cB, .byte), (cZ, .boolean)] s) (hN : NW s) (hA : ∀ q, s.heap.size ≤ q → A q) (aC : Nat → Nat) (xC_rules : Nat) (gC_all : Nat) (gC_topped : Nat) (gC_firsts : Nat) (gC_ways : Nat) (C_size : Int32) (C_operators : Int32) (C_atom : Nat → Int32) (n_C_topped : Nat) (C_topped : Nat → Int32) (res : Int32) (RET : RT_X0_fitting p l e s m args below meth c Q dC dI cI cJ cB cZ A aC xC_rules gC_all gC_topped gC_firsts gC_ways C_size C_operators C_atom n_C_topped C_topped res) (k30 : Int32 → Int32 → Int32 → Int32 → Option (Int32)) (hk30 : ∀ (x1 : Int32) (x4 : Int32) (x5 : Int32) (x6 : Int32), k30 x1 x4 x5 x6 = some res → ∀ (H : Heap) (locs : List Loc), va_P (dC, dI) vwCl [((aC 0), .inr (0, [.ref xC_rules, .ref (aC 2), .ref (aC 3), .ref gC_all, .ref gC_topped, .ref gC_firsts, .ref gC_ways, .int C_size, .int C_operators])), ((aC 3), .inl (cI, 40, .inl C_atom)), (gC_topped, .inl (cI, n_C_topped, .inl C_topped))] H → va_D A [((aC 0), .inr (0, [.ref xC_rules, .ref (aC 2), .ref (aC 3), .ref gC_all, .ref gC_topped, .ref gC_firsts, .ref gC_ways, .int C_size, .int C_operators])), ((aC 3), .inl (cI, 40, .inl C_atom)), (gC_topped, .inl (cI, n_C_topped, .inl C_topped))] → va_S A s.heap H locs → ∀ (ls : Array Slot), lv_has ls 7 [(0, .ref (aC 0)), (1, .int x1), (4, .int x4), (5, .int x5), (6, .int x6)] → W p l e rm_X0_fitting s m args below meth c H locs 0 0 Q (F0 m 30 ls [])) : ∀ (x1 : Int32) (x4 : Int32) (x5 : Int32) (x6 : Int32), m_X0_fitting_65 C_operators C_atom n_C_topped C_topped k30 x1 x4 x5 x6 = some res → ∀ (H : Heap) (locs : List Loc), va_P (dC, dI) vwCl [((aC 0), .inr (0, [.ref xC_rules, .ref (aC 2), .ref (aC 3), .ref gC_all, .ref gC_topped, .ref gC_firsts, .ref gC_ways, .int C_size, .int C_operators])), ((aC 3), .inl (cI, 40, .inl C_atom)), (gC_topped, .inl (cI, n_C_topped, .inl C_topped))] H → va_D A [((aC 0), .inr (0, [.ref xC_rules, .ref (aC 2), .ref (aC 3), .ref gC_all, .ref gC_topped, .ref gC_firsts, .ref gC_ways, .int C_size, .int C_operators])), ((aC 3), .inl (cI, 40, .inl C_atom)), (gC_topped, .inl (cI, n_C_topped, .inl C_topped))] → va_S A s.heap H locs → ∀ (ls : Array Slot), lv_has ls 7 [(0, .ref (aC 0)), (1, .int x1), (4, .int x4), (5, .int x5), (6, .int x6)] → W p l e rm_X0_fitting s m args below meth c H locs 0 0 Q (F0 m 65 ls []) := by
  obtain ⟨⟨hx, hb, hml, hown, hts⟩, hr, hlocks⟩ := id C0
  intro x1 x4 x5 x6 hm H locs hP hD hS ls hl
  have hm : (k30 x1 x4 x5 (x6 + 1)) = some res := hm
  refine lv_iinc (v := x6 + 1) (lv' := [(6, .int (x6 + 1)), (0, .ref (aC 0)), (1, .int x1), (4, .int x4), (5, .int x5)]) hx hb dX0_fitting_65 hl (k := 4) rfl rfl (by decide) rfl (fun ls hl => ?_)
  refine lv_goto (tgt := 30) hx hb dX0_fitting_68 (by decide) ?_
  exact hk30 x1 x4 x5 (x6 + 1) hm H locs hP hD hS ls (lv_sub hl [1, 2, 3, 4, 0] rfl)
set_option maxHeartbeats 4000000 in
set_option maxRecDepth 100000 in
theorem k_X0_fitting_30 {p : Program} {l : Launch} {e : Env} {s : State} {m : MethodId} {args : Array Value} {below : List Frame} {meth : Method} {c : Code} {Q : State → Prop} {dC : Nat → ClassId} {dI : Nat → Nat → Nat} {cI cJ cB cZ : ClassId} {A : Nat → Prop} (C0 : Cx p s m meth c args cX0_fitting 7 (some .int) wsX0_fitting RX0) (hK : va_K (dC, dI) vwCl [(cI, .int), (cJ, .long), (cB, .byte), (cZ, .boolean)] s) (hN : NW s) (hA : ∀ q, s.heap.size ≤ q → A q) (aC : Nat → Nat) (xC_rules : Nat) (gC_all : Nat) (gC_topped : Nat) (gC_firsts : Nat) (gC_ways : Nat) (C_size : Int32) (C_operators : Int32) (C_atom : Nat → Int32) (n_C_topped : Nat) (C_topped : Nat → Int32) (res : Int32) (RET : RT_X0_fitting p l e s m args below meth c Q dC dI cI cJ cB cZ A aC xC_rules gC_all gC_topped gC_firsts gC_ways C_size C_operators C_atom n_C_topped C_topped res)   : ∀ (n : Nat) (x1 : Int32) (x4 : Int32) (x5 : Int32) (x6 : Int32), m_X0_fitting_30 C_operators C_atom n_C_topped C_topped n x1 x4 x5 x6 = some res → ∀ (H : Heap) (locs : List Loc), va_P (dC, dI) vwCl [((aC 0), .inr (0, [.ref xC_rules, .ref (aC 2), .ref (aC 3), .ref gC_all, .ref gC_topped, .ref gC_firsts, .ref gC_ways, .int C_size, .int C_operators])), ((aC 3), .inl (cI, 40, .inl C_atom)), (gC_topped, .inl (cI, n_C_topped, .inl C_topped))] H → va_D A [((aC 0), .inr (0, [.ref xC_rules, .ref (aC 2), .ref (aC 3), .ref gC_all, .ref gC_topped, .ref gC_firsts, .ref gC_ways, .int C_size, .int C_operators])), ((aC 3), .inl (cI, 40, .inl C_atom)), (gC_topped, .inl (cI, n_C_topped, .inl C_topped))] → va_S A s.heap H locs → ∀ (ls : Array Slot), lv_has ls 7 [(0, .ref (aC 0)), (1, .int x1), (4, .int x4), (5, .int x5), (6, .int x6)] → W p l e rm_X0_fitting s m args below meth c H locs 0 0 Q (F0 m 30 ls []) := by
  obtain ⟨⟨hx, hb, hml, hown, hts⟩, hr, hlocks⟩ := id C0
  intro n
  induction n with
  | zero =>
    intro x1 x4 x5 x6 hm
    exact absurd hm (by intro h; cases h)
  | succ n ih =>
    intro x1 x4 x5 x6 hm H locs hP hD hS ls hl
    have hm : (if C_operators ≤ x6 then (some x4) else (Option.bind (m_X8_hasBit x1 x6) (fun r_2 => if r_2 = 0 then (m_X0_fitting_65 C_operators C_atom n_C_topped C_topped (m_X0_fitting_30 C_operators C_atom n_C_topped C_topped n) x1 x4 x5 x6) else (gd (x5 + x6) n_C_topped (Option.bind (m_X8_plus x4 (C_topped (x5 + x6).toNatClampNeg)) (fun r_6 => m_X0_fitting_65 C_operators C_atom n_C_topped C_topped (m_X0_fitting_30 C_operators C_atom n_C_topped C_topped n) x1 r_6 x5 x6)))))) = some res := hm
    refine lv_iload hx hb dX0_fitting_30 (lv_at hl 4 rfl) ?_
    refine lv_aload_n hx hb dX0_fitting_32 rfl (lv_at hl 0 rfl) ?_
    refine va_get (D := (dC, dI)) (ci := 0) (v := .int C_operators) (C := RX0) (T := TX0) (N := 9) hx hb hts X0_fitting_inX0 hown hK hP 0 rfl rfl 8 (by decide) (hts (.fieldLink RX0 35 "MixfixDesk$Chart" "operators" "I") (by decide +kernel)) (fun _ h9 => h9) rfl dX0_fitting_33 ?_
    refine lv_icmp_ge (tgt := 71) hx hb dX0_fitting_36 (by decide) (fun c_1 => ?_) (fun c_1 => ?_)
    · have hm := it_some c_1 hm
      refine lv_iload hx hb dX0_fitting_71 (lv_at hl 2 rfl) ?_
      exact RET x4 hm _ H locs ls dX0_fitting_73 hP hD hS
    · have hm := if_some' c_1 hm
      refine lv_iload_n hx hb dX0_fitting_39 rfl (lv_at hl 1 rfl) ?_
      refine lv_iload hx hb dX0_fitting_40 (lv_at hl 4 rfl) ?_
      obtain ⟨r_2, hc_3, hm⟩ := ob_some hm
      refine cx_i (wr := [((aC 0), .inr (0, [.ref xC_rules, .ref (aC 2), .ref (aC 3), .ref gC_all, .ref gC_topped, .ref gC_firsts, .ref gC_ways, .int C_size, .int C_operators])), ((aC 3), .inl (cI, 40, .inl C_atom)), (gC_topped, .inl (cI, n_C_topped, .inl C_topped))]) (va_runSN (As := [.int x1, .int x6]) (rest := []) C0.1 (c_X8_hasBit l dC dI cI cJ cB cZ H.size x1 x6 r_2 hc_3) ⟨va_cnB 2 hts gX0_fitting_X8_hasBit_n109 rfl rfl rfl (hN (RX0, 109, yX8_hasBit, "MixfixDesk") (by decide +kernel)) (hts (.initialized RX8) (by decide +kernel)) (by decide +kernel) ⟨Nat.le_of_ble_eq_true rfl, Nat.le_of_ble_eq_true rfl⟩, (hts (.static yX8_hasBit) (by decide +kernel)), trivial⟩ (cP_S hK hN hP hD [] (by decide) rfl) rfl rfl hl.1 rfl (lv_room (Nat.le_of_ble_eq_true rfl)) dX0_fitting_42 ⟨Nat.le_of_ble_eq_true rfl, Nat.le_of_ble_eq_true rfl⟩) hP hD hS hA [] [0, 1, 2] rfl rfl (by decide) (by decide) (fun H locs hP hD hS => ?_)
      have hP : va_P (dC, dI) vwCl [((aC 0), .inr (0, [.ref xC_rules, .ref (aC 2), .ref (aC 3), .ref gC_all, .ref gC_topped, .ref gC_firsts, .ref gC_ways, .int C_size, .int C_operators])), ((aC 3), .inl (cI, 40, .inl C_atom)), (gC_topped, .inl (cI, n_C_topped, .inl C_topped))] H := hP
      have hD : va_D A [((aC 0), .inr (0, [.ref xC_rules, .ref (aC 2), .ref (aC 3), .ref gC_all, .ref gC_topped, .ref gC_firsts, .ref gC_ways, .int C_size, .int C_operators])), ((aC 3), .inl (cI, 40, .inl C_atom)), (gC_topped, .inl (cI, n_C_topped, .inl C_topped))] := hD
      refine lv_if_eq (tgt := 65) hx hb dX0_fitting_45 (by decide) (fun c_4 => ?_) (fun c_4 => ?_)
      · have hm := it_some c_4 hm
        exact k_X0_fitting_65 C0 hK hN hA aC xC_rules gC_all gC_topped gC_firsts gC_ways C_size C_operators C_atom n_C_topped C_topped res RET (m_X0_fitting_30 C_operators C_atom n_C_topped C_topped n) ih x1 x4 x5 x6 hm H locs hP hD hS ls hl
      · have hm := if_some' c_4 hm
        refine lv_iload hx hb dX0_fitting_48 (lv_at hl 2 rfl) ?_
        refine lv_aload_n hx hb dX0_fitting_50 rfl (lv_at hl 0 rfl) ?_
        refine va_get (D := (dC, dI)) (ci := 0) (v := .ref gC_topped) (C := RX0) (T := TX0) (N := 9) hx hb hts X0_fitting_inX0 hown hK hP 0 rfl rfl 4 (by decide) (hts (.fieldLink RX0 22 "MixfixDesk$Chart" "topped" "[I") (by decide +kernel)) (fun _ h9 => h9) rfl dX0_fitting_51 ?_
        refine lv_iload hx hb dX0_fitting_54 (lv_at hl 3 rfl) ?_
        refine lv_iload hx hb dX0_fitting_56 (lv_at hl 4 rfl) ?_
        refine lv_iadd hx hb dX0_fitting_58 ?_
        obtain ⟨hi_5, hm⟩ := gd_some hm
        refine va_iald (D := (dC, dI)) hx hb hK hP 2 0 rfl rfl hi_5 dX0_fitting_59 ?_
        obtain ⟨r_6, hc_7, hm⟩ := ob_some hm
        refine cx_i (wr := [((aC 0), .inr (0, [.ref xC_rules, .ref (aC 2), .ref (aC 3), .ref gC_all, .ref gC_topped, .ref gC_firsts, .ref gC_ways, .int C_size, .int C_operators])), ((aC 3), .inl (cI, 40, .inl C_atom)), (gC_topped, .inl (cI, n_C_topped, .inl C_topped))]) (va_runSN (As := [.int x4, .int (C_topped (x5 + x6).toNatClampNeg)]) (rest := []) C0.1 (c_X8_plus l dC dI cI cJ cB cZ H.size x4 (C_topped (x5 + x6).toNatClampNeg) r_6 hc_7) ⟨va_cnB 2 hts gX0_fitting_X8_plus_n92 rfl rfl rfl (hN (RX0, 92, yX8_plus, "MixfixDesk") (by decide +kernel)) (hts (.initialized RX8) (by decide +kernel)) (by decide +kernel) ⟨Nat.le_of_ble_eq_true rfl, Nat.le_of_ble_eq_true rfl⟩, (hts (.static yX8_plus) (by decide +kernel)), trivial⟩ (cP_S hK hN hP hD [] (by decide) rfl) rfl rfl hl.1 rfl (lv_room (Nat.le_of_ble_eq_true rfl)) dX0_fitting_60 ⟨Nat.le_of_ble_eq_true rfl, Nat.le_of_ble_eq_true rfl⟩) hP hD hS hA [] [0, 1, 2] rfl rfl (by decide) (by decide) (fun H locs hP hD hS => ?_)
        have hP : va_P (dC, dI) vwCl [((aC 0), .inr (0, [.ref xC_rules, .ref (aC 2), .ref (aC 3), .ref gC_all, .ref gC_topped, .ref gC_firsts, .ref gC_ways, .int C_size, .int C_operators])), ((aC 3), .inl (cI, 40, .inl C_atom)), (gC_topped, .inl (cI, n_C_topped, .inl C_topped))] H := hP
        have hD : va_D A [((aC 0), .inr (0, [.ref xC_rules, .ref (aC 2), .ref (aC 3), .ref gC_all, .ref gC_topped, .ref gC_firsts, .ref gC_ways, .int C_size, .int C_operators])), ((aC 3), .inl (cI, 40, .inl C_atom)), (gC_topped, .inl (cI, n_C_topped, .inl C_topped))] := hD
        refine lv_istore (lv' := [(4, .int r_6), (0, .ref (aC 0)), (1, .int x1), (5, .int x5), (6, .int x6)]) hx hb dX0_fitting_63 hl (by decide) rfl (fun ls hl => ?_)
        exact k_X0_fitting_65 C0 hK hN hA aC xC_rules gC_all gC_topped gC_firsts gC_ways C_size C_operators C_atom n_C_topped C_topped res RET (m_X0_fitting_30 C_operators C_atom n_C_topped C_topped n) ih x1 r_6 x5 x6 hm H locs hP hD hS ls (lv_sub hl [1, 2, 0, 3, 4] rfl)
set_option maxHeartbeats 4000000 in
set_option maxRecDepth 100000 in
theorem k_X0_fitting_E {p : Program} {l : Launch} {e : Env} {s : State} {m : MethodId} {args : Array Value} {below : List Frame} {meth : Method} {c : Code} {Q : State → Prop} {dC : Nat → ClassId} {dI : Nat → Nat → Nat} {cI cJ cB cZ : ClassId} {A : Nat → Prop} (C0 : Cx p s m meth c args cX0_fitting 7 (some .int) wsX0_fitting RX0) (hK : va_K (dC, dI) vwCl [(cI, .int), (cJ, .long), (cB, .byte), (cZ, .boolean)] s) (hN : NW s) (hA : ∀ q, s.heap.size ≤ q → A q) (aC : Nat → Nat) (xC_rules : Nat) (gC_all : Nat) (gC_topped : Nat) (gC_firsts : Nat) (gC_ways : Nat) (C_size : Int32) (C_operators : Int32) (C_atom : Nat → Int32) (n_C_topped : Nat) (C_topped : Nat → Int32) (res : Int32) (RET : RT_X0_fitting p l e s m args below meth c Q dC dI cI cJ cB cZ A aC xC_rules gC_all gC_topped gC_firsts gC_ways C_size C_operators C_atom n_C_topped C_topped res) : ∀ (p0 : Int32) (p1 : Int32) (p2 : Int32), m_X0_fitting C_atom n_C_topped C_topped C_operators p0 p1 p2 = some res → ∀ (H : Heap) (locs : List Loc), va_P (dC, dI) vwCl [((aC 0), .inr (0, [.ref xC_rules, .ref (aC 2), .ref (aC 3), .ref gC_all, .ref gC_topped, .ref gC_firsts, .ref gC_ways, .int C_size, .int C_operators])), ((aC 3), .inl (cI, 40, .inl C_atom)), (gC_topped, .inl (cI, n_C_topped, .inl C_topped))] H → va_D A [((aC 0), .inr (0, [.ref xC_rules, .ref (aC 2), .ref (aC 3), .ref gC_all, .ref gC_topped, .ref gC_firsts, .ref gC_ways, .int C_size, .int C_operators])), ((aC 3), .inl (cI, 40, .inl C_atom)), (gC_topped, .inl (cI, n_C_topped, .inl C_topped))] → va_S A s.heap H locs → ∀ (ls : Array Slot), lv_has ls 7 [(0, .ref (aC 0)), (1, .int p0), (2, .int p1), (3, .int p2)] → W p l e rm_X0_fitting s m args below meth c H locs 0 0 Q (F0 m 0 ls []) := by
  obtain ⟨⟨hx, hb, hml, hown, hts⟩, hr, hlocks⟩ := id C0
  intro p0 p1 p2 hm H locs hP hD hS ls hl
  have hm : (Option.bind (m_X0_atoms C_atom p1 p2) (fun r_8 => if p0 = 0 then (some r_8) else (Option.bind (m_X0_span p1 p2) (fun r_11 => m_X0_fitting_30 C_operators C_atom n_C_topped C_topped FU p0 r_8 (r_11 * C_operators) 0)))) = some res := hm
  refine lv_aload_n hx hb dX0_fitting_0 rfl (lv_at hl 0 rfl) ?_
  refine lv_iload_n hx hb dX0_fitting_1 rfl (lv_at hl 2 rfl) ?_
  refine lv_iload_n hx hb dX0_fitting_2 rfl (lv_at hl 3 rfl) ?_
  obtain ⟨r_8, hc_9, hm⟩ := ob_some hm
  refine cx_i (wr := [(gC_topped, .inl (cI, n_C_topped, .inl C_topped))]) (va_runV (As := [.int p1, .int p2]) (rest := []) C0.1 (c_X0_atoms l dC dI cI cJ cB cZ aC xC_rules gC_all gC_topped gC_firsts gC_ways H.size C_size C_operators C_atom p1 p2 r_8 hc_9) (cwV 2 hts gX0_fitting_X0_atoms rfl rfl rfl (by decide +kernel) ⟨Nat.le_of_ble_eq_true rfl, Nat.le_of_ble_eq_true rfl⟩) (cP_V (ci := 0) (q0 := 0) hK hN hP hD rfl rfl [0, 1] (by decide) rfl) rfl rfl hl.1 rfl (lv_room (Nat.le_of_ble_eq_true rfl)) dX0_fitting_3 ⟨Nat.le_of_ble_eq_true rfl, Nat.le_of_ble_eq_true rfl⟩) hP hD hS hA [0, 1] [2] rfl rfl (by decide) (by decide) (fun H locs hP hD hS => ?_)
  have hP : va_P (dC, dI) vwCl [(gC_topped, .inl (cI, n_C_topped, .inl C_topped)), ((aC 0), .inr (0, [.ref xC_rules, .ref (aC 2), .ref (aC 3), .ref gC_all, .ref gC_topped, .ref gC_firsts, .ref gC_ways, .int C_size, .int C_operators])), ((aC 3), .inl (cI, 40, .inl C_atom))] H := hP
  have hD : va_D A [(gC_topped, .inl (cI, n_C_topped, .inl C_topped)), ((aC 0), .inr (0, [.ref xC_rules, .ref (aC 2), .ref (aC 3), .ref gC_all, .ref gC_topped, .ref gC_firsts, .ref gC_ways, .int C_size, .int C_operators])), ((aC 3), .inl (cI, 40, .inl C_atom))] := hD
  refine lv_istore (lv' := [(4, .int r_8), (0, .ref (aC 0)), (1, .int p0), (2, .int p1), (3, .int p2)]) hx hb dX0_fitting_6 hl (by decide) rfl (fun ls hl => ?_)
  refine lv_iload_n hx hb dX0_fitting_8 rfl (lv_at hl 2 rfl) ?_
  refine lv_if_ne (tgt := 15) hx hb dX0_fitting_9 (by decide) (fun c_10 => ?_) (fun c_10 => ?_)
  · have hm := if_some' c_10 hm
    refine lv_iload_n hx hb dX0_fitting_15 rfl (lv_at hl 3 rfl) ?_
    refine lv_iload_n hx hb dX0_fitting_16 rfl (lv_at hl 4 rfl) ?_
    obtain ⟨r_11, hc_12, hm⟩ := ob_some hm
    refine cx_i (wr := [(gC_topped, .inl (cI, n_C_topped, .inl C_topped)), ((aC 0), .inr (0, [.ref xC_rules, .ref (aC 2), .ref (aC 3), .ref gC_all, .ref gC_topped, .ref gC_firsts, .ref gC_ways, .int C_size, .int C_operators])), ((aC 3), .inl (cI, 40, .inl C_atom))]) (va_runS (As := [.int p1, .int p2]) (rest := []) C0.1 (c_X0_span l dC dI cI cJ cB cZ H.size p1 p2 r_11 hc_12) (va_cwS 2 hts gX0_fitting_X0_span rfl rfl rfl (by decide +kernel) ⟨Nat.le_of_ble_eq_true rfl, Nat.le_of_ble_eq_true rfl⟩) (cP_S hK hN hP hD [] (by decide) rfl) rfl rfl hl.1 rfl (lv_room (Nat.le_of_ble_eq_true rfl)) dX0_fitting_17 ⟨Nat.le_of_ble_eq_true rfl, Nat.le_of_ble_eq_true rfl⟩) hP hD hS hA [] [0, 1, 2] rfl rfl (by decide) (by decide) (fun H locs hP hD hS => ?_)
    have hP : va_P (dC, dI) vwCl [(gC_topped, .inl (cI, n_C_topped, .inl C_topped)), ((aC 0), .inr (0, [.ref xC_rules, .ref (aC 2), .ref (aC 3), .ref gC_all, .ref gC_topped, .ref gC_firsts, .ref gC_ways, .int C_size, .int C_operators])), ((aC 3), .inl (cI, 40, .inl C_atom))] H := hP
    have hD : va_D A [(gC_topped, .inl (cI, n_C_topped, .inl C_topped)), ((aC 0), .inr (0, [.ref xC_rules, .ref (aC 2), .ref (aC 3), .ref gC_all, .ref gC_topped, .ref gC_firsts, .ref gC_ways, .int C_size, .int C_operators])), ((aC 3), .inl (cI, 40, .inl C_atom))] := hD
    refine lv_aload_n hx hb dX0_fitting_20 rfl (lv_at hl 1 rfl) ?_
    refine va_get (D := (dC, dI)) (ci := 0) (v := .int C_operators) (C := RX0) (T := TX0) (N := 9) hx hb hts X0_fitting_inX0 hown hK hP 1 rfl rfl 8 (by decide) (hts (.fieldLink RX0 35 "MixfixDesk$Chart" "operators" "I") (by decide +kernel)) (fun _ h9 => h9) rfl dX0_fitting_21 ?_
    refine lv_imul hx hb dX0_fitting_24 ?_
    refine lv_istore (lv' := [(5, .int (r_11 * C_operators)), (4, .int r_8), (0, .ref (aC 0)), (1, .int p0), (2, .int p1), (3, .int p2)]) hx hb dX0_fitting_25 hl (by decide) rfl (fun ls hl => ?_)
    refine lv_iconst (v := 0) hx hb dX0_fitting_27 (by decide) ?_
    refine lv_istore (lv' := [(6, .int 0), (5, .int (r_11 * C_operators)), (4, .int r_8), (0, .ref (aC 0)), (1, .int p0), (2, .int p1), (3, .int p2)]) hx hb dX0_fitting_28 hl (by decide) rfl (fun ls hl => ?_)
    exact k_X0_fitting_30 C0 hK hN hA aC xC_rules gC_all gC_topped gC_firsts gC_ways C_size C_operators C_atom n_C_topped C_topped res RET FU p0 r_8 (r_11 * C_operators) 0 hm H locs (P_sub' hP [1, 2, 0] rfl) (hD.sub [1, 2, 0] (by decide) rfl) hS ls (lv_sub hl [3, 4, 2, 1, 0] rfl)
  · have hm := it_some c_10 hm
    refine lv_iload hx hb dX0_fitting_12 (lv_at hl 0 rfl) ?_
    exact RET r_8 hm _ H locs ls dX0_fitting_14 (P_sub' hP [1, 2, 0] rfl) (hD.sub [1, 2, 0] (by decide) rfl) hS
set_option maxHeartbeats 4000000 in
set_option maxRecDepth 100000 in
theorem c_X0_fitting (l : Launch) (dC : Nat → ClassId) (dI : Nat → Nat → Nat) (cI cJ cB cZ : ClassId) (aC : Nat → Nat) (xC_rules : Nat) (gC_all : Nat) (gC_topped : Nat) (gC_firsts : Nat) (gC_ways : Nat) (sz : Nat) (C_size : Int32) (C_operators : Int32) (C_atom : Nat → Int32) (n_C_topped : Nat) (C_topped : Nat → Int32) (p0 : Int32) (p1 : Int32) (p2 : Int32) (res : Int32) (hm : m_X0_fitting C_atom n_C_topped C_topped C_operators p0 p1 p2 = some res) : Met l yX0_fitting wsX0_fitting rm_X0_fitting (cP (dC, dI) vwCl [(cI, .int), (cJ, .long), (cB, .byte), (cZ, .boolean)] [.ref (aC 0), .int p0, .int p1, .int p2] [((aC 0), .inr (0, [.ref xC_rules, .ref (aC 2), .ref (aC 3), .ref gC_all, .ref gC_topped, .ref gC_firsts, .ref gC_ways, .int C_size, .int C_operators])), ((aC 3), .inl (cI, 40, .inl C_atom)), (gC_topped, .inl (cI, n_C_topped, .inl C_topped))] sz) (cQi res (dC, dI) vwCl [((aC 0), .inr (0, [.ref xC_rules, .ref (aC 2), .ref (aC 3), .ref gC_all, .ref gC_topped, .ref gC_firsts, .ref gC_ways, .int C_size, .int C_operators])), ((aC 3), .inl (cI, 40, .inl C_atom)), (gC_topped, .inl (cI, n_C_topped, .inl C_topped))] [((aC 0), .inr (0, [.ref xC_rules, .ref (aC 2), .ref (aC 3), .ref gC_all, .ref gC_topped, .ref gC_firsts, .ref gC_ways, .int C_size, .int C_operators])), ((aC 3), .inl (cI, 40, .inl C_atom)), (gC_topped, .inl (cI, n_C_topped, .inl C_topped))] sz) 0 0 (va_A [((aC 0), .inr (0, [.ref xC_rules, .ref (aC 2), .ref (aC 3), .ref gC_all, .ref gC_topped, .ref gC_firsts, .ref gC_ways, .int C_size, .int C_operators])), ((aC 3), .inl (cI, 40, .inl C_atom)), (gC_topped, .inl (cI, n_C_topped, .inl C_topped))] sz) := by
  refine cx_of (cc := cX0_fitting) (maxL := 7) (ret := (some .int)) (own := RX0) (by decide) rfl rfl (Nat.le_of_ble_eq_true rfl) ?_
  intro p e s m below meth c A C0 hinN hK hN hsz hAe hA hP hD hS ls hl
  refine k_X0_fitting_E C0 hK hN hA aC xC_rules gC_all gC_topped gC_firsts gC_ways C_size C_operators C_atom n_C_topped C_topped res ?_ p0 p1 p2 hm _ _ hP hD hS ls hl
  intro v he pc H locs ls hdg hP hD hS
  have he := Option.some.inj he
  subst he
  exact cx_reti C0 hsz hAe hdg hP hD hS

set_option maxRecDepth 20000 in
theorem ggX0_coverLast_X4_size : GoodIn wsX0_coverLast wsX4_size := goodIn_r _ [7, 8, 60, 61, 62, 63, 64, 65, 66, 67, 68, 69] (by decide +kernel) (by decide +kernel)
set_option maxRecDepth 20000 in
theorem gX0_coverLast_X4_size : GoodIn wsX0_coverLast (wsV RX0 79 RX4 yX4_size wsX4_size) := goodIn_app (goodIn_of _ (by decide +kernel)) ggX0_coverLast_X4_size
set_option maxRecDepth 20000 in
theorem ggX0_coverLast_X4_isHole : GoodIn wsX0_coverLast wsX4_isHole := goodIn_r _ [12, 13, 14, 60, 61, 62, 63, 64, 65, 66, 67, 68, 69] (by decide +kernel) (by decide +kernel)
set_option maxRecDepth 20000 in
theorem gX0_coverLast_X4_isHole : GoodIn wsX0_coverLast (wsV RX0 95 RX4 yX4_isHole wsX4_isHole) := goodIn_app (goodIn_of _ (by decide +kernel)) ggX0_coverLast_X4_isHole
set_option maxRecDepth 20000 in
theorem ggX0_coverLast_X0_way : GoodIn wsX0_coverLast wsX0_way := goodIn_r _ [19, 20, 51, 52, 53, 54, 55, 56, 57, 58, 59] (by decide +kernel) (by decide +kernel)
set_option maxRecDepth 20000 in
theorem gX0_coverLast_X0_way : GoodIn wsX0_coverLast (wsV RX0 82 RX0 yX0_way wsX0_way) := goodIn_app (goodIn_of _ (by decide +kernel)) ggX0_coverLast_X0_way
set_option maxRecDepth 20000 in
theorem ggX0_coverLast_X4_takes : GoodIn wsX0_coverLast wsX4_takes := goodIn_r _ [24, 25, 8, 26, 60, 61, 62, 63, 64, 65, 66, 67, 68, 69] (by decide +kernel) (by decide +kernel)
set_option maxRecDepth 20000 in
theorem gX0_coverLast_X4_takes : GoodIn wsX0_coverLast (wsV RX0 99 RX4 yX4_takes wsX4_takes) := goodIn_app (goodIn_of _ (by decide +kernel)) ggX0_coverLast_X4_takes
set_option maxRecDepth 20000 in
theorem ggX0_coverLast_X0_fitting : GoodIn wsX0_coverLast wsX0_fitting := goodIn_r _ [30, 31, 32, 33, 34, 35, 18, 36, 37, 38, 39, 40, 41, 42, 43, 44, 45, 46, 47, 48, 49, 50, 51, 52, 53, 54, 55, 56, 57, 58, 59] (by decide +kernel) (by decide +kernel)
set_option maxRecDepth 20000 in
theorem gX0_coverLast_X0_fitting : GoodIn wsX0_coverLast (wsV RX0 102 RX0 yX0_fitting wsX0_fitting) := goodIn_app (goodIn_of _ (by decide +kernel)) ggX0_coverLast_X0_fitting
theorem dX0_coverLast_0 : decode cX0_coverLast 0 = .ok (.aload_n 0, 1) := by decide +kernel
theorem dX0_coverLast_1 : decode cX0_coverLast 1 = .ok (.getfield 38, 3) := by decide +kernel
theorem dX0_coverLast_4 : decode cX0_coverLast 4 = .ok (.iload_n 1, 1) := by decide +kernel
theorem dX0_coverLast_5 : decode cX0_coverLast 5 = .ok (.invokevirtual 79, 3) := by decide +kernel
theorem dX0_coverLast_8 : decode cX0_coverLast 8 = .ok (.iconst 1, 1) := by decide +kernel
theorem dX0_coverLast_9 : decode cX0_coverLast 9 = .ok (.isub, 1) := by decide +kernel
theorem dX0_coverLast_10 : decode cX0_coverLast 10 = .ok (.istore 5, 2) := by decide +kernel
theorem dX0_coverLast_12 : decode cX0_coverLast 12 = .ok (.aload_n 0, 1) := by decide +kernel
theorem dX0_coverLast_13 : decode cX0_coverLast 13 = .ok (.getfield 38, 3) := by decide +kernel
theorem dX0_coverLast_16 : decode cX0_coverLast 16 = .ok (.iload_n 1, 1) := by decide +kernel
theorem dX0_coverLast_17 : decode cX0_coverLast 17 = .ok (.iload 5, 2) := by decide +kernel
theorem dX0_coverLast_19 : decode cX0_coverLast 19 = .ok (.invokevirtual 95, 3) := by decide +kernel
theorem dX0_coverLast_22 : decode cX0_coverLast 22 = .ok (.ifCond .eq 35, 3) := by decide +kernel
theorem dX0_coverLast_25 : decode cX0_coverLast 25 = .ok (.aload_n 0, 1) := by decide +kernel
theorem dX0_coverLast_26 : decode cX0_coverLast 26 = .ok (.getfield 28, 3) := by decide +kernel
theorem dX0_coverLast_29 : decode cX0_coverLast 29 = .ok (.aload_n 0, 1) := by decide +kernel
theorem dX0_coverLast_30 : decode cX0_coverLast 30 = .ok (.iload_n 1, 1) := by decide +kernel
theorem dX0_coverLast_31 : decode cX0_coverLast 31 = .ok (.iload 5, 2) := by decide +kernel
theorem dX0_coverLast_33 : decode cX0_coverLast 33 = .ok (.iload_n 2, 1) := by decide +kernel
theorem dX0_coverLast_34 : decode cX0_coverLast 34 = .ok (.invokevirtual 82, 3) := by decide +kernel
theorem dX0_coverLast_37 : decode cX0_coverLast 37 = .ok (.aload_n 0, 1) := by decide +kernel
theorem dX0_coverLast_38 : decode cX0_coverLast 38 = .ok (.aload_n 0, 1) := by decide +kernel
theorem dX0_coverLast_39 : decode cX0_coverLast 39 = .ok (.getfield 38, 3) := by decide +kernel
theorem dX0_coverLast_42 : decode cX0_coverLast 42 = .ok (.iload_n 1, 1) := by decide +kernel
theorem dX0_coverLast_43 : decode cX0_coverLast 43 = .ok (.iload 5, 2) := by decide +kernel
theorem dX0_coverLast_45 : decode cX0_coverLast 45 = .ok (.invokevirtual 99, 3) := by decide +kernel
theorem dX0_coverLast_48 : decode cX0_coverLast 48 = .ok (.iload 4, 2) := by decide +kernel
theorem dX0_coverLast_50 : decode cX0_coverLast 50 = .ok (.iand, 1) := by decide +kernel
theorem dX0_coverLast_51 : decode cX0_coverLast 51 = .ok (.iload_n 2, 1) := by decide +kernel
theorem dX0_coverLast_52 : decode cX0_coverLast 52 = .ok (.iload_n 3, 1) := by decide +kernel
theorem dX0_coverLast_53 : decode cX0_coverLast 53 = .ok (.invokevirtual 102, 3) := by decide +kernel
theorem dX0_coverLast_56 : decode cX0_coverLast 56 = .ok (.iastore, 1) := by decide +kernel
theorem dX0_coverLast_57 : decode cX0_coverLast 57 = .ok (.return_, 1) := by decide +kernel
/-! MixfixDesk$Chart.coverLast(IIII)V -/
abbrev rm_X0_coverLast : Room := { frames := 3, cells := 0, slots := 0, locals := 70 }
theorem X0_coverLast_inX0 : ∀ w ∈ wsX00, w ∈ wsX0_coverLast := by decide +kernel
theorem X0_coverLast_inX4 : ∀ w ∈ wsX40, w ∈ wsX0_coverLast := by decide +kernel
abbrev RT_X0_coverLast (p : Program) (l : Launch) (e : Env) (s : State) (m : MethodId) (args : Array Value) (below : List Frame) (meth : Method) (c : Code) (Q : State → Prop) (dC : Nat → ClassId) (dI : Nat → Nat → Nat) (cI cJ cB cZ : ClassId) (A : Nat → Prop) (aC : Nat → Nat) (gC_all : Nat) (gC_topped : Nat) (gC_firsts : Nat) (gC_ways : Nat) (aR : Nat → Nat) (C_size : Int32) (C_operators : Int32) (R_nodes : Int32) (R_arrows : Int32) (R_operators : Int32) (C_atom : Nat → Int32) (n_C_topped : Nat) (C_topped : Nat → Int32) (n_C_ways : Nat) (R_size : Nat → Int32) (R_firstTakes : Nat → Int32) (R_lastTakes : Nat → Int32) (R_elements : Nat → Int64) (res : (Nat → Int32)) : Prop := ∀ (C_ways : Nat → Int32), some C_ways = some res → ∀ (pc : Nat) (H : Heap) (locs : List Loc) (ls : Array Slot), decode cX0_coverLast pc = .ok (.return_, 1) → va_P (dC, dI) vwCl [((aC 0), .inr (0, [.ref (aR 0), .ref (aC 2), .ref (aC 3), .ref gC_all, .ref gC_topped, .ref gC_firsts, .ref gC_ways, .int C_size, .int C_operators])), ((aC 3), .inl (cI, 40, .inl C_atom)), (gC_topped, .inl (cI, n_C_topped, .inl C_topped)), (gC_ways, .inl (cI, n_C_ways, .inl C_ways)), ((aR 0), .inr (4, [.ref (aR 1), .ref (aR 2), .ref (aR 3), .ref (aR 4), .ref (aR 5), .ref (aR 6), .ref (aR 7), .int R_nodes, .int R_arrows, .int R_operators])), ((aR 2), .inl (cI, 30, .inl R_size)), ((aR 5), .inl (cI, 30, .inl R_firstTakes)), ((aR 6), .inl (cI, 30, .inl R_lastTakes)), ((aR 7), .inl (cJ, 270, .inr (.inl R_elements)))] H → va_D A [((aC 0), .inr (0, [.ref (aR 0), .ref (aC 2), .ref (aC 3), .ref gC_all, .ref gC_topped, .ref gC_firsts, .ref gC_ways, .int C_size, .int C_operators])), ((aC 3), .inl (cI, 40, .inl C_atom)), (gC_topped, .inl (cI, n_C_topped, .inl C_topped)), (gC_ways, .inl (cI, n_C_ways, .inl C_ways)), ((aR 0), .inr (4, [.ref (aR 1), .ref (aR 2), .ref (aR 3), .ref (aR 4), .ref (aR 5), .ref (aR 6), .ref (aR 7), .int R_nodes, .int R_arrows, .int R_operators])), ((aR 2), .inl (cI, 30, .inl R_size)), ((aR 5), .inl (cI, 30, .inl R_firstTakes)), ((aR 6), .inl (cI, 30, .inl R_lastTakes)), ((aR 7), .inl (cJ, 270, .inr (.inl R_elements)))] → va_S A s.heap H locs → W p l e rm_X0_coverLast s m args below meth c H locs 0 0 Q (F0 m pc ls [])
set_option maxHeartbeats 4000000 in
set_option maxRecDepth 100000 in
theorem k_X0_coverLast_E {p : Program} {l : Launch} {e : Env} {s : State} {m : MethodId} {args : Array Value} {below : List Frame} {meth : Method} {c : Code} {Q : State → Prop} {dC : Nat → ClassId} {dI : Nat → Nat → Nat} {cI cJ cB cZ : ClassId} {A : Nat → Prop} (C0 : Cx p s m meth c args cX0_coverLast 6 none wsX0_coverLast RX0) (hK : va_K (dC, dI) vwCl [(cI, .int), (cJ, .long), (cB, .byte), (cZ, .boolean)] s) (hN : NW s) (hA : ∀ q, s.heap.size ≤ q → A q) (aC : Nat → Nat) (gC_all : Nat) (gC_topped : Nat) (gC_firsts : Nat) (gC_ways : Nat) (aR : Nat → Nat) (C_size : Int32) (C_operators : Int32) (R_nodes : Int32) (R_arrows : Int32) (R_operators : Int32) (C_atom : Nat → Int32) (n_C_topped : Nat) (C_topped : Nat → Int32) (n_C_ways : Nat) (R_size : Nat → Int32) (R_firstTakes : Nat → Int32) (R_lastTakes : Nat → Int32) (R_elements : Nat → Int64) (res : (Nat → Int32)) (RET : RT_X0_coverLast p l e s m args below meth c Q dC dI cI cJ cB cZ A aC gC_all gC_topped gC_firsts gC_ways aR C_size C_operators R_nodes R_arrows R_operators C_atom n_C_topped C_topped n_C_ways R_size R_firstTakes R_lastTakes R_elements res) : ∀ (C_ways : Nat → Int32) (p0 : Int32) (p1 : Int32) (p2 : Int32) (p3 : Int32), m_X0_coverLast C_atom n_C_topped C_topped n_C_ways C_ways C_size C_operators R_size R_firstTakes R_lastTakes R_elements p0 p1 p2 p3 = some res → ∀ (H : Heap) (locs : List Loc), va_P (dC, dI) vwCl [((aC 0), .inr (0, [.ref (aR 0), .ref (aC 2), .ref (aC 3), .ref gC_all, .ref gC_topped, .ref gC_firsts, .ref gC_ways, .int C_size, .int C_operators])), ((aC 3), .inl (cI, 40, .inl C_atom)), (gC_topped, .inl (cI, n_C_topped, .inl C_topped)), (gC_ways, .inl (cI, n_C_ways, .inl C_ways)), ((aR 0), .inr (4, [.ref (aR 1), .ref (aR 2), .ref (aR 3), .ref (aR 4), .ref (aR 5), .ref (aR 6), .ref (aR 7), .int R_nodes, .int R_arrows, .int R_operators])), ((aR 2), .inl (cI, 30, .inl R_size)), ((aR 5), .inl (cI, 30, .inl R_firstTakes)), ((aR 6), .inl (cI, 30, .inl R_lastTakes)), ((aR 7), .inl (cJ, 270, .inr (.inl R_elements)))] H → va_D A [((aC 0), .inr (0, [.ref (aR 0), .ref (aC 2), .ref (aC 3), .ref gC_all, .ref gC_topped, .ref gC_firsts, .ref gC_ways, .int C_size, .int C_operators])), ((aC 3), .inl (cI, 40, .inl C_atom)), (gC_topped, .inl (cI, n_C_topped, .inl C_topped)), (gC_ways, .inl (cI, n_C_ways, .inl C_ways)), ((aR 0), .inr (4, [.ref (aR 1), .ref (aR 2), .ref (aR 3), .ref (aR 4), .ref (aR 5), .ref (aR 6), .ref (aR 7), .int R_nodes, .int R_arrows, .int R_operators])), ((aR 2), .inl (cI, 30, .inl R_size)), ((aR 5), .inl (cI, 30, .inl R_firstTakes)), ((aR 6), .inl (cI, 30, .inl R_lastTakes)), ((aR 7), .inl (cJ, 270, .inr (.inl R_elements)))] → va_S A s.heap H locs → ∀ (ls : Array Slot), lv_has ls 6 [(0, .ref (aC 0)), (1, .int p0), (2, .int p1), (3, .int p2), (4, .int p3)] → W p l e rm_X0_coverLast s m args below meth c H locs 0 0 Q (F0 m 0 ls []) := by
  obtain ⟨⟨hx, hb, hml, hown, hts⟩, hr, hlocks⟩ := id C0
  intro C_ways p0 p1 p2 p3 hm H locs hP hD hS ls hl
  have hm : (Option.bind (m_X4_size R_size p0) (fun r_1 => Option.bind (m_X4_isHole R_elements p0 (r_1 - 1)) (fun r_3 => if r_3 = 0 then (some C_ways) else (Option.bind (m_X0_way C_size p0 (r_1 - 1) p1) (fun r_6 => Option.bind (m_X4_takes R_size R_firstTakes R_lastTakes p0 (r_1 - 1)) (fun r_8 => Option.bind (m_X0_fitting C_atom n_C_topped C_topped C_operators (r_8 &&& p3) p1 p2) (fun r_10 => gd r_6 n_C_ways (some (upd C_ways r_6.toNatClampNeg r_10))))))))) = some res := hm
  refine lv_aload_n hx hb dX0_coverLast_0 rfl (lv_at hl 0 rfl) ?_
  refine va_get (D := (dC, dI)) (ci := 0) (v := .ref (aR 0)) (C := RX0) (T := TX0) (N := 9) hx hb hts X0_coverLast_inX0 hown hK hP 0 rfl rfl 0 (by decide) (hts (.fieldLink RX0 38 "MixfixDesk$Chart" "rules" "LMixfixDesk$Rules;") (by decide +kernel)) (fun _ h9 => h9) rfl dX0_coverLast_1 ?_
  refine lv_iload_n hx hb dX0_coverLast_4 rfl (lv_at hl 1 rfl) ?_
  obtain ⟨r_1, hc_2, hm⟩ := ob_some hm
  refine cx_i (wr := [((aC 0), .inr (0, [.ref (aR 0), .ref (aC 2), .ref (aC 3), .ref gC_all, .ref gC_topped, .ref gC_firsts, .ref gC_ways, .int C_size, .int C_operators])), ((aC 3), .inl (cI, 40, .inl C_atom)), (gC_topped, .inl (cI, n_C_topped, .inl C_topped)), (gC_ways, .inl (cI, n_C_ways, .inl C_ways)), ((aR 5), .inl (cI, 30, .inl R_firstTakes)), ((aR 6), .inl (cI, 30, .inl R_lastTakes)), ((aR 7), .inl (cJ, 270, .inr (.inl R_elements)))]) (va_runV (As := [.int p0]) (rest := []) C0.1 (c_X4_size l dC dI cI cJ cB cZ aR H.size R_nodes R_arrows R_operators R_size p0 r_1 hc_2) (cwV 1 hts gX0_coverLast_X4_size rfl rfl rfl (by decide +kernel) ⟨Nat.le_of_ble_eq_true rfl, Nat.le_of_ble_eq_true rfl⟩) (cP_V (ci := 4) (q0 := 4) hK hN hP hD rfl rfl [4, 5] (by decide) rfl) rfl rfl hl.1 rfl (lv_room (Nat.le_of_ble_eq_true rfl)) dX0_coverLast_5 ⟨Nat.le_of_ble_eq_true rfl, Nat.le_of_ble_eq_true rfl⟩) hP hD hS hA [4, 5] [0, 1, 2, 3, 6, 7, 8] rfl rfl (by decide) (by decide) (fun H locs hP hD hS => ?_)
  have hP : va_P (dC, dI) vwCl [((aC 0), .inr (0, [.ref (aR 0), .ref (aC 2), .ref (aC 3), .ref gC_all, .ref gC_topped, .ref gC_firsts, .ref gC_ways, .int C_size, .int C_operators])), ((aC 3), .inl (cI, 40, .inl C_atom)), (gC_topped, .inl (cI, n_C_topped, .inl C_topped)), (gC_ways, .inl (cI, n_C_ways, .inl C_ways)), ((aR 5), .inl (cI, 30, .inl R_firstTakes)), ((aR 6), .inl (cI, 30, .inl R_lastTakes)), ((aR 7), .inl (cJ, 270, .inr (.inl R_elements))), ((aR 0), .inr (4, [.ref (aR 1), .ref (aR 2), .ref (aR 3), .ref (aR 4), .ref (aR 5), .ref (aR 6), .ref (aR 7), .int R_nodes, .int R_arrows, .int R_operators])), ((aR 2), .inl (cI, 30, .inl R_size))] H := hP
  have hD : va_D A [((aC 0), .inr (0, [.ref (aR 0), .ref (aC 2), .ref (aC 3), .ref gC_all, .ref gC_topped, .ref gC_firsts, .ref gC_ways, .int C_size, .int C_operators])), ((aC 3), .inl (cI, 40, .inl C_atom)), (gC_topped, .inl (cI, n_C_topped, .inl C_topped)), (gC_ways, .inl (cI, n_C_ways, .inl C_ways)), ((aR 5), .inl (cI, 30, .inl R_firstTakes)), ((aR 6), .inl (cI, 30, .inl R_lastTakes)), ((aR 7), .inl (cJ, 270, .inr (.inl R_elements))), ((aR 0), .inr (4, [.ref (aR 1), .ref (aR 2), .ref (aR 3), .ref (aR 4), .ref (aR 5), .ref (aR 6), .ref (aR 7), .int R_nodes, .int R_arrows, .int R_operators])), ((aR 2), .inl (cI, 30, .inl R_size))] := hD
  refine lv_iconst (v := 1) hx hb dX0_coverLast_8 (by decide) ?_
  refine lv_isub hx hb dX0_coverLast_9 ?_
  refine lv_istore (lv' := [(5, .int (r_1 - 1)), (0, .ref (aC 0)), (1, .int p0), (2, .int p1), (3, .int p2), (4, .int p3)]) hx hb dX0_coverLast_10 hl (by decide) rfl (fun ls hl => ?_)
  refine lv_aload_n hx hb dX0_coverLast_12 rfl (lv_at hl 1 rfl) ?_
  refine va_get (D := (dC, dI)) (ci := 0) (v := .ref (aR 0)) (C := RX0) (T := TX0) (N := 9) hx hb hts X0_coverLast_inX0 hown hK hP 0 rfl rfl 0 (by decide) (hts (.fieldLink RX0 38 "MixfixDesk$Chart" "rules" "LMixfixDesk$Rules;") (by decide +kernel)) (fun _ h9 => h9) rfl dX0_coverLast_13 ?_
  refine lv_iload_n hx hb dX0_coverLast_16 rfl (lv_at hl 2 rfl) ?_
  refine lv_iload hx hb dX0_coverLast_17 (lv_at hl 0 rfl) ?_
  obtain ⟨r_3, hc_4, hm⟩ := ob_some hm
  refine cx_i (wr := [((aC 0), .inr (0, [.ref (aR 0), .ref (aC 2), .ref (aC 3), .ref gC_all, .ref gC_topped, .ref gC_firsts, .ref gC_ways, .int C_size, .int C_operators])), ((aC 3), .inl (cI, 40, .inl C_atom)), (gC_topped, .inl (cI, n_C_topped, .inl C_topped)), (gC_ways, .inl (cI, n_C_ways, .inl C_ways)), ((aR 5), .inl (cI, 30, .inl R_firstTakes)), ((aR 6), .inl (cI, 30, .inl R_lastTakes)), ((aR 2), .inl (cI, 30, .inl R_size))]) (va_runV (As := [.int p0, .int (r_1 - 1)]) (rest := []) C0.1 (c_X4_isHole l dC dI cI cJ cB cZ aR H.size R_nodes R_arrows R_operators R_elements p0 (r_1 - 1) r_3 hc_4) (cwV 2 hts gX0_coverLast_X4_isHole rfl rfl rfl (by decide +kernel) ⟨Nat.le_of_ble_eq_true rfl, Nat.le_of_ble_eq_true rfl⟩) (cP_V (ci := 4) (q0 := 7) hK hN hP hD rfl rfl [7, 6] (by decide) rfl) rfl rfl hl.1 rfl (lv_room (Nat.le_of_ble_eq_true rfl)) dX0_coverLast_19 ⟨Nat.le_of_ble_eq_true rfl, Nat.le_of_ble_eq_true rfl⟩) hP hD hS hA [7, 6] [0, 1, 2, 3, 4, 5, 8] rfl rfl (by decide) (by decide) (fun H locs hP hD hS => ?_)
  have hP : va_P (dC, dI) vwCl [((aC 0), .inr (0, [.ref (aR 0), .ref (aC 2), .ref (aC 3), .ref gC_all, .ref gC_topped, .ref gC_firsts, .ref gC_ways, .int C_size, .int C_operators])), ((aC 3), .inl (cI, 40, .inl C_atom)), (gC_topped, .inl (cI, n_C_topped, .inl C_topped)), (gC_ways, .inl (cI, n_C_ways, .inl C_ways)), ((aR 5), .inl (cI, 30, .inl R_firstTakes)), ((aR 6), .inl (cI, 30, .inl R_lastTakes)), ((aR 2), .inl (cI, 30, .inl R_size)), ((aR 0), .inr (4, [.ref (aR 1), .ref (aR 2), .ref (aR 3), .ref (aR 4), .ref (aR 5), .ref (aR 6), .ref (aR 7), .int R_nodes, .int R_arrows, .int R_operators])), ((aR 7), .inl (cJ, 270, .inr (.inl R_elements)))] H := hP
  have hD : va_D A [((aC 0), .inr (0, [.ref (aR 0), .ref (aC 2), .ref (aC 3), .ref gC_all, .ref gC_topped, .ref gC_firsts, .ref gC_ways, .int C_size, .int C_operators])), ((aC 3), .inl (cI, 40, .inl C_atom)), (gC_topped, .inl (cI, n_C_topped, .inl C_topped)), (gC_ways, .inl (cI, n_C_ways, .inl C_ways)), ((aR 5), .inl (cI, 30, .inl R_firstTakes)), ((aR 6), .inl (cI, 30, .inl R_lastTakes)), ((aR 2), .inl (cI, 30, .inl R_size)), ((aR 0), .inr (4, [.ref (aR 1), .ref (aR 2), .ref (aR 3), .ref (aR 4), .ref (aR 5), .ref (aR 6), .ref (aR 7), .int R_nodes, .int R_arrows, .int R_operators])), ((aR 7), .inl (cJ, 270, .inr (.inl R_elements)))] := hD
  refine lv_if_eq (tgt := 57) hx hb dX0_coverLast_22 (by decide) (fun c_5 => ?_) (fun c_5 => ?_)
  · have hm := it_some c_5 hm
    exact RET C_ways hm _ H locs ls dX0_coverLast_57 (P_sub' hP [0, 1, 2, 3, 7, 6, 4, 5, 8] rfl) (hD.sub [0, 1, 2, 3, 7, 6, 4, 5, 8] (by decide) rfl) hS
  · have hm := if_some' c_5 hm
    refine lv_aload_n hx hb dX0_coverLast_25 rfl (lv_at hl 1 rfl) ?_
    refine va_get (D := (dC, dI)) (ci := 0) (v := .ref gC_ways) (C := RX0) (T := TX0) (N := 9) hx hb hts X0_coverLast_inX0 hown hK hP 0 rfl rfl 6 (by decide) (hts (.fieldLink RX0 28 "MixfixDesk$Chart" "ways" "[I") (by decide +kernel)) (fun _ h9 => h9) rfl dX0_coverLast_26 ?_
    refine lv_aload_n hx hb dX0_coverLast_29 rfl (lv_at hl 1 rfl) ?_
    refine lv_iload_n hx hb dX0_coverLast_30 rfl (lv_at hl 2 rfl) ?_
    refine lv_iload hx hb dX0_coverLast_31 (lv_at hl 0 rfl) ?_
    refine lv_iload_n hx hb dX0_coverLast_33 rfl (lv_at hl 3 rfl) ?_
    obtain ⟨r_6, hc_7, hm⟩ := ob_some hm
    refine cx_i (wr := [((aC 3), .inl (cI, 40, .inl C_atom)), (gC_topped, .inl (cI, n_C_topped, .inl C_topped)), (gC_ways, .inl (cI, n_C_ways, .inl C_ways)), ((aR 5), .inl (cI, 30, .inl R_firstTakes)), ((aR 6), .inl (cI, 30, .inl R_lastTakes)), ((aR 2), .inl (cI, 30, .inl R_size)), ((aR 0), .inr (4, [.ref (aR 1), .ref (aR 2), .ref (aR 3), .ref (aR 4), .ref (aR 5), .ref (aR 6), .ref (aR 7), .int R_nodes, .int R_arrows, .int R_operators])), ((aR 7), .inl (cJ, 270, .inr (.inl R_elements)))]) (va_runV (As := [.int p0, .int (r_1 - 1), .int p1]) (rest := [.ref gC_ways]) C0.1 (c_X0_way l dC dI cI cJ cB cZ aC (aR 0) gC_all gC_topped gC_firsts gC_ways H.size C_size C_operators p0 (r_1 - 1) p1 r_6 hc_7) (cwV 3 hts gX0_coverLast_X0_way rfl rfl rfl (by decide +kernel) ⟨Nat.le_of_ble_eq_true rfl, Nat.le_of_ble_eq_true rfl⟩) (cP_V (ci := 0) (q0 := 0) hK hN hP hD rfl rfl [0] (by decide) rfl) rfl rfl hl.1 rfl (lv_room (Nat.le_of_ble_eq_true rfl)) dX0_coverLast_34 ⟨Nat.le_of_ble_eq_true rfl, Nat.le_of_ble_eq_true rfl⟩) hP hD hS hA [0] [1, 2, 3, 4, 5, 6, 7, 8] rfl rfl (by decide) (by decide) (fun H locs hP hD hS => ?_)
    have hP : va_P (dC, dI) vwCl [((aC 3), .inl (cI, 40, .inl C_atom)), (gC_topped, .inl (cI, n_C_topped, .inl C_topped)), (gC_ways, .inl (cI, n_C_ways, .inl C_ways)), ((aR 5), .inl (cI, 30, .inl R_firstTakes)), ((aR 6), .inl (cI, 30, .inl R_lastTakes)), ((aR 2), .inl (cI, 30, .inl R_size)), ((aR 0), .inr (4, [.ref (aR 1), .ref (aR 2), .ref (aR 3), .ref (aR 4), .ref (aR 5), .ref (aR 6), .ref (aR 7), .int R_nodes, .int R_arrows, .int R_operators])), ((aR 7), .inl (cJ, 270, .inr (.inl R_elements))), ((aC 0), .inr (0, [.ref (aR 0), .ref (aC 2), .ref (aC 3), .ref gC_all, .ref gC_topped, .ref gC_firsts, .ref gC_ways, .int C_size, .int C_operators]))] H := hP
    have hD : va_D A [((aC 3), .inl (cI, 40, .inl C_atom)), (gC_topped, .inl (cI, n_C_topped, .inl C_topped)), (gC_ways, .inl (cI, n_C_ways, .inl C_ways)), ((aR 5), .inl (cI, 30, .inl R_firstTakes)), ((aR 6), .inl (cI, 30, .inl R_lastTakes)), ((aR 2), .inl (cI, 30, .inl R_size)), ((aR 0), .inr (4, [.ref (aR 1), .ref (aR 2), .ref (aR 3), .ref (aR 4), .ref (aR 5), .ref (aR 6), .ref (aR 7), .int R_nodes, .int R_arrows, .int R_operators])), ((aR 7), .inl (cJ, 270, .inr (.inl R_elements))), ((aC 0), .inr (0, [.ref (aR 0), .ref (aC 2), .ref (aC 3), .ref gC_all, .ref gC_topped, .ref gC_firsts, .ref gC_ways, .int C_size, .int C_operators]))] := hD
    refine lv_aload_n hx hb dX0_coverLast_37 rfl (lv_at hl 1 rfl) ?_
    refine lv_aload_n hx hb dX0_coverLast_38 rfl (lv_at hl 1 rfl) ?_
    refine va_get (D := (dC, dI)) (ci := 0) (v := .ref (aR 0)) (C := RX0) (T := TX0) (N := 9) hx hb hts X0_coverLast_inX0 hown hK hP 8 rfl rfl 0 (by decide) (hts (.fieldLink RX0 38 "MixfixDesk$Chart" "rules" "LMixfixDesk$Rules;") (by decide +kernel)) (fun _ h9 => h9) rfl dX0_coverLast_39 ?_
    refine lv_iload_n hx hb dX0_coverLast_42 rfl (lv_at hl 2 rfl) ?_
    refine lv_iload hx hb dX0_coverLast_43 (lv_at hl 0 rfl) ?_
    obtain ⟨r_8, hc_9, hm⟩ := ob_some hm
    refine cx_i (wr := [((aC 3), .inl (cI, 40, .inl C_atom)), (gC_topped, .inl (cI, n_C_topped, .inl C_topped)), (gC_ways, .inl (cI, n_C_ways, .inl C_ways)), ((aR 7), .inl (cJ, 270, .inr (.inl R_elements))), ((aC 0), .inr (0, [.ref (aR 0), .ref (aC 2), .ref (aC 3), .ref gC_all, .ref gC_topped, .ref gC_firsts, .ref gC_ways, .int C_size, .int C_operators]))]) (va_runV (As := [.int p0, .int (r_1 - 1)]) (rest := [.ref (aC 0), .int r_6, .ref gC_ways]) C0.1 (c_X4_takes l dC dI cI cJ cB cZ aR H.size R_nodes R_arrows R_operators R_size R_firstTakes R_lastTakes p0 (r_1 - 1) r_8 hc_9) (cwV 2 hts gX0_coverLast_X4_takes rfl rfl rfl (by decide +kernel) ⟨Nat.le_of_ble_eq_true rfl, Nat.le_of_ble_eq_true rfl⟩) (cP_V (ci := 4) (q0 := 6) hK hN hP hD rfl rfl [6, 5, 3, 4] (by decide) rfl) rfl rfl hl.1 rfl (lv_room (Nat.le_of_ble_eq_true rfl)) dX0_coverLast_45 ⟨Nat.le_of_ble_eq_true rfl, Nat.le_of_ble_eq_true rfl⟩) hP hD hS hA [6, 5, 3, 4] [0, 1, 2, 7, 8] rfl rfl (by decide) (by decide) (fun H locs hP hD hS => ?_)
    have hP : va_P (dC, dI) vwCl [((aC 3), .inl (cI, 40, .inl C_atom)), (gC_topped, .inl (cI, n_C_topped, .inl C_topped)), (gC_ways, .inl (cI, n_C_ways, .inl C_ways)), ((aR 7), .inl (cJ, 270, .inr (.inl R_elements))), ((aC 0), .inr (0, [.ref (aR 0), .ref (aC 2), .ref (aC 3), .ref gC_all, .ref gC_topped, .ref gC_firsts, .ref gC_ways, .int C_size, .int C_operators])), ((aR 0), .inr (4, [.ref (aR 1), .ref (aR 2), .ref (aR 3), .ref (aR 4), .ref (aR 5), .ref (aR 6), .ref (aR 7), .int R_nodes, .int R_arrows, .int R_operators])), ((aR 2), .inl (cI, 30, .inl R_size)), ((aR 5), .inl (cI, 30, .inl R_firstTakes)), ((aR 6), .inl (cI, 30, .inl R_lastTakes))] H := hP
    have hD : va_D A [((aC 3), .inl (cI, 40, .inl C_atom)), (gC_topped, .inl (cI, n_C_topped, .inl C_topped)), (gC_ways, .inl (cI, n_C_ways, .inl C_ways)), ((aR 7), .inl (cJ, 270, .inr (.inl R_elements))), ((aC 0), .inr (0, [.ref (aR 0), .ref (aC 2), .ref (aC 3), .ref gC_all, .ref gC_topped, .ref gC_firsts, .ref gC_ways, .int C_size, .int C_operators])), ((aR 0), .inr (4, [.ref (aR 1), .ref (aR 2), .ref (aR 3), .ref (aR 4), .ref (aR 5), .ref (aR 6), .ref (aR 7), .int R_nodes, .int R_arrows, .int R_operators])), ((aR 2), .inl (cI, 30, .inl R_size)), ((aR 5), .inl (cI, 30, .inl R_firstTakes)), ((aR 6), .inl (cI, 30, .inl R_lastTakes))] := hD
    refine lv_iload hx hb dX0_coverLast_48 (lv_at hl 5 rfl) ?_
    refine lv_iand hx hb dX0_coverLast_50 ?_
    refine lv_iload_n hx hb dX0_coverLast_51 rfl (lv_at hl 3 rfl) ?_
    refine lv_iload_n hx hb dX0_coverLast_52 rfl (lv_at hl 4 rfl) ?_
    obtain ⟨r_10, hc_11, hm⟩ := ob_some hm
    refine cx_i (wr := [(gC_ways, .inl (cI, n_C_ways, .inl C_ways)), ((aR 7), .inl (cJ, 270, .inr (.inl R_elements))), ((aR 0), .inr (4, [.ref (aR 1), .ref (aR 2), .ref (aR 3), .ref (aR 4), .ref (aR 5), .ref (aR 6), .ref (aR 7), .int R_nodes, .int R_arrows, .int R_operators])), ((aR 2), .inl (cI, 30, .inl R_size)), ((aR 5), .inl (cI, 30, .inl R_firstTakes)), ((aR 6), .inl (cI, 30, .inl R_lastTakes))]) (va_runV (As := [.int (r_8 &&& p3), .int p1, .int p2]) (rest := [.int r_6, .ref gC_ways]) C0.1 (c_X0_fitting l dC dI cI cJ cB cZ aC (aR 0) gC_all gC_topped gC_firsts gC_ways H.size C_size C_operators C_atom n_C_topped C_topped (r_8 &&& p3) p1 p2 r_10 hc_11) (cwV 3 hts gX0_coverLast_X0_fitting rfl rfl rfl (by decide +kernel) ⟨Nat.le_of_ble_eq_true rfl, Nat.le_of_ble_eq_true rfl⟩) (cP_V (ci := 0) (q0 := 4) hK hN hP hD rfl rfl [4, 0, 1] (by decide) rfl) rfl rfl hl.1 rfl (lv_room (Nat.le_of_ble_eq_true rfl)) dX0_coverLast_53 ⟨Nat.le_of_ble_eq_true rfl, Nat.le_of_ble_eq_true rfl⟩) hP hD hS hA [4, 0, 1] [2, 3, 5, 6, 7, 8] rfl rfl (by decide) (by decide) (fun H locs hP hD hS => ?_)
    have hP : va_P (dC, dI) vwCl [(gC_ways, .inl (cI, n_C_ways, .inl C_ways)), ((aR 7), .inl (cJ, 270, .inr (.inl R_elements))), ((aR 0), .inr (4, [.ref (aR 1), .ref (aR 2), .ref (aR 3), .ref (aR 4), .ref (aR 5), .ref (aR 6), .ref (aR 7), .int R_nodes, .int R_arrows, .int R_operators])), ((aR 2), .inl (cI, 30, .inl R_size)), ((aR 5), .inl (cI, 30, .inl R_firstTakes)), ((aR 6), .inl (cI, 30, .inl R_lastTakes)), ((aC 0), .inr (0, [.ref (aR 0), .ref (aC 2), .ref (aC 3), .ref gC_all, .ref gC_topped, .ref gC_firsts, .ref gC_ways, .int C_size, .int C_operators])), ((aC 3), .inl (cI, 40, .inl C_atom)), (gC_topped, .inl (cI, n_C_topped, .inl C_topped))] H := hP
    have hD : va_D A [(gC_ways, .inl (cI, n_C_ways, .inl C_ways)), ((aR 7), .inl (cJ, 270, .inr (.inl R_elements))), ((aR 0), .inr (4, [.ref (aR 1), .ref (aR 2), .ref (aR 3), .ref (aR 4), .ref (aR 5), .ref (aR 6), .ref (aR 7), .int R_nodes, .int R_arrows, .int R_operators])), ((aR 2), .inl (cI, 30, .inl R_size)), ((aR 5), .inl (cI, 30, .inl R_firstTakes)), ((aR 6), .inl (cI, 30, .inl R_lastTakes)), ((aC 0), .inr (0, [.ref (aR 0), .ref (aC 2), .ref (aC 3), .ref gC_all, .ref gC_topped, .ref gC_firsts, .ref gC_ways, .int C_size, .int C_operators])), ((aC 3), .inl (cI, 40, .inl C_atom)), (gC_topped, .inl (cI, n_C_topped, .inl C_topped))] := hD
    obtain ⟨hi_12, hm⟩ := gd_some hm
    refine va_iast (D := (dC, dI)) hx hb hK hP hD hS 0 0 rfl rfl hi_12 dX0_coverLast_56 (fun H locs hP hD hS => ?_)
    have hP : va_P (dC, dI) vwCl [(gC_ways, .inl (cI, n_C_ways, .inl (upd C_ways r_6.toNatClampNeg r_10))), ((aR 7), .inl (cJ, 270, .inr (.inl R_elements))), ((aR 0), .inr (4, [.ref (aR 1), .ref (aR 2), .ref (aR 3), .ref (aR 4), .ref (aR 5), .ref (aR 6), .ref (aR 7), .int R_nodes, .int R_arrows, .int R_operators])), ((aR 2), .inl (cI, 30, .inl R_size)), ((aR 5), .inl (cI, 30, .inl R_firstTakes)), ((aR 6), .inl (cI, 30, .inl R_lastTakes)), ((aC 0), .inr (0, [.ref (aR 0), .ref (aC 2), .ref (aC 3), .ref gC_all, .ref gC_topped, .ref gC_firsts, .ref gC_ways, .int C_size, .int C_operators])), ((aC 3), .inl (cI, 40, .inl C_atom)), (gC_topped, .inl (cI, n_C_topped, .inl C_topped))] H := hP
    have hD : va_D A [(gC_ways, .inl (cI, n_C_ways, .inl (upd C_ways r_6.toNatClampNeg r_10))), ((aR 7), .inl (cJ, 270, .inr (.inl R_elements))), ((aR 0), .inr (4, [.ref (aR 1), .ref (aR 2), .ref (aR 3), .ref (aR 4), .ref (aR 5), .ref (aR 6), .ref (aR 7), .int R_nodes, .int R_arrows, .int R_operators])), ((aR 2), .inl (cI, 30, .inl R_size)), ((aR 5), .inl (cI, 30, .inl R_firstTakes)), ((aR 6), .inl (cI, 30, .inl R_lastTakes)), ((aC 0), .inr (0, [.ref (aR 0), .ref (aC 2), .ref (aC 3), .ref gC_all, .ref gC_topped, .ref gC_firsts, .ref gC_ways, .int C_size, .int C_operators])), ((aC 3), .inl (cI, 40, .inl C_atom)), (gC_topped, .inl (cI, n_C_topped, .inl C_topped))] := hD
    exact RET (upd C_ways r_6.toNatClampNeg r_10) hm _ H locs ls dX0_coverLast_57 (P_sub' hP [6, 7, 8, 0, 2, 3, 4, 5, 1] rfl) (hD.sub [6, 7, 8, 0, 2, 3, 4, 5, 1] (by decide) rfl) hS
set_option maxHeartbeats 4000000 in
set_option maxRecDepth 100000 in
theorem c_X0_coverLast (l : Launch) (dC : Nat → ClassId) (dI : Nat → Nat → Nat) (cI cJ cB cZ : ClassId) (aC : Nat → Nat) (gC_all : Nat) (gC_topped : Nat) (gC_firsts : Nat) (gC_ways : Nat) (aR : Nat → Nat) (sz : Nat) (C_size : Int32) (C_operators : Int32) (R_nodes : Int32) (R_arrows : Int32) (R_operators : Int32) (C_atom : Nat → Int32) (n_C_topped : Nat) (C_topped : Nat → Int32) (n_C_ways : Nat) (C_ways : Nat → Int32) (R_size : Nat → Int32) (R_firstTakes : Nat → Int32) (R_lastTakes : Nat → Int32) (R_elements : Nat → Int64) (p0 : Int32) (p1 : Int32) (p2 : Int32) (p3 : Int32) (res : (Nat → Int32)) (hm : m_X0_coverLast C_atom n_C_topped C_topped n_C_ways C_ways C_size C_operators R_size R_firstTakes R_lastTakes R_elements p0 p1 p2 p3 = some res) : Met l yX0_coverLast wsX0_coverLast rm_X0_coverLast (cP (dC, dI) vwCl [(cI, .int), (cJ, .long), (cB, .byte), (cZ, .boolean)] [.ref (aC 0), .int p0, .int p1, .int p2, .int p3] [((aC 0), .inr (0, [.ref (aR 0), .ref (aC 2), .ref (aC 3), .ref gC_all, .ref gC_topped, .ref gC_firsts, .ref gC_ways, .int C_size, .int C_operators])), ((aC 3), .inl (cI, 40, .inl C_atom)), (gC_topped, .inl (cI, n_C_topped, .inl C_topped)), (gC_ways, .inl (cI, n_C_ways, .inl C_ways)), ((aR 0), .inr (4, [.ref (aR 1), .ref (aR 2), .ref (aR 3), .ref (aR 4), .ref (aR 5), .ref (aR 6), .ref (aR 7), .int R_nodes, .int R_arrows, .int R_operators])), ((aR 2), .inl (cI, 30, .inl R_size)), ((aR 5), .inl (cI, 30, .inl R_firstTakes)), ((aR 6), .inl (cI, 30, .inl R_lastTakes)), ((aR 7), .inl (cJ, 270, .inr (.inl R_elements)))] sz) (cQv (dC, dI) vwCl [((aC 0), .inr (0, [.ref (aR 0), .ref (aC 2), .ref (aC 3), .ref gC_all, .ref gC_topped, .ref gC_firsts, .ref gC_ways, .int C_size, .int C_operators])), ((aC 3), .inl (cI, 40, .inl C_atom)), (gC_topped, .inl (cI, n_C_topped, .inl C_topped)), (gC_ways, .inl (cI, n_C_ways, .inl res)), ((aR 0), .inr (4, [.ref (aR 1), .ref (aR 2), .ref (aR 3), .ref (aR 4), .ref (aR 5), .ref (aR 6), .ref (aR 7), .int R_nodes, .int R_arrows, .int R_operators])), ((aR 2), .inl (cI, 30, .inl R_size)), ((aR 5), .inl (cI, 30, .inl R_firstTakes)), ((aR 6), .inl (cI, 30, .inl R_lastTakes)), ((aR 7), .inl (cJ, 270, .inr (.inl R_elements)))] [((aC 0), .inr (0, [.ref (aR 0), .ref (aC 2), .ref (aC 3), .ref gC_all, .ref gC_topped, .ref gC_firsts, .ref gC_ways, .int C_size, .int C_operators])), ((aC 3), .inl (cI, 40, .inl C_atom)), (gC_topped, .inl (cI, n_C_topped, .inl C_topped)), (gC_ways, .inl (cI, n_C_ways, .inl C_ways)), ((aR 0), .inr (4, [.ref (aR 1), .ref (aR 2), .ref (aR 3), .ref (aR 4), .ref (aR 5), .ref (aR 6), .ref (aR 7), .int R_nodes, .int R_arrows, .int R_operators])), ((aR 2), .inl (cI, 30, .inl R_size)), ((aR 5), .inl (cI, 30, .inl R_firstTakes)), ((aR 6), .inl (cI, 30, .inl R_lastTakes)), ((aR 7), .inl (cJ, 270, .inr (.inl R_elements)))] sz) 0 0 (va_A [((aC 0), .inr (0, [.ref (aR 0), .ref (aC 2), .ref (aC 3), .ref gC_all, .ref gC_topped, .ref gC_firsts, .ref gC_ways, .int C_size, .int C_operators])), ((aC 3), .inl (cI, 40, .inl C_atom)), (gC_topped, .inl (cI, n_C_topped, .inl C_topped)), (gC_ways, .inl (cI, n_C_ways, .inl C_ways)), ((aR 0), .inr (4, [.ref (aR 1), .ref (aR 2), .ref (aR 3), .ref (aR 4), .ref (aR 5), .ref (aR 6), .ref (aR 7), .int R_nodes, .int R_arrows, .int R_operators])), ((aR 2), .inl (cI, 30, .inl R_size)), ((aR 5), .inl (cI, 30, .inl R_firstTakes)), ((aR 6), .inl (cI, 30, .inl R_lastTakes)), ((aR 7), .inl (cJ, 270, .inr (.inl R_elements)))] sz) := by
  refine cx_of (cc := cX0_coverLast) (maxL := 6) (ret := none) (own := RX0) (by decide) rfl rfl (Nat.le_of_ble_eq_true rfl) ?_
  intro p e s m below meth c A C0 hinN hK hN hsz hAe hA hP hD hS ls hl
  refine k_X0_coverLast_E C0 hK hN hA aC gC_all gC_topped gC_firsts gC_ways aR C_size C_operators R_nodes R_arrows R_operators C_atom n_C_topped C_topped n_C_ways R_size R_firstTakes R_lastTakes R_elements res ?_ C_ways p0 p1 p2 p3 hm _ _ hP hD hS ls hl
  intro C_ways he pc H locs ls hdg hP hD hS
  have he := Option.some.inj he
  subst he
  exact cx_retv C0 hsz hAe hdg hP hD hS

