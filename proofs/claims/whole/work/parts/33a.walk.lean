theorem dX7_size_0 : decode cX7_size 0 = .ok (.aload_n 0, 1) := by decide +kernel
theorem dX7_size_1 : decode cX7_size 1 = .ok (.getfield 24, 3) := by decide +kernel
theorem dX7_size_4 : decode cX7_size 4 = .ok (.ireturn, 1) := by decide +kernel
/-! MixfixDesk$Tree.size()I -/
abbrev rm_X7_size : Room := { frames := 0, cells := 0, slots := 0, locals := 0 }
theorem X7_size_inX7 : ∀ w ∈ wsX70, w ∈ wsX7_size := by decide +kernel
abbrev RT_X7_size (p : Program) (l : Launch) (e : Env) (s : State) (m : MethodId) (args : Array Value) (below : List Frame) (meth : Method) (c : Code) (Q : State → Prop) (dC : Nat → ClassId) (dI : Nat → Nat → Nat) (cI cJ cB cZ : ClassId) (A : Nat → Prop) (aT : Nat → Nat) (T_size : Int32) (res : Int32) : Prop := ∀ (v : Int32) , some v = some res → ∀ (pc : Nat) (H : Heap) (locs : List Loc) (ls : Array Slot), decode cX7_size pc = .ok (.ireturn, 1) → va_P (dC, dI) vwCl [((aT 0), .inr (7, [.ref (aT 1), .ref (aT 2), .ref (aT 3), .ref (aT 4), .int T_size]))] H → va_D A [((aT 0), .inr (7, [.ref (aT 1), .ref (aT 2), .ref (aT 3), .ref (aT 4), .int T_size]))] → va_S A s.heap H locs → W p l e rm_X7_size s m args below meth c H locs 0 0 Q (F0 m pc ls [.int v])
set_option maxHeartbeats 4000000 in
set_option maxRecDepth 100000 in
theorem k_X7_size_E {p : Program} {l : Launch} {e : Env} {s : State} {m : MethodId} {args : Array Value} {below : List Frame} {meth : Method} {c : Code} {Q : State → Prop} {dC : Nat → ClassId} {dI : Nat → Nat → Nat} {cI cJ cB cZ : ClassId} {A : Nat → Prop} (C0 : Cx p s m meth c args cX7_size 1 (some .int) wsX7_size RX7) (hK : va_K (dC, dI) vwCl [(cI, .int), (cJ, .long), (cB, .byte), (cZ, .boolean)] s) (hN : NW s) (hA : ∀ q, s.heap.size ≤ q → A q) (aT : Nat → Nat) (T_size : Int32) (res : Int32) (RET : RT_X7_size p l e s m args below meth c Q dC dI cI cJ cB cZ A aT T_size res) : m_X7_size T_size = some res → ∀ (H : Heap) (locs : List Loc), va_P (dC, dI) vwCl [((aT 0), .inr (7, [.ref (aT 1), .ref (aT 2), .ref (aT 3), .ref (aT 4), .int T_size]))] H → va_D A [((aT 0), .inr (7, [.ref (aT 1), .ref (aT 2), .ref (aT 3), .ref (aT 4), .int T_size]))] → va_S A s.heap H locs → ∀ (ls : Array Slot), lv_has ls 1 [(0, .ref (aT 0))] → W p l e rm_X7_size s m args below meth c H locs 0 0 Q (F0 m 0 ls []) := by
  obtain ⟨⟨hx, hb, hml, hown, hts⟩, hr, hlocks⟩ := id C0
  intro  hm H locs hP hD hS ls hl
  have hm : (some T_size) = some res := hm
  refine lv_aload_n hx hb dX7_size_0 rfl (lv_at hl 0 rfl) ?_
  refine va_get (D := (dC, dI)) (ci := 7) (v := .int T_size) (C := RX7) (T := TX7) (N := 5) hx hb hts X7_size_inX7 hown hK hP 0 rfl rfl 4 (by decide) (hts (.fieldLink RX7 24 "MixfixDesk$Tree" "size" "I") (by decide +kernel)) (fun _ h9 => h9) rfl dX7_size_1 ?_
  exact RET T_size hm _ H locs ls dX7_size_4 hP hD hS
set_option maxHeartbeats 4000000 in
set_option maxRecDepth 100000 in
theorem c_X7_size (l : Launch) (dC : Nat → ClassId) (dI : Nat → Nat → Nat) (cI cJ cB cZ : ClassId) (aT : Nat → Nat) (sz : Nat) (T_size : Int32) (res : Int32) (hm : m_X7_size T_size = some res) : Met l yX7_size wsX7_size rm_X7_size (cP (dC, dI) vwCl [(cI, .int), (cJ, .long), (cB, .byte), (cZ, .boolean)] [.ref (aT 0)] [((aT 0), .inr (7, [.ref (aT 1), .ref (aT 2), .ref (aT 3), .ref (aT 4), .int T_size]))] sz) (cQi res (dC, dI) vwCl [((aT 0), .inr (7, [.ref (aT 1), .ref (aT 2), .ref (aT 3), .ref (aT 4), .int T_size]))] [((aT 0), .inr (7, [.ref (aT 1), .ref (aT 2), .ref (aT 3), .ref (aT 4), .int T_size]))] sz) 0 0 (va_A [((aT 0), .inr (7, [.ref (aT 1), .ref (aT 2), .ref (aT 3), .ref (aT 4), .int T_size]))] sz) := by
  refine cx_of (cc := cX7_size) (maxL := 1) (ret := (some .int)) (own := RX7) (by decide) rfl rfl (Nat.le_of_ble_eq_true rfl) ?_
  intro p e s m below meth c A C0 hinN hK hN hsz hAe hA hP hD hS ls hl
  refine k_X7_size_E C0 hK hN hA aT T_size res ?_  hm _ _ hP hD hS ls hl
  intro v he pc H locs ls hdg hP hD hS
  have he := Option.some.inj he
  subst he
  exact cx_reti C0 hsz hAe hdg hP hD hS

theorem dX7_top_0 : decode cX7_top 0 = .ok (.aload_n 0, 1) := by decide +kernel
theorem dX7_top_1 : decode cX7_top 1 = .ok (.getfield 9, 3) := by decide +kernel
theorem dX7_top_4 : decode cX7_top 4 = .ok (.iload_n 1, 1) := by decide +kernel
theorem dX7_top_5 : decode cX7_top 5 = .ok (.iaload, 1) := by decide +kernel
theorem dX7_top_6 : decode cX7_top 6 = .ok (.ireturn, 1) := by decide +kernel
/-! MixfixDesk$Tree.top(I)I -/
abbrev rm_X7_top : Room := { frames := 0, cells := 0, slots := 0, locals := 0 }
theorem X7_top_inX7 : ∀ w ∈ wsX70, w ∈ wsX7_top := by decide +kernel
abbrev RT_X7_top (p : Program) (l : Launch) (e : Env) (s : State) (m : MethodId) (args : Array Value) (below : List Frame) (meth : Method) (c : Code) (Q : State → Prop) (dC : Nat → ClassId) (dI : Nat → Nat → Nat) (cI cJ cB cZ : ClassId) (A : Nat → Prop) (aT : Nat → Nat) (T_size : Int32) (T_top : Nat → Int32) (res : Int32) : Prop := ∀ (v : Int32) , some v = some res → ∀ (pc : Nat) (H : Heap) (locs : List Loc) (ls : Array Slot), decode cX7_top pc = .ok (.ireturn, 1) → va_P (dC, dI) vwCl [((aT 0), .inr (7, [.ref (aT 1), .ref (aT 2), .ref (aT 3), .ref (aT 4), .int T_size])), ((aT 1), .inl (cI, 40, .inl T_top))] H → va_D A [((aT 0), .inr (7, [.ref (aT 1), .ref (aT 2), .ref (aT 3), .ref (aT 4), .int T_size])), ((aT 1), .inl (cI, 40, .inl T_top))] → va_S A s.heap H locs → W p l e rm_X7_top s m args below meth c H locs 0 0 Q (F0 m pc ls [.int v])
set_option maxHeartbeats 4000000 in
set_option maxRecDepth 100000 in
theorem k_X7_top_E {p : Program} {l : Launch} {e : Env} {s : State} {m : MethodId} {args : Array Value} {below : List Frame} {meth : Method} {c : Code} {Q : State → Prop} {dC : Nat → ClassId} {dI : Nat → Nat → Nat} {cI cJ cB cZ : ClassId} {A : Nat → Prop} (C0 : Cx p s m meth c args cX7_top 2 (some .int) wsX7_top RX7) (hK : va_K (dC, dI) vwCl [(cI, .int), (cJ, .long), (cB, .byte), (cZ, .boolean)] s) (hN : NW s) (hA : ∀ q, s.heap.size ≤ q → A q) (aT : Nat → Nat) (T_size : Int32) (T_top : Nat → Int32) (res : Int32) (RET : RT_X7_top p l e s m args below meth c Q dC dI cI cJ cB cZ A aT T_size T_top res) : ∀ (p0 : Int32), m_X7_top T_top p0 = some res → ∀ (H : Heap) (locs : List Loc), va_P (dC, dI) vwCl [((aT 0), .inr (7, [.ref (aT 1), .ref (aT 2), .ref (aT 3), .ref (aT 4), .int T_size])), ((aT 1), .inl (cI, 40, .inl T_top))] H → va_D A [((aT 0), .inr (7, [.ref (aT 1), .ref (aT 2), .ref (aT 3), .ref (aT 4), .int T_size])), ((aT 1), .inl (cI, 40, .inl T_top))] → va_S A s.heap H locs → ∀ (ls : Array Slot), lv_has ls 2 [(0, .ref (aT 0)), (1, .int p0)] → W p l e rm_X7_top s m args below meth c H locs 0 0 Q (F0 m 0 ls []) := by
  obtain ⟨⟨hx, hb, hml, hown, hts⟩, hr, hlocks⟩ := id C0
  intro p0 hm H locs hP hD hS ls hl
  have hm : (gd p0 40 (some (T_top p0.toNatClampNeg))) = some res := hm
  refine lv_aload_n hx hb dX7_top_0 rfl (lv_at hl 0 rfl) ?_
  refine va_get (D := (dC, dI)) (ci := 7) (v := .ref (aT 1)) (C := RX7) (T := TX7) (N := 5) hx hb hts X7_top_inX7 hown hK hP 0 rfl rfl 0 (by decide) (hts (.fieldLink RX7 9 "MixfixDesk$Tree" "top" "[I") (by decide +kernel)) (fun _ h9 => h9) rfl dX7_top_1 ?_
  refine lv_iload_n hx hb dX7_top_4 rfl (lv_at hl 1 rfl) ?_
  obtain ⟨hi_1, hm⟩ := gd_some hm
  refine va_iald (D := (dC, dI)) hx hb hK hP 1 0 rfl rfl hi_1 dX7_top_5 ?_
  exact RET (T_top p0.toNatClampNeg) hm _ H locs ls dX7_top_6 hP hD hS
set_option maxHeartbeats 4000000 in
set_option maxRecDepth 100000 in
theorem c_X7_top (l : Launch) (dC : Nat → ClassId) (dI : Nat → Nat → Nat) (cI cJ cB cZ : ClassId) (aT : Nat → Nat) (sz : Nat) (T_size : Int32) (T_top : Nat → Int32) (p0 : Int32) (res : Int32) (hm : m_X7_top T_top p0 = some res) : Met l yX7_top wsX7_top rm_X7_top (cP (dC, dI) vwCl [(cI, .int), (cJ, .long), (cB, .byte), (cZ, .boolean)] [.ref (aT 0), .int p0] [((aT 0), .inr (7, [.ref (aT 1), .ref (aT 2), .ref (aT 3), .ref (aT 4), .int T_size])), ((aT 1), .inl (cI, 40, .inl T_top))] sz) (cQi res (dC, dI) vwCl [((aT 0), .inr (7, [.ref (aT 1), .ref (aT 2), .ref (aT 3), .ref (aT 4), .int T_size])), ((aT 1), .inl (cI, 40, .inl T_top))] [((aT 0), .inr (7, [.ref (aT 1), .ref (aT 2), .ref (aT 3), .ref (aT 4), .int T_size])), ((aT 1), .inl (cI, 40, .inl T_top))] sz) 0 0 (va_A [((aT 0), .inr (7, [.ref (aT 1), .ref (aT 2), .ref (aT 3), .ref (aT 4), .int T_size])), ((aT 1), .inl (cI, 40, .inl T_top))] sz) := by
  refine cx_of (cc := cX7_top) (maxL := 2) (ret := (some .int)) (own := RX7) (by decide) rfl rfl (Nat.le_of_ble_eq_true rfl) ?_
  intro p e s m below meth c A C0 hinN hK hN hsz hAe hA hP hD hS ls hl
  refine k_X7_top_E C0 hK hN hA aT T_size T_top res ?_ p0 hm _ _ hP hD hS ls hl
  intro v he pc H locs ls hdg hP hD hS
  have he := Option.some.inj he
  subst he
  exact cx_reti C0 hsz hAe hdg hP hD hS

theorem dX7_first_0 : decode cX7_first 0 = .ok (.aload_n 0, 1) := by decide +kernel
theorem dX7_first_1 : decode cX7_first 1 = .ok (.getfield 15, 3) := by decide +kernel
theorem dX7_first_4 : decode cX7_first 4 = .ok (.iload_n 1, 1) := by decide +kernel
theorem dX7_first_5 : decode cX7_first 5 = .ok (.iaload, 1) := by decide +kernel
theorem dX7_first_6 : decode cX7_first 6 = .ok (.ireturn, 1) := by decide +kernel
/-! MixfixDesk$Tree.first(I)I -/
abbrev rm_X7_first : Room := { frames := 0, cells := 0, slots := 0, locals := 0 }
theorem X7_first_inX7 : ∀ w ∈ wsX70, w ∈ wsX7_first := by decide +kernel
abbrev RT_X7_first (p : Program) (l : Launch) (e : Env) (s : State) (m : MethodId) (args : Array Value) (below : List Frame) (meth : Method) (c : Code) (Q : State → Prop) (dC : Nat → ClassId) (dI : Nat → Nat → Nat) (cI cJ cB cZ : ClassId) (A : Nat → Prop) (aT : Nat → Nat) (T_size : Int32) (T_first : Nat → Int32) (res : Int32) : Prop := ∀ (v : Int32) , some v = some res → ∀ (pc : Nat) (H : Heap) (locs : List Loc) (ls : Array Slot), decode cX7_first pc = .ok (.ireturn, 1) → va_P (dC, dI) vwCl [((aT 0), .inr (7, [.ref (aT 1), .ref (aT 2), .ref (aT 3), .ref (aT 4), .int T_size])), ((aT 2), .inl (cI, 40, .inl T_first))] H → va_D A [((aT 0), .inr (7, [.ref (aT 1), .ref (aT 2), .ref (aT 3), .ref (aT 4), .int T_size])), ((aT 2), .inl (cI, 40, .inl T_first))] → va_S A s.heap H locs → W p l e rm_X7_first s m args below meth c H locs 0 0 Q (F0 m pc ls [.int v])
set_option maxHeartbeats 4000000 in
set_option maxRecDepth 100000 in
theorem k_X7_first_E {p : Program} {l : Launch} {e : Env} {s : State} {m : MethodId} {args : Array Value} {below : List Frame} {meth : Method} {c : Code} {Q : State → Prop} {dC : Nat → ClassId} {dI : Nat → Nat → Nat} {cI cJ cB cZ : ClassId} {A : Nat → Prop} (C0 : Cx p s m meth c args cX7_first 2 (some .int) wsX7_first RX7) (hK : va_K (dC, dI) vwCl [(cI, .int), (cJ, .long), (cB, .byte), (cZ, .boolean)] s) (hN : NW s) (hA : ∀ q, s.heap.size ≤ q → A q) (aT : Nat → Nat) (T_size : Int32) (T_first : Nat → Int32) (res : Int32) (RET : RT_X7_first p l e s m args below meth c Q dC dI cI cJ cB cZ A aT T_size T_first res) : ∀ (p0 : Int32), m_X7_first T_first p0 = some res → ∀ (H : Heap) (locs : List Loc), va_P (dC, dI) vwCl [((aT 0), .inr (7, [.ref (aT 1), .ref (aT 2), .ref (aT 3), .ref (aT 4), .int T_size])), ((aT 2), .inl (cI, 40, .inl T_first))] H → va_D A [((aT 0), .inr (7, [.ref (aT 1), .ref (aT 2), .ref (aT 3), .ref (aT 4), .int T_size])), ((aT 2), .inl (cI, 40, .inl T_first))] → va_S A s.heap H locs → ∀ (ls : Array Slot), lv_has ls 2 [(0, .ref (aT 0)), (1, .int p0)] → W p l e rm_X7_first s m args below meth c H locs 0 0 Q (F0 m 0 ls []) := by
  obtain ⟨⟨hx, hb, hml, hown, hts⟩, hr, hlocks⟩ := id C0
  intro p0 hm H locs hP hD hS ls hl
  have hm : (gd p0 40 (some (T_first p0.toNatClampNeg))) = some res := hm
  refine lv_aload_n hx hb dX7_first_0 rfl (lv_at hl 0 rfl) ?_
  refine va_get (D := (dC, dI)) (ci := 7) (v := .ref (aT 2)) (C := RX7) (T := TX7) (N := 5) hx hb hts X7_first_inX7 hown hK hP 0 rfl rfl 1 (by decide) (hts (.fieldLink RX7 15 "MixfixDesk$Tree" "first" "[I") (by decide +kernel)) (fun _ h9 => h9) rfl dX7_first_1 ?_
  refine lv_iload_n hx hb dX7_first_4 rfl (lv_at hl 1 rfl) ?_
  obtain ⟨hi_1, hm⟩ := gd_some hm
  refine va_iald (D := (dC, dI)) hx hb hK hP 1 0 rfl rfl hi_1 dX7_first_5 ?_
  exact RET (T_first p0.toNatClampNeg) hm _ H locs ls dX7_first_6 hP hD hS
set_option maxHeartbeats 4000000 in
set_option maxRecDepth 100000 in
theorem c_X7_first (l : Launch) (dC : Nat → ClassId) (dI : Nat → Nat → Nat) (cI cJ cB cZ : ClassId) (aT : Nat → Nat) (sz : Nat) (T_size : Int32) (T_first : Nat → Int32) (p0 : Int32) (res : Int32) (hm : m_X7_first T_first p0 = some res) : Met l yX7_first wsX7_first rm_X7_first (cP (dC, dI) vwCl [(cI, .int), (cJ, .long), (cB, .byte), (cZ, .boolean)] [.ref (aT 0), .int p0] [((aT 0), .inr (7, [.ref (aT 1), .ref (aT 2), .ref (aT 3), .ref (aT 4), .int T_size])), ((aT 2), .inl (cI, 40, .inl T_first))] sz) (cQi res (dC, dI) vwCl [((aT 0), .inr (7, [.ref (aT 1), .ref (aT 2), .ref (aT 3), .ref (aT 4), .int T_size])), ((aT 2), .inl (cI, 40, .inl T_first))] [((aT 0), .inr (7, [.ref (aT 1), .ref (aT 2), .ref (aT 3), .ref (aT 4), .int T_size])), ((aT 2), .inl (cI, 40, .inl T_first))] sz) 0 0 (va_A [((aT 0), .inr (7, [.ref (aT 1), .ref (aT 2), .ref (aT 3), .ref (aT 4), .int T_size])), ((aT 2), .inl (cI, 40, .inl T_first))] sz) := by
  refine cx_of (cc := cX7_first) (maxL := 2) (ret := (some .int)) (own := RX7) (by decide) rfl rfl (Nat.le_of_ble_eq_true rfl) ?_
  intro p e s m below meth c A C0 hinN hK hN hsz hAe hA hP hD hS ls hl
  refine k_X7_first_E C0 hK hN hA aT T_size T_first res ?_ p0 hm _ _ hP hD hS ls hl
  intro v he pc H locs ls hdg hP hD hS
  have he := Option.some.inj he
  subst he
  exact cx_reti C0 hsz hAe hdg hP hD hS

theorem dX7_end_0 : decode cX7_end 0 = .ok (.aload_n 0, 1) := by decide +kernel
theorem dX7_end_1 : decode cX7_end 1 = .ok (.getfield 18, 3) := by decide +kernel
theorem dX7_end_4 : decode cX7_end 4 = .ok (.iload_n 1, 1) := by decide +kernel
theorem dX7_end_5 : decode cX7_end 5 = .ok (.iaload, 1) := by decide +kernel
theorem dX7_end_6 : decode cX7_end 6 = .ok (.ireturn, 1) := by decide +kernel
/-! MixfixDesk$Tree.end(I)I -/
abbrev rm_X7_end : Room := { frames := 0, cells := 0, slots := 0, locals := 0 }
theorem X7_end_inX7 : ∀ w ∈ wsX70, w ∈ wsX7_end := by decide +kernel
abbrev RT_X7_end (p : Program) (l : Launch) (e : Env) (s : State) (m : MethodId) (args : Array Value) (below : List Frame) (meth : Method) (c : Code) (Q : State → Prop) (dC : Nat → ClassId) (dI : Nat → Nat → Nat) (cI cJ cB cZ : ClassId) (A : Nat → Prop) (aT : Nat → Nat) (T_size : Int32) (T_end : Nat → Int32) (res : Int32) : Prop := ∀ (v : Int32) , some v = some res → ∀ (pc : Nat) (H : Heap) (locs : List Loc) (ls : Array Slot), decode cX7_end pc = .ok (.ireturn, 1) → va_P (dC, dI) vwCl [((aT 0), .inr (7, [.ref (aT 1), .ref (aT 2), .ref (aT 3), .ref (aT 4), .int T_size])), ((aT 3), .inl (cI, 40, .inl T_end))] H → va_D A [((aT 0), .inr (7, [.ref (aT 1), .ref (aT 2), .ref (aT 3), .ref (aT 4), .int T_size])), ((aT 3), .inl (cI, 40, .inl T_end))] → va_S A s.heap H locs → W p l e rm_X7_end s m args below meth c H locs 0 0 Q (F0 m pc ls [.int v])
set_option maxHeartbeats 4000000 in
set_option maxRecDepth 100000 in
theorem k_X7_end_E {p : Program} {l : Launch} {e : Env} {s : State} {m : MethodId} {args : Array Value} {below : List Frame} {meth : Method} {c : Code} {Q : State → Prop} {dC : Nat → ClassId} {dI : Nat → Nat → Nat} {cI cJ cB cZ : ClassId} {A : Nat → Prop} (C0 : Cx p s m meth c args cX7_end 2 (some .int) wsX7_end RX7) (hK : va_K (dC, dI) vwCl [(cI, .int), (cJ, .long), (cB, .byte), (cZ, .boolean)] s) (hN : NW s) (hA : ∀ q, s.heap.size ≤ q → A q) (aT : Nat → Nat) (T_size : Int32) (T_end : Nat → Int32) (res : Int32) (RET : RT_X7_end p l e s m args below meth c Q dC dI cI cJ cB cZ A aT T_size T_end res) : ∀ (p0 : Int32), m_X7_end T_end p0 = some res → ∀ (H : Heap) (locs : List Loc), va_P (dC, dI) vwCl [((aT 0), .inr (7, [.ref (aT 1), .ref (aT 2), .ref (aT 3), .ref (aT 4), .int T_size])), ((aT 3), .inl (cI, 40, .inl T_end))] H → va_D A [((aT 0), .inr (7, [.ref (aT 1), .ref (aT 2), .ref (aT 3), .ref (aT 4), .int T_size])), ((aT 3), .inl (cI, 40, .inl T_end))] → va_S A s.heap H locs → ∀ (ls : Array Slot), lv_has ls 2 [(0, .ref (aT 0)), (1, .int p0)] → W p l e rm_X7_end s m args below meth c H locs 0 0 Q (F0 m 0 ls []) := by
  obtain ⟨⟨hx, hb, hml, hown, hts⟩, hr, hlocks⟩ := id C0
  intro p0 hm H locs hP hD hS ls hl
  have hm : (gd p0 40 (some (T_end p0.toNatClampNeg))) = some res := hm
  refine lv_aload_n hx hb dX7_end_0 rfl (lv_at hl 0 rfl) ?_
  refine va_get (D := (dC, dI)) (ci := 7) (v := .ref (aT 3)) (C := RX7) (T := TX7) (N := 5) hx hb hts X7_end_inX7 hown hK hP 0 rfl rfl 2 (by decide) (hts (.fieldLink RX7 18 "MixfixDesk$Tree" "end" "[I") (by decide +kernel)) (fun _ h9 => h9) rfl dX7_end_1 ?_
  refine lv_iload_n hx hb dX7_end_4 rfl (lv_at hl 1 rfl) ?_
  obtain ⟨hi_1, hm⟩ := gd_some hm
  refine va_iald (D := (dC, dI)) hx hb hK hP 1 0 rfl rfl hi_1 dX7_end_5 ?_
  exact RET (T_end p0.toNatClampNeg) hm _ H locs ls dX7_end_6 hP hD hS
set_option maxHeartbeats 4000000 in
set_option maxRecDepth 100000 in
theorem c_X7_end (l : Launch) (dC : Nat → ClassId) (dI : Nat → Nat → Nat) (cI cJ cB cZ : ClassId) (aT : Nat → Nat) (sz : Nat) (T_size : Int32) (T_end : Nat → Int32) (p0 : Int32) (res : Int32) (hm : m_X7_end T_end p0 = some res) : Met l yX7_end wsX7_end rm_X7_end (cP (dC, dI) vwCl [(cI, .int), (cJ, .long), (cB, .byte), (cZ, .boolean)] [.ref (aT 0), .int p0] [((aT 0), .inr (7, [.ref (aT 1), .ref (aT 2), .ref (aT 3), .ref (aT 4), .int T_size])), ((aT 3), .inl (cI, 40, .inl T_end))] sz) (cQi res (dC, dI) vwCl [((aT 0), .inr (7, [.ref (aT 1), .ref (aT 2), .ref (aT 3), .ref (aT 4), .int T_size])), ((aT 3), .inl (cI, 40, .inl T_end))] [((aT 0), .inr (7, [.ref (aT 1), .ref (aT 2), .ref (aT 3), .ref (aT 4), .int T_size])), ((aT 3), .inl (cI, 40, .inl T_end))] sz) 0 0 (va_A [((aT 0), .inr (7, [.ref (aT 1), .ref (aT 2), .ref (aT 3), .ref (aT 4), .int T_size])), ((aT 3), .inl (cI, 40, .inl T_end))] sz) := by
  refine cx_of (cc := cX7_end) (maxL := 2) (ret := (some .int)) (own := RX7) (by decide) rfl rfl (Nat.le_of_ble_eq_true rfl) ?_
  intro p e s m below meth c A C0 hinN hK hN hsz hAe hA hP hD hS ls hl
  refine k_X7_end_E C0 hK hN hA aT T_size T_end res ?_ p0 hm _ _ hP hD hS ls hl
  intro v he pc H locs ls hdg hP hD hS
  have he := Option.some.inj he
  subst he
  exact cx_reti C0 hsz hAe hdg hP hD hS

theorem dX7_beside_0 : decode cX7_beside 0 = .ok (.iload_n 1, 1) := by decide +kernel
theorem dX7_beside_1 : decode cX7_beside 1 = .ok (.iconst 1, 1) := by decide +kernel
theorem dX7_beside_2 : decode cX7_beside 2 = .ok (.iadd, 1) := by decide +kernel
theorem dX7_beside_3 : decode cX7_beside 3 = .ok (.istore_n 2, 1) := by decide +kernel
theorem dX7_beside_4 : decode cX7_beside 4 = .ok (.iload_n 2, 1) := by decide +kernel
theorem dX7_beside_5 : decode cX7_beside 5 = .ok (.aload_n 0, 1) := by decide +kernel
theorem dX7_beside_6 : decode cX7_beside 6 = .ok (.getfield 24, 3) := by decide +kernel
theorem dX7_beside_9 : decode cX7_beside 9 = .ok (.if_icmp .ge 24, 3) := by decide +kernel
theorem dX7_beside_12 : decode cX7_beside 12 = .ok (.aload_n 0, 1) := by decide +kernel
theorem dX7_beside_13 : decode cX7_beside 13 = .ok (.getfield 21, 3) := by decide +kernel
theorem dX7_beside_16 : decode cX7_beside 16 = .ok (.iload_n 2, 1) := by decide +kernel
theorem dX7_beside_17 : decode cX7_beside 17 = .ok (.iaload, 1) := by decide +kernel
theorem dX7_beside_18 : decode cX7_beside 18 = .ok (.aload_n 0, 1) := by decide +kernel
theorem dX7_beside_19 : decode cX7_beside 19 = .ok (.getfield 21, 3) := by decide +kernel
theorem dX7_beside_22 : decode cX7_beside 22 = .ok (.iload_n 1, 1) := by decide +kernel
theorem dX7_beside_23 : decode cX7_beside 23 = .ok (.iaload, 1) := by decide +kernel
theorem dX7_beside_24 : decode cX7_beside 24 = .ok (.if_icmp .le 9, 3) := by decide +kernel
theorem dX7_beside_27 : decode cX7_beside 27 = .ok (.iinc 2 1, 3) := by decide +kernel
theorem dX7_beside_30 : decode cX7_beside 30 = .ok (.goto (-26), 3) := by decide +kernel
theorem dX7_beside_33 : decode cX7_beside 33 = .ok (.iload_n 2, 1) := by decide +kernel
theorem dX7_beside_34 : decode cX7_beside 34 = .ok (.ireturn, 1) := by decide +kernel
/-! MixfixDesk$Tree.beside(I)I -/
abbrev rm_X7_beside : Room := { frames := 0, cells := 0, slots := 0, locals := 0 }
theorem X7_beside_inX7 : ∀ w ∈ wsX70, w ∈ wsX7_beside := by decide +kernel
abbrev RT_X7_beside (p : Program) (l : Launch) (e : Env) (s : State) (m : MethodId) (args : Array Value) (below : List Frame) (meth : Method) (c : Code) (Q : State → Prop) (dC : Nat → ClassId) (dI : Nat → Nat → Nat) (cI cJ cB cZ : ClassId) (A : Nat → Prop) (aT : Nat → Nat) (T_size : Int32) (T_depth : Nat → Int32) (res : Int32) : Prop := ∀ (v : Int32) , some v = some res → ∀ (pc : Nat) (H : Heap) (locs : List Loc) (ls : Array Slot), decode cX7_beside pc = .ok (.ireturn, 1) → va_P (dC, dI) vwCl [((aT 0), .inr (7, [.ref (aT 1), .ref (aT 2), .ref (aT 3), .ref (aT 4), .int T_size])), ((aT 4), .inl (cI, 40, .inl T_depth))] H → va_D A [((aT 0), .inr (7, [.ref (aT 1), .ref (aT 2), .ref (aT 3), .ref (aT 4), .int T_size])), ((aT 4), .inl (cI, 40, .inl T_depth))] → va_S A s.heap H locs → W p l e rm_X7_beside s m args below meth c H locs 0 0 Q (F0 m pc ls [.int v])
set_option maxHeartbeats 4000000 in
set_option maxRecDepth 100000 in
theorem k_X7_beside_4 {p : Program} {l : Launch} {e : Env} {s : State} {m : MethodId} {args : Array Value} {below : List Frame} {meth : Method} {c : Code} {Q : State → Prop} {dC : Nat → ClassId} {dI : Nat → Nat → Nat} {cI cJ cB cZ : ClassId} {A : Nat → Prop} (C0 : Cx p s m meth c args cX7_beside 3 (some .int) wsX7_beside RX7) (hK : va_K (dC, dI) vwCl [(cI, .int), (cJ, .long), (cB, .byte), (cZ, .boolean)] s) (hN : NW s) (hA : ∀ q, s.heap.size ≤ q → A q) (aT : Nat → Nat) (T_size : Int32) (T_depth : Nat → Int32) (res : Int32) (RET : RT_X7_beside p l e s m args below meth c Q dC dI cI cJ cB cZ A aT T_size T_depth res)   : ∀ (n : Nat) (x1 : Int32) (x2 : Int32), m_X7_beside_4 T_size T_depth n x1 x2 = some res → ∀ (H : Heap) (locs : List Loc), va_P (dC, dI) vwCl [((aT 0), .inr (7, [.ref (aT 1), .ref (aT 2), .ref (aT 3), .ref (aT 4), .int T_size])), ((aT 4), .inl (cI, 40, .inl T_depth))] H → va_D A [((aT 0), .inr (7, [.ref (aT 1), .ref (aT 2), .ref (aT 3), .ref (aT 4), .int T_size])), ((aT 4), .inl (cI, 40, .inl T_depth))] → va_S A s.heap H locs → ∀ (ls : Array Slot), lv_has ls 3 [(0, .ref (aT 0)), (1, .int x1), (2, .int x2)] → W p l e rm_X7_beside s m args below meth c H locs 0 0 Q (F0 m 4 ls []) := by
  obtain ⟨⟨hx, hb, hml, hown, hts⟩, hr, hlocks⟩ := id C0
  intro n
  induction n with
  | zero =>
    intro x1 x2 hm
    exact absurd hm (by intro h; cases h)
  | succ n ih =>
    intro x1 x2 hm H locs hP hD hS ls hl
    have hm : (if T_size ≤ x2 then (some x2) else (gd x2 40 (gd x1 40 (if (T_depth x2.toNatClampNeg) ≤ (T_depth x1.toNatClampNeg) then (some x2) else (m_X7_beside_4 T_size T_depth n x1 (x2 + 1)))))) = some res := hm
    refine lv_iload_n hx hb dX7_beside_4 rfl (lv_at hl 2 rfl) ?_
    refine lv_aload_n hx hb dX7_beside_5 rfl (lv_at hl 0 rfl) ?_
    refine va_get (D := (dC, dI)) (ci := 7) (v := .int T_size) (C := RX7) (T := TX7) (N := 5) hx hb hts X7_beside_inX7 hown hK hP 0 rfl rfl 4 (by decide) (hts (.fieldLink RX7 24 "MixfixDesk$Tree" "size" "I") (by decide +kernel)) (fun _ h9 => h9) rfl dX7_beside_6 ?_
    refine lv_icmp_ge (tgt := 33) hx hb dX7_beside_9 (by decide) (fun c_1 => ?_) (fun c_1 => ?_)
    · have hm := it_some c_1 hm
      refine lv_iload_n hx hb dX7_beside_33 rfl (lv_at hl 2 rfl) ?_
      exact RET x2 hm _ H locs ls dX7_beside_34 hP hD hS
    · have hm := if_some' c_1 hm
      refine lv_aload_n hx hb dX7_beside_12 rfl (lv_at hl 0 rfl) ?_
      refine va_get (D := (dC, dI)) (ci := 7) (v := .ref (aT 4)) (C := RX7) (T := TX7) (N := 5) hx hb hts X7_beside_inX7 hown hK hP 0 rfl rfl 3 (by decide) (hts (.fieldLink RX7 21 "MixfixDesk$Tree" "depth" "[I") (by decide +kernel)) (fun _ h9 => h9) rfl dX7_beside_13 ?_
      refine lv_iload_n hx hb dX7_beside_16 rfl (lv_at hl 2 rfl) ?_
      obtain ⟨hi_2, hm⟩ := gd_some hm
      refine va_iald (D := (dC, dI)) hx hb hK hP 1 0 rfl rfl hi_2 dX7_beside_17 ?_
      refine lv_aload_n hx hb dX7_beside_18 rfl (lv_at hl 0 rfl) ?_
      refine va_get (D := (dC, dI)) (ci := 7) (v := .ref (aT 4)) (C := RX7) (T := TX7) (N := 5) hx hb hts X7_beside_inX7 hown hK hP 0 rfl rfl 3 (by decide) (hts (.fieldLink RX7 21 "MixfixDesk$Tree" "depth" "[I") (by decide +kernel)) (fun _ h9 => h9) rfl dX7_beside_19 ?_
      refine lv_iload_n hx hb dX7_beside_22 rfl (lv_at hl 1 rfl) ?_
      obtain ⟨hi_3, hm⟩ := gd_some hm
      refine va_iald (D := (dC, dI)) hx hb hK hP 1 0 rfl rfl hi_3 dX7_beside_23 ?_
      refine lv_icmp_le (tgt := 33) hx hb dX7_beside_24 (by decide) (fun c_4 => ?_) (fun c_4 => ?_)
      · have hm := it_some c_4 hm
        refine lv_iload_n hx hb dX7_beside_33 rfl (lv_at hl 2 rfl) ?_
        exact RET x2 hm _ H locs ls dX7_beside_34 hP hD hS
      · have hm := if_some' c_4 hm
        refine lv_iinc (v := x2 + 1) (lv' := [(2, .int (x2 + 1)), (0, .ref (aT 0)), (1, .int x1)]) hx hb dX7_beside_27 hl (k := 2) rfl rfl (by decide) rfl (fun ls hl => ?_)
        refine lv_goto (tgt := 4) hx hb dX7_beside_30 (by decide) ?_
        exact ih x1 (x2 + 1) hm H locs hP hD hS ls (lv_sub hl [1, 2, 0] rfl)
set_option maxHeartbeats 4000000 in
set_option maxRecDepth 100000 in
theorem k_X7_beside_E {p : Program} {l : Launch} {e : Env} {s : State} {m : MethodId} {args : Array Value} {below : List Frame} {meth : Method} {c : Code} {Q : State → Prop} {dC : Nat → ClassId} {dI : Nat → Nat → Nat} {cI cJ cB cZ : ClassId} {A : Nat → Prop} (C0 : Cx p s m meth c args cX7_beside 3 (some .int) wsX7_beside RX7) (hK : va_K (dC, dI) vwCl [(cI, .int), (cJ, .long), (cB, .byte), (cZ, .boolean)] s) (hN : NW s) (hA : ∀ q, s.heap.size ≤ q → A q) (aT : Nat → Nat) (T_size : Int32) (T_depth : Nat → Int32) (res : Int32) (RET : RT_X7_beside p l e s m args below meth c Q dC dI cI cJ cB cZ A aT T_size T_depth res) : ∀ (p0 : Int32), m_X7_beside T_depth T_size p0 = some res → ∀ (H : Heap) (locs : List Loc), va_P (dC, dI) vwCl [((aT 0), .inr (7, [.ref (aT 1), .ref (aT 2), .ref (aT 3), .ref (aT 4), .int T_size])), ((aT 4), .inl (cI, 40, .inl T_depth))] H → va_D A [((aT 0), .inr (7, [.ref (aT 1), .ref (aT 2), .ref (aT 3), .ref (aT 4), .int T_size])), ((aT 4), .inl (cI, 40, .inl T_depth))] → va_S A s.heap H locs → ∀ (ls : Array Slot), lv_has ls 3 [(0, .ref (aT 0)), (1, .int p0)] → W p l e rm_X7_beside s m args below meth c H locs 0 0 Q (F0 m 0 ls []) := by
  obtain ⟨⟨hx, hb, hml, hown, hts⟩, hr, hlocks⟩ := id C0
  intro p0 hm H locs hP hD hS ls hl
  have hm : (m_X7_beside_4 T_size T_depth FU p0 (p0 + 1)) = some res := hm
  refine lv_iload_n hx hb dX7_beside_0 rfl (lv_at hl 1 rfl) ?_
  refine lv_iconst (v := 1) hx hb dX7_beside_1 (by decide) ?_
  refine lv_iadd hx hb dX7_beside_2 ?_
  refine lv_istore_n (lv' := [(2, .int (p0 + 1)), (0, .ref (aT 0)), (1, .int p0)]) hx hb dX7_beside_3 rfl hl (by decide) rfl (fun ls hl => ?_)
  exact k_X7_beside_4 C0 hK hN hA aT T_size T_depth res RET FU p0 (p0 + 1) hm H locs hP hD hS ls (lv_sub hl [1, 2, 0] rfl)
set_option maxHeartbeats 4000000 in
set_option maxRecDepth 100000 in
theorem c_X7_beside (l : Launch) (dC : Nat → ClassId) (dI : Nat → Nat → Nat) (cI cJ cB cZ : ClassId) (aT : Nat → Nat) (sz : Nat) (T_size : Int32) (T_depth : Nat → Int32) (p0 : Int32) (res : Int32) (hm : m_X7_beside T_depth T_size p0 = some res) : Met l yX7_beside wsX7_beside rm_X7_beside (cP (dC, dI) vwCl [(cI, .int), (cJ, .long), (cB, .byte), (cZ, .boolean)] [.ref (aT 0), .int p0] [((aT 0), .inr (7, [.ref (aT 1), .ref (aT 2), .ref (aT 3), .ref (aT 4), .int T_size])), ((aT 4), .inl (cI, 40, .inl T_depth))] sz) (cQi res (dC, dI) vwCl [((aT 0), .inr (7, [.ref (aT 1), .ref (aT 2), .ref (aT 3), .ref (aT 4), .int T_size])), ((aT 4), .inl (cI, 40, .inl T_depth))] [((aT 0), .inr (7, [.ref (aT 1), .ref (aT 2), .ref (aT 3), .ref (aT 4), .int T_size])), ((aT 4), .inl (cI, 40, .inl T_depth))] sz) 0 0 (va_A [((aT 0), .inr (7, [.ref (aT 1), .ref (aT 2), .ref (aT 3), .ref (aT 4), .int T_size])), ((aT 4), .inl (cI, 40, .inl T_depth))] sz) := by
  refine cx_of (cc := cX7_beside) (maxL := 3) (ret := (some .int)) (own := RX7) (by decide) rfl rfl (Nat.le_of_ble_eq_true rfl) ?_
  intro p e s m below meth c A C0 hinN hK hN hsz hAe hA hP hD hS ls hl
  refine k_X7_beside_E C0 hK hN hA aT T_size T_depth res ?_ p0 hm _ _ hP hD hS ls hl
  intro v he pc H locs ls hdg hP hD hS
  have he := Option.some.inj he
  subst he
  exact cx_reti C0 hsz hAe hdg hP hD hS

theorem dX7_empty_0 : decode cX7_empty 0 = .ok (.aload_n 0, 1) := by decide +kernel
theorem dX7_empty_1 : decode cX7_empty 1 = .ok (.iconst 0, 1) := by decide +kernel
theorem dX7_empty_2 : decode cX7_empty 2 = .ok (.putfield 24, 3) := by decide +kernel
theorem dX7_empty_5 : decode cX7_empty 5 = .ok (.return_, 1) := by decide +kernel
/-! MixfixDesk$Tree.empty()V -/
abbrev rm_X7_empty : Room := { frames := 0, cells := 0, slots := 0, locals := 0 }
theorem X7_empty_inX7 : ∀ w ∈ wsX70, w ∈ wsX7_empty := by decide +kernel
abbrev RT_X7_empty (p : Program) (l : Launch) (e : Env) (s : State) (m : MethodId) (args : Array Value) (below : List Frame) (meth : Method) (c : Code) (Q : State → Prop) (dC : Nat → ClassId) (dI : Nat → Nat → Nat) (cI cJ cB cZ : ClassId) (A : Nat → Prop) (aT : Nat → Nat) (res : Int32) : Prop := ∀ (T_size : Int32), some T_size = some res → ∀ (pc : Nat) (H : Heap) (locs : List Loc) (ls : Array Slot), decode cX7_empty pc = .ok (.return_, 1) → va_P (dC, dI) vwCl [((aT 0), .inr (7, [.ref (aT 1), .ref (aT 2), .ref (aT 3), .ref (aT 4), .int T_size]))] H → va_D A [((aT 0), .inr (7, [.ref (aT 1), .ref (aT 2), .ref (aT 3), .ref (aT 4), .int T_size]))] → va_S A s.heap H locs → W p l e rm_X7_empty s m args below meth c H locs 0 0 Q (F0 m pc ls [])
set_option maxHeartbeats 4000000 in
set_option maxRecDepth 100000 in
theorem k_X7_empty_E {p : Program} {l : Launch} {e : Env} {s : State} {m : MethodId} {args : Array Value} {below : List Frame} {meth : Method} {c : Code} {Q : State → Prop} {dC : Nat → ClassId} {dI : Nat → Nat → Nat} {cI cJ cB cZ : ClassId} {A : Nat → Prop} (C0 : Cx p s m meth c args cX7_empty 1 none wsX7_empty RX7) (hK : va_K (dC, dI) vwCl [(cI, .int), (cJ, .long), (cB, .byte), (cZ, .boolean)] s) (hN : NW s) (hA : ∀ q, s.heap.size ≤ q → A q) (aT : Nat → Nat) (res : Int32) (RET : RT_X7_empty p l e s m args below meth c Q dC dI cI cJ cB cZ A aT res) : ∀ (T_size : Int32), m_X7_empty T_size = some res → ∀ (H : Heap) (locs : List Loc), va_P (dC, dI) vwCl [((aT 0), .inr (7, [.ref (aT 1), .ref (aT 2), .ref (aT 3), .ref (aT 4), .int T_size]))] H → va_D A [((aT 0), .inr (7, [.ref (aT 1), .ref (aT 2), .ref (aT 3), .ref (aT 4), .int T_size]))] → va_S A s.heap H locs → ∀ (ls : Array Slot), lv_has ls 1 [(0, .ref (aT 0))] → W p l e rm_X7_empty s m args below meth c H locs 0 0 Q (F0 m 0 ls []) := by
  obtain ⟨⟨hx, hb, hml, hown, hts⟩, hr, hlocks⟩ := id C0
  intro T_size hm H locs hP hD hS ls hl
  have hm : (some 0) = some res := hm
  refine lv_aload_n hx hb dX7_empty_0 rfl (lv_at hl 0 rfl) ?_
  refine lv_iconst (v := 0) hx hb dX7_empty_1 (by decide) ?_
  refine va_put (D := (dC, dI)) (ci := 7) (v := .int 0) (ty := .int) (C := RX7) (T := TX7) (N := 5) hx hb hts X7_empty_inX7 tyX7 tyX7_ok nmX7 hown hK hP hD hS 0 rfl rfl 4 (by decide) (hts (.fieldLink RX7 24 "MixfixDesk$Tree" "size" "I") (by decide +kernel)) (fun _ h9 => h9) rfl (by decide +kernel) rfl rfl (Nat.le_of_ble_eq_true rfl) dX7_empty_2 (fun H locs hP hD hS => ?_)
  have hP : va_P (dC, dI) vwCl [((aT 0), .inr (7, [.ref (aT 1), .ref (aT 2), .ref (aT 3), .ref (aT 4), .int 0]))] H := hP
  have hD : va_D A [((aT 0), .inr (7, [.ref (aT 1), .ref (aT 2), .ref (aT 3), .ref (aT 4), .int 0]))] := hD
  exact RET 0 hm _ H locs ls dX7_empty_5 hP hD hS
set_option maxHeartbeats 4000000 in
set_option maxRecDepth 100000 in
theorem c_X7_empty (l : Launch) (dC : Nat → ClassId) (dI : Nat → Nat → Nat) (cI cJ cB cZ : ClassId) (aT : Nat → Nat) (sz : Nat) (T_size : Int32) (res : Int32) (hm : m_X7_empty T_size = some res) : Met l yX7_empty wsX7_empty rm_X7_empty (cP (dC, dI) vwCl [(cI, .int), (cJ, .long), (cB, .byte), (cZ, .boolean)] [.ref (aT 0)] [((aT 0), .inr (7, [.ref (aT 1), .ref (aT 2), .ref (aT 3), .ref (aT 4), .int T_size]))] sz) (cQv (dC, dI) vwCl [((aT 0), .inr (7, [.ref (aT 1), .ref (aT 2), .ref (aT 3), .ref (aT 4), .int res]))] [((aT 0), .inr (7, [.ref (aT 1), .ref (aT 2), .ref (aT 3), .ref (aT 4), .int T_size]))] sz) 0 0 (va_A [((aT 0), .inr (7, [.ref (aT 1), .ref (aT 2), .ref (aT 3), .ref (aT 4), .int T_size]))] sz) := by
  refine cx_of (cc := cX7_empty) (maxL := 1) (ret := none) (own := RX7) (by decide) rfl rfl (Nat.le_of_ble_eq_true rfl) ?_
  intro p e s m below meth c A C0 hinN hK hN hsz hAe hA hP hD hS ls hl
  refine k_X7_empty_E C0 hK hN hA aT res ?_ T_size hm _ _ hP hD hS ls hl
  intro T_size he pc H locs ls hdg hP hD hS
  have he := Option.some.inj he
  subst he
  exact cx_retv C0 hsz hAe hdg hP hD hS

theorem dX7_settle_0 : decode cX7_settle 0 = .ok (.aload_n 0, 1) := by decide +kernel
theorem dX7_settle_1 : decode cX7_settle 1 = .ok (.getfield 9, 3) := by decide +kernel
theorem dX7_settle_4 : decode cX7_settle 4 = .ok (.iload_n 1, 1) := by decide +kernel
theorem dX7_settle_5 : decode cX7_settle 5 = .ok (.iload_n 2, 1) := by decide +kernel
theorem dX7_settle_6 : decode cX7_settle 6 = .ok (.iastore, 1) := by decide +kernel
theorem dX7_settle_7 : decode cX7_settle 7 = .ok (.aload_n 0, 1) := by decide +kernel
theorem dX7_settle_8 : decode cX7_settle 8 = .ok (.getfield 18, 3) := by decide +kernel
theorem dX7_settle_11 : decode cX7_settle 11 = .ok (.iload_n 1, 1) := by decide +kernel
theorem dX7_settle_12 : decode cX7_settle 12 = .ok (.iload_n 3, 1) := by decide +kernel
theorem dX7_settle_13 : decode cX7_settle 13 = .ok (.iastore, 1) := by decide +kernel
theorem dX7_settle_14 : decode cX7_settle 14 = .ok (.return_, 1) := by decide +kernel
/-! MixfixDesk$Tree.settle(III)V -/
abbrev rm_X7_settle : Room := { frames := 0, cells := 0, slots := 0, locals := 0 }
theorem X7_settle_inX7 : ∀ w ∈ wsX70, w ∈ wsX7_settle := by decide +kernel
abbrev RT_X7_settle (p : Program) (l : Launch) (e : Env) (s : State) (m : MethodId) (args : Array Value) (below : List Frame) (meth : Method) (c : Code) (Q : State → Prop) (dC : Nat → ClassId) (dI : Nat → Nat → Nat) (cI cJ cB cZ : ClassId) (A : Nat → Prop) (aT : Nat → Nat) (T_size : Int32) (res : (Nat → Int32) × (Nat → Int32)) : Prop := ∀ (T_top : Nat → Int32) (T_end : Nat → Int32), some (T_top, T_end) = some res → ∀ (pc : Nat) (H : Heap) (locs : List Loc) (ls : Array Slot), decode cX7_settle pc = .ok (.return_, 1) → va_P (dC, dI) vwCl [((aT 0), .inr (7, [.ref (aT 1), .ref (aT 2), .ref (aT 3), .ref (aT 4), .int T_size])), ((aT 1), .inl (cI, 40, .inl T_top)), ((aT 3), .inl (cI, 40, .inl T_end))] H → va_D A [((aT 0), .inr (7, [.ref (aT 1), .ref (aT 2), .ref (aT 3), .ref (aT 4), .int T_size])), ((aT 1), .inl (cI, 40, .inl T_top)), ((aT 3), .inl (cI, 40, .inl T_end))] → va_S A s.heap H locs → W p l e rm_X7_settle s m args below meth c H locs 0 0 Q (F0 m pc ls [])
set_option maxHeartbeats 4000000 in
set_option maxRecDepth 100000 in
theorem k_X7_settle_E {p : Program} {l : Launch} {e : Env} {s : State} {m : MethodId} {args : Array Value} {below : List Frame} {meth : Method} {c : Code} {Q : State → Prop} {dC : Nat → ClassId} {dI : Nat → Nat → Nat} {cI cJ cB cZ : ClassId} {A : Nat → Prop} (C0 : Cx p s m meth c args cX7_settle 4 none wsX7_settle RX7) (hK : va_K (dC, dI) vwCl [(cI, .int), (cJ, .long), (cB, .byte), (cZ, .boolean)] s) (hN : NW s) (hA : ∀ q, s.heap.size ≤ q → A q) (aT : Nat → Nat) (T_size : Int32) (res : (Nat → Int32) × (Nat → Int32)) (RET : RT_X7_settle p l e s m args below meth c Q dC dI cI cJ cB cZ A aT T_size res) : ∀ (T_top : Nat → Int32) (T_end : Nat → Int32) (p0 : Int32) (p1 : Int32) (p2 : Int32), m_X7_settle T_top T_end p0 p1 p2 = some res → ∀ (H : Heap) (locs : List Loc), va_P (dC, dI) vwCl [((aT 0), .inr (7, [.ref (aT 1), .ref (aT 2), .ref (aT 3), .ref (aT 4), .int T_size])), ((aT 1), .inl (cI, 40, .inl T_top)), ((aT 3), .inl (cI, 40, .inl T_end))] H → va_D A [((aT 0), .inr (7, [.ref (aT 1), .ref (aT 2), .ref (aT 3), .ref (aT 4), .int T_size])), ((aT 1), .inl (cI, 40, .inl T_top)), ((aT 3), .inl (cI, 40, .inl T_end))] → va_S A s.heap H locs → ∀ (ls : Array Slot), lv_has ls 4 [(0, .ref (aT 0)), (1, .int p0), (2, .int p1), (3, .int p2)] → W p l e rm_X7_settle s m args below meth c H locs 0 0 Q (F0 m 0 ls []) := by
  obtain ⟨⟨hx, hb, hml, hown, hts⟩, hr, hlocks⟩ := id C0
  intro T_top T_end p0 p1 p2 hm H locs hP hD hS ls hl
  have hm : (gd p0 40 (gd p0 40 (some (upd T_top p0.toNatClampNeg p1, upd T_end p0.toNatClampNeg p2)))) = some res := hm
  refine lv_aload_n hx hb dX7_settle_0 rfl (lv_at hl 0 rfl) ?_
  refine va_get (D := (dC, dI)) (ci := 7) (v := .ref (aT 1)) (C := RX7) (T := TX7) (N := 5) hx hb hts X7_settle_inX7 hown hK hP 0 rfl rfl 0 (by decide) (hts (.fieldLink RX7 9 "MixfixDesk$Tree" "top" "[I") (by decide +kernel)) (fun _ h9 => h9) rfl dX7_settle_1 ?_
  refine lv_iload_n hx hb dX7_settle_4 rfl (lv_at hl 1 rfl) ?_
  refine lv_iload_n hx hb dX7_settle_5 rfl (lv_at hl 2 rfl) ?_
  obtain ⟨hi_1, hm⟩ := gd_some hm
  refine va_iast (D := (dC, dI)) hx hb hK hP hD hS 1 0 rfl rfl hi_1 dX7_settle_6 (fun H locs hP hD hS => ?_)
  have hP : va_P (dC, dI) vwCl [((aT 0), .inr (7, [.ref (aT 1), .ref (aT 2), .ref (aT 3), .ref (aT 4), .int T_size])), ((aT 1), .inl (cI, 40, .inl (upd T_top p0.toNatClampNeg p1))), ((aT 3), .inl (cI, 40, .inl T_end))] H := hP
  have hD : va_D A [((aT 0), .inr (7, [.ref (aT 1), .ref (aT 2), .ref (aT 3), .ref (aT 4), .int T_size])), ((aT 1), .inl (cI, 40, .inl (upd T_top p0.toNatClampNeg p1))), ((aT 3), .inl (cI, 40, .inl T_end))] := hD
  refine lv_aload_n hx hb dX7_settle_7 rfl (lv_at hl 0 rfl) ?_
  refine va_get (D := (dC, dI)) (ci := 7) (v := .ref (aT 3)) (C := RX7) (T := TX7) (N := 5) hx hb hts X7_settle_inX7 hown hK hP 0 rfl rfl 2 (by decide) (hts (.fieldLink RX7 18 "MixfixDesk$Tree" "end" "[I") (by decide +kernel)) (fun _ h9 => h9) rfl dX7_settle_8 ?_
  refine lv_iload_n hx hb dX7_settle_11 rfl (lv_at hl 1 rfl) ?_
  refine lv_iload_n hx hb dX7_settle_12 rfl (lv_at hl 3 rfl) ?_
  obtain ⟨hi_2, hm⟩ := gd_some hm
  refine va_iast (D := (dC, dI)) hx hb hK hP hD hS 2 0 rfl rfl hi_2 dX7_settle_13 (fun H locs hP hD hS => ?_)
  have hP : va_P (dC, dI) vwCl [((aT 0), .inr (7, [.ref (aT 1), .ref (aT 2), .ref (aT 3), .ref (aT 4), .int T_size])), ((aT 1), .inl (cI, 40, .inl (upd T_top p0.toNatClampNeg p1))), ((aT 3), .inl (cI, 40, .inl (upd T_end p0.toNatClampNeg p2)))] H := hP
  have hD : va_D A [((aT 0), .inr (7, [.ref (aT 1), .ref (aT 2), .ref (aT 3), .ref (aT 4), .int T_size])), ((aT 1), .inl (cI, 40, .inl (upd T_top p0.toNatClampNeg p1))), ((aT 3), .inl (cI, 40, .inl (upd T_end p0.toNatClampNeg p2)))] := hD
  exact RET (upd T_top p0.toNatClampNeg p1) (upd T_end p0.toNatClampNeg p2) hm _ H locs ls dX7_settle_14 hP hD hS
set_option maxHeartbeats 4000000 in
set_option maxRecDepth 100000 in
theorem c_X7_settle (l : Launch) (dC : Nat → ClassId) (dI : Nat → Nat → Nat) (cI cJ cB cZ : ClassId) (aT : Nat → Nat) (sz : Nat) (T_size : Int32) (T_top : Nat → Int32) (T_end : Nat → Int32) (p0 : Int32) (p1 : Int32) (p2 : Int32) (res : (Nat → Int32) × (Nat → Int32)) (hm : m_X7_settle T_top T_end p0 p1 p2 = some res) : Met l yX7_settle wsX7_settle rm_X7_settle (cP (dC, dI) vwCl [(cI, .int), (cJ, .long), (cB, .byte), (cZ, .boolean)] [.ref (aT 0), .int p0, .int p1, .int p2] [((aT 0), .inr (7, [.ref (aT 1), .ref (aT 2), .ref (aT 3), .ref (aT 4), .int T_size])), ((aT 1), .inl (cI, 40, .inl T_top)), ((aT 3), .inl (cI, 40, .inl T_end))] sz) (cQv (dC, dI) vwCl [((aT 0), .inr (7, [.ref (aT 1), .ref (aT 2), .ref (aT 3), .ref (aT 4), .int T_size])), ((aT 1), .inl (cI, 40, .inl res.1)), ((aT 3), .inl (cI, 40, .inl res.2))] [((aT 0), .inr (7, [.ref (aT 1), .ref (aT 2), .ref (aT 3), .ref (aT 4), .int T_size])), ((aT 1), .inl (cI, 40, .inl T_top)), ((aT 3), .inl (cI, 40, .inl T_end))] sz) 0 0 (va_A [((aT 0), .inr (7, [.ref (aT 1), .ref (aT 2), .ref (aT 3), .ref (aT 4), .int T_size])), ((aT 1), .inl (cI, 40, .inl T_top)), ((aT 3), .inl (cI, 40, .inl T_end))] sz) := by
  refine cx_of (cc := cX7_settle) (maxL := 4) (ret := none) (own := RX7) (by decide) rfl rfl (Nat.le_of_ble_eq_true rfl) ?_
  intro p e s m below meth c A C0 hinN hK hN hsz hAe hA hP hD hS ls hl
  refine k_X7_settle_E C0 hK hN hA aT T_size res ?_ T_top T_end p0 p1 p2 hm _ _ hP hD hS ls hl
  intro T_top T_end he pc H locs ls hdg hP hD hS
  have he := Option.some.inj he
  subst he
  exact cx_retv C0 hsz hAe hdg hP hD hS

theorem dX7_add_0 : decode cX7_add 0 = .ok (.aload_n 0, 1) := by decide +kernel
theorem dX7_add_1 : decode cX7_add 1 = .ok (.getfield 24, 3) := by decide +kernel
theorem dX7_add_4 : decode cX7_add 4 = .ok (.bipush 40, 2) := by decide +kernel
theorem dX7_add_6 : decode cX7_add 6 = .ok (.if_icmp .lt 5, 3) := by decide +kernel
theorem dX7_add_9 : decode cX7_add 9 = .ok (.iconst (-1), 1) := by decide +kernel
theorem dX7_add_10 : decode cX7_add 10 = .ok (.ireturn, 1) := by decide +kernel
theorem dX7_add_11 : decode cX7_add 11 = .ok (.aload_n 0, 1) := by decide +kernel
theorem dX7_add_12 : decode cX7_add 12 = .ok (.getfield 9, 3) := by decide +kernel
theorem dX7_add_15 : decode cX7_add 15 = .ok (.aload_n 0, 1) := by decide +kernel
theorem dX7_add_16 : decode cX7_add 16 = .ok (.getfield 24, 3) := by decide +kernel
theorem dX7_add_19 : decode cX7_add 19 = .ok (.iload_n 1, 1) := by decide +kernel
theorem dX7_add_20 : decode cX7_add 20 = .ok (.iastore, 1) := by decide +kernel
theorem dX7_add_21 : decode cX7_add 21 = .ok (.aload_n 0, 1) := by decide +kernel
theorem dX7_add_22 : decode cX7_add 22 = .ok (.getfield 15, 3) := by decide +kernel
theorem dX7_add_25 : decode cX7_add 25 = .ok (.aload_n 0, 1) := by decide +kernel
theorem dX7_add_26 : decode cX7_add 26 = .ok (.getfield 24, 3) := by decide +kernel
theorem dX7_add_29 : decode cX7_add 29 = .ok (.iload_n 2, 1) := by decide +kernel
theorem dX7_add_30 : decode cX7_add 30 = .ok (.iastore, 1) := by decide +kernel
theorem dX7_add_31 : decode cX7_add 31 = .ok (.aload_n 0, 1) := by decide +kernel
theorem dX7_add_32 : decode cX7_add 32 = .ok (.getfield 18, 3) := by decide +kernel
theorem dX7_add_35 : decode cX7_add 35 = .ok (.aload_n 0, 1) := by decide +kernel
theorem dX7_add_36 : decode cX7_add 36 = .ok (.getfield 24, 3) := by decide +kernel
theorem dX7_add_39 : decode cX7_add 39 = .ok (.iload_n 3, 1) := by decide +kernel
theorem dX7_add_40 : decode cX7_add 40 = .ok (.iastore, 1) := by decide +kernel
theorem dX7_add_41 : decode cX7_add 41 = .ok (.aload_n 0, 1) := by decide +kernel
theorem dX7_add_42 : decode cX7_add 42 = .ok (.getfield 21, 3) := by decide +kernel
theorem dX7_add_45 : decode cX7_add 45 = .ok (.aload_n 0, 1) := by decide +kernel
theorem dX7_add_46 : decode cX7_add 46 = .ok (.getfield 24, 3) := by decide +kernel
theorem dX7_add_49 : decode cX7_add 49 = .ok (.iload 4, 2) := by decide +kernel
theorem dX7_add_51 : decode cX7_add 51 = .ok (.iastore, 1) := by decide +kernel
theorem dX7_add_52 : decode cX7_add 52 = .ok (.aload_n 0, 1) := by decide +kernel
theorem dX7_add_53 : decode cX7_add 53 = .ok (.dup, 1) := by decide +kernel
theorem dX7_add_54 : decode cX7_add 54 = .ok (.getfield 24, 3) := by decide +kernel
theorem dX7_add_57 : decode cX7_add 57 = .ok (.iconst 1, 1) := by decide +kernel
theorem dX7_add_58 : decode cX7_add 58 = .ok (.iadd, 1) := by decide +kernel
theorem dX7_add_59 : decode cX7_add 59 = .ok (.putfield 24, 3) := by decide +kernel
theorem dX7_add_62 : decode cX7_add 62 = .ok (.aload_n 0, 1) := by decide +kernel
theorem dX7_add_63 : decode cX7_add 63 = .ok (.getfield 24, 3) := by decide +kernel
theorem dX7_add_66 : decode cX7_add 66 = .ok (.iconst 1, 1) := by decide +kernel
theorem dX7_add_67 : decode cX7_add 67 = .ok (.isub, 1) := by decide +kernel
theorem dX7_add_68 : decode cX7_add 68 = .ok (.ireturn, 1) := by decide +kernel
/-! MixfixDesk$Tree.add(IIII)I -/
abbrev rm_X7_add : Room := { frames := 0, cells := 0, slots := 0, locals := 0 }
theorem X7_add_inX7 : ∀ w ∈ wsX70, w ∈ wsX7_add := by decide +kernel
abbrev RT_X7_add (p : Program) (l : Launch) (e : Env) (s : State) (m : MethodId) (args : Array Value) (below : List Frame) (meth : Method) (c : Code) (Q : State → Prop) (dC : Nat → ClassId) (dI : Nat → Nat → Nat) (cI cJ cB cZ : ClassId) (A : Nat → Prop) (aT : Nat → Nat) (res : Int32 × (Nat → Int32) × (Nat → Int32) × (Nat → Int32) × (Nat → Int32) × Int32) : Prop := ∀ (v : Int32) (T_top : Nat → Int32) (T_first : Nat → Int32) (T_end : Nat → Int32) (T_depth : Nat → Int32) (T_size : Int32), some (v, T_top, T_first, T_end, T_depth, T_size) = some res → ∀ (pc : Nat) (H : Heap) (locs : List Loc) (ls : Array Slot), decode cX7_add pc = .ok (.ireturn, 1) → va_P (dC, dI) vwCl [((aT 0), .inr (7, [.ref (aT 1), .ref (aT 2), .ref (aT 3), .ref (aT 4), .int T_size])), ((aT 1), .inl (cI, 40, .inl T_top)), ((aT 2), .inl (cI, 40, .inl T_first)), ((aT 3), .inl (cI, 40, .inl T_end)), ((aT 4), .inl (cI, 40, .inl T_depth))] H → va_D A [((aT 0), .inr (7, [.ref (aT 1), .ref (aT 2), .ref (aT 3), .ref (aT 4), .int T_size])), ((aT 1), .inl (cI, 40, .inl T_top)), ((aT 2), .inl (cI, 40, .inl T_first)), ((aT 3), .inl (cI, 40, .inl T_end)), ((aT 4), .inl (cI, 40, .inl T_depth))] → va_S A s.heap H locs → W p l e rm_X7_add s m args below meth c H locs 0 0 Q (F0 m pc ls [.int v])
set_option maxHeartbeats 4000000 in
set_option maxRecDepth 100000 in
theorem k_X7_add_E {p : Program} {l : Launch} {e : Env} {s : State} {m : MethodId} {args : Array Value} {below : List Frame} {meth : Method} {c : Code} {Q : State → Prop} {dC : Nat → ClassId} {dI : Nat → Nat → Nat} {cI cJ cB cZ : ClassId} {A : Nat → Prop} (C0 : Cx p s m meth c args cX7_add 5 (some .int) wsX7_add RX7) (hK : va_K (dC, dI) vwCl [(cI, .int), (cJ, .long), (cB, .byte), (cZ, .boolean)] s) (hN : NW s) (hA : ∀ q, s.heap.size ≤ q → A q) (aT : Nat → Nat) (res : Int32 × (Nat → Int32) × (Nat → Int32) × (Nat → Int32) × (Nat → Int32) × Int32) (RET : RT_X7_add p l e s m args below meth c Q dC dI cI cJ cB cZ A aT res) : ∀ (T_top : Nat → Int32) (T_first : Nat → Int32) (T_end : Nat → Int32) (T_depth : Nat → Int32) (T_size : Int32) (p0 : Int32) (p1 : Int32) (p2 : Int32) (p3 : Int32), m_X7_add T_top T_first T_end T_depth T_size p0 p1 p2 p3 = some res → ∀ (H : Heap) (locs : List Loc), va_P (dC, dI) vwCl [((aT 0), .inr (7, [.ref (aT 1), .ref (aT 2), .ref (aT 3), .ref (aT 4), .int T_size])), ((aT 1), .inl (cI, 40, .inl T_top)), ((aT 2), .inl (cI, 40, .inl T_first)), ((aT 3), .inl (cI, 40, .inl T_end)), ((aT 4), .inl (cI, 40, .inl T_depth))] H → va_D A [((aT 0), .inr (7, [.ref (aT 1), .ref (aT 2), .ref (aT 3), .ref (aT 4), .int T_size])), ((aT 1), .inl (cI, 40, .inl T_top)), ((aT 2), .inl (cI, 40, .inl T_first)), ((aT 3), .inl (cI, 40, .inl T_end)), ((aT 4), .inl (cI, 40, .inl T_depth))] → va_S A s.heap H locs → ∀ (ls : Array Slot), lv_has ls 5 [(0, .ref (aT 0)), (1, .int p0), (2, .int p1), (3, .int p2), (4, .int p3)] → W p l e rm_X7_add s m args below meth c H locs 0 0 Q (F0 m 0 ls []) := by
  obtain ⟨⟨hx, hb, hml, hown, hts⟩, hr, hlocks⟩ := id C0
  intro T_top T_first T_end T_depth T_size p0 p1 p2 p3 hm H locs hP hD hS ls hl
  have hm : (if T_size < 40 then (gd T_size 40 (gd T_size 40 (gd T_size 40 (gd T_size 40 (some ((T_size + 1) - 1, upd T_top T_size.toNatClampNeg p0, upd T_first T_size.toNatClampNeg p1, upd T_end T_size.toNatClampNeg p2, upd T_depth T_size.toNatClampNeg p3, T_size + 1)))))) else (some ((-1), T_top, T_first, T_end, T_depth, T_size))) = some res := hm
  refine lv_aload_n hx hb dX7_add_0 rfl (lv_at hl 0 rfl) ?_
  refine va_get (D := (dC, dI)) (ci := 7) (v := .int T_size) (C := RX7) (T := TX7) (N := 5) hx hb hts X7_add_inX7 hown hK hP 0 rfl rfl 4 (by decide) (hts (.fieldLink RX7 24 "MixfixDesk$Tree" "size" "I") (by decide +kernel)) (fun _ h9 => h9) rfl dX7_add_1 ?_
  refine lv_bipush (v := 40) hx hb dX7_add_4 (by decide) ?_
  refine lv_icmp_lt (tgt := 11) hx hb dX7_add_6 (by decide) (fun c_1 => ?_) (fun c_1 => ?_)
  · have hm := it_some c_1 hm
    refine lv_aload_n hx hb dX7_add_11 rfl (lv_at hl 0 rfl) ?_
    refine va_get (D := (dC, dI)) (ci := 7) (v := .ref (aT 1)) (C := RX7) (T := TX7) (N := 5) hx hb hts X7_add_inX7 hown hK hP 0 rfl rfl 0 (by decide) (hts (.fieldLink RX7 9 "MixfixDesk$Tree" "top" "[I") (by decide +kernel)) (fun _ h9 => h9) rfl dX7_add_12 ?_
    refine lv_aload_n hx hb dX7_add_15 rfl (lv_at hl 0 rfl) ?_
    refine va_get (D := (dC, dI)) (ci := 7) (v := .int T_size) (C := RX7) (T := TX7) (N := 5) hx hb hts X7_add_inX7 hown hK hP 0 rfl rfl 4 (by decide) (hts (.fieldLink RX7 24 "MixfixDesk$Tree" "size" "I") (by decide +kernel)) (fun _ h9 => h9) rfl dX7_add_16 ?_
    refine lv_iload_n hx hb dX7_add_19 rfl (lv_at hl 1 rfl) ?_
    obtain ⟨hi_2, hm⟩ := gd_some hm
    refine va_iast (D := (dC, dI)) hx hb hK hP hD hS 1 0 rfl rfl hi_2 dX7_add_20 (fun H locs hP hD hS => ?_)
    have hP : va_P (dC, dI) vwCl [((aT 0), .inr (7, [.ref (aT 1), .ref (aT 2), .ref (aT 3), .ref (aT 4), .int T_size])), ((aT 1), .inl (cI, 40, .inl (upd T_top T_size.toNatClampNeg p0))), ((aT 2), .inl (cI, 40, .inl T_first)), ((aT 3), .inl (cI, 40, .inl T_end)), ((aT 4), .inl (cI, 40, .inl T_depth))] H := hP
    have hD : va_D A [((aT 0), .inr (7, [.ref (aT 1), .ref (aT 2), .ref (aT 3), .ref (aT 4), .int T_size])), ((aT 1), .inl (cI, 40, .inl (upd T_top T_size.toNatClampNeg p0))), ((aT 2), .inl (cI, 40, .inl T_first)), ((aT 3), .inl (cI, 40, .inl T_end)), ((aT 4), .inl (cI, 40, .inl T_depth))] := hD
    refine lv_aload_n hx hb dX7_add_21 rfl (lv_at hl 0 rfl) ?_
    refine va_get (D := (dC, dI)) (ci := 7) (v := .ref (aT 2)) (C := RX7) (T := TX7) (N := 5) hx hb hts X7_add_inX7 hown hK hP 0 rfl rfl 1 (by decide) (hts (.fieldLink RX7 15 "MixfixDesk$Tree" "first" "[I") (by decide +kernel)) (fun _ h9 => h9) rfl dX7_add_22 ?_
    refine lv_aload_n hx hb dX7_add_25 rfl (lv_at hl 0 rfl) ?_
    refine va_get (D := (dC, dI)) (ci := 7) (v := .int T_size) (C := RX7) (T := TX7) (N := 5) hx hb hts X7_add_inX7 hown hK hP 0 rfl rfl 4 (by decide) (hts (.fieldLink RX7 24 "MixfixDesk$Tree" "size" "I") (by decide +kernel)) (fun _ h9 => h9) rfl dX7_add_26 ?_
    refine lv_iload_n hx hb dX7_add_29 rfl (lv_at hl 2 rfl) ?_
    obtain ⟨hi_3, hm⟩ := gd_some hm
    refine va_iast (D := (dC, dI)) hx hb hK hP hD hS 2 0 rfl rfl hi_3 dX7_add_30 (fun H locs hP hD hS => ?_)
    have hP : va_P (dC, dI) vwCl [((aT 0), .inr (7, [.ref (aT 1), .ref (aT 2), .ref (aT 3), .ref (aT 4), .int T_size])), ((aT 1), .inl (cI, 40, .inl (upd T_top T_size.toNatClampNeg p0))), ((aT 2), .inl (cI, 40, .inl (upd T_first T_size.toNatClampNeg p1))), ((aT 3), .inl (cI, 40, .inl T_end)), ((aT 4), .inl (cI, 40, .inl T_depth))] H := hP
    have hD : va_D A [((aT 0), .inr (7, [.ref (aT 1), .ref (aT 2), .ref (aT 3), .ref (aT 4), .int T_size])), ((aT 1), .inl (cI, 40, .inl (upd T_top T_size.toNatClampNeg p0))), ((aT 2), .inl (cI, 40, .inl (upd T_first T_size.toNatClampNeg p1))), ((aT 3), .inl (cI, 40, .inl T_end)), ((aT 4), .inl (cI, 40, .inl T_depth))] := hD
    refine lv_aload_n hx hb dX7_add_31 rfl (lv_at hl 0 rfl) ?_
    refine va_get (D := (dC, dI)) (ci := 7) (v := .ref (aT 3)) (C := RX7) (T := TX7) (N := 5) hx hb hts X7_add_inX7 hown hK hP 0 rfl rfl 2 (by decide) (hts (.fieldLink RX7 18 "MixfixDesk$Tree" "end" "[I") (by decide +kernel)) (fun _ h9 => h9) rfl dX7_add_32 ?_
    refine lv_aload_n hx hb dX7_add_35 rfl (lv_at hl 0 rfl) ?_
    refine va_get (D := (dC, dI)) (ci := 7) (v := .int T_size) (C := RX7) (T := TX7) (N := 5) hx hb hts X7_add_inX7 hown hK hP 0 rfl rfl 4 (by decide) (hts (.fieldLink RX7 24 "MixfixDesk$Tree" "size" "I") (by decide +kernel)) (fun _ h9 => h9) rfl dX7_add_36 ?_
    refine lv_iload_n hx hb dX7_add_39 rfl (lv_at hl 3 rfl) ?_
    obtain ⟨hi_4, hm⟩ := gd_some hm
    refine va_iast (D := (dC, dI)) hx hb hK hP hD hS 3 0 rfl rfl hi_4 dX7_add_40 (fun H locs hP hD hS => ?_)
    have hP : va_P (dC, dI) vwCl [((aT 0), .inr (7, [.ref (aT 1), .ref (aT 2), .ref (aT 3), .ref (aT 4), .int T_size])), ((aT 1), .inl (cI, 40, .inl (upd T_top T_size.toNatClampNeg p0))), ((aT 2), .inl (cI, 40, .inl (upd T_first T_size.toNatClampNeg p1))), ((aT 3), .inl (cI, 40, .inl (upd T_end T_size.toNatClampNeg p2))), ((aT 4), .inl (cI, 40, .inl T_depth))] H := hP
    have hD : va_D A [((aT 0), .inr (7, [.ref (aT 1), .ref (aT 2), .ref (aT 3), .ref (aT 4), .int T_size])), ((aT 1), .inl (cI, 40, .inl (upd T_top T_size.toNatClampNeg p0))), ((aT 2), .inl (cI, 40, .inl (upd T_first T_size.toNatClampNeg p1))), ((aT 3), .inl (cI, 40, .inl (upd T_end T_size.toNatClampNeg p2))), ((aT 4), .inl (cI, 40, .inl T_depth))] := hD
    refine lv_aload_n hx hb dX7_add_41 rfl (lv_at hl 0 rfl) ?_
    refine va_get (D := (dC, dI)) (ci := 7) (v := .ref (aT 4)) (C := RX7) (T := TX7) (N := 5) hx hb hts X7_add_inX7 hown hK hP 0 rfl rfl 3 (by decide) (hts (.fieldLink RX7 21 "MixfixDesk$Tree" "depth" "[I") (by decide +kernel)) (fun _ h9 => h9) rfl dX7_add_42 ?_
    refine lv_aload_n hx hb dX7_add_45 rfl (lv_at hl 0 rfl) ?_
    refine va_get (D := (dC, dI)) (ci := 7) (v := .int T_size) (C := RX7) (T := TX7) (N := 5) hx hb hts X7_add_inX7 hown hK hP 0 rfl rfl 4 (by decide) (hts (.fieldLink RX7 24 "MixfixDesk$Tree" "size" "I") (by decide +kernel)) (fun _ h9 => h9) rfl dX7_add_46 ?_
    refine lv_iload hx hb dX7_add_49 (lv_at hl 4 rfl) ?_
    obtain ⟨hi_5, hm⟩ := gd_some hm
    refine va_iast (D := (dC, dI)) hx hb hK hP hD hS 4 0 rfl rfl hi_5 dX7_add_51 (fun H locs hP hD hS => ?_)
    have hP : va_P (dC, dI) vwCl [((aT 0), .inr (7, [.ref (aT 1), .ref (aT 2), .ref (aT 3), .ref (aT 4), .int T_size])), ((aT 1), .inl (cI, 40, .inl (upd T_top T_size.toNatClampNeg p0))), ((aT 2), .inl (cI, 40, .inl (upd T_first T_size.toNatClampNeg p1))), ((aT 3), .inl (cI, 40, .inl (upd T_end T_size.toNatClampNeg p2))), ((aT 4), .inl (cI, 40, .inl (upd T_depth T_size.toNatClampNeg p3)))] H := hP
    have hD : va_D A [((aT 0), .inr (7, [.ref (aT 1), .ref (aT 2), .ref (aT 3), .ref (aT 4), .int T_size])), ((aT 1), .inl (cI, 40, .inl (upd T_top T_size.toNatClampNeg p0))), ((aT 2), .inl (cI, 40, .inl (upd T_first T_size.toNatClampNeg p1))), ((aT 3), .inl (cI, 40, .inl (upd T_end T_size.toNatClampNeg p2))), ((aT 4), .inl (cI, 40, .inl (upd T_depth T_size.toNatClampNeg p3)))] := hD
    refine lv_aload_n hx hb dX7_add_52 rfl (lv_at hl 0 rfl) ?_
    refine lv_dup hx hb dX7_add_53 rfl ?_
    refine va_get (D := (dC, dI)) (ci := 7) (v := .int T_size) (C := RX7) (T := TX7) (N := 5) hx hb hts X7_add_inX7 hown hK hP 0 rfl rfl 4 (by decide) (hts (.fieldLink RX7 24 "MixfixDesk$Tree" "size" "I") (by decide +kernel)) (fun _ h9 => h9) rfl dX7_add_54 ?_
    refine lv_iconst (v := 1) hx hb dX7_add_57 (by decide) ?_
    refine lv_iadd hx hb dX7_add_58 ?_
    refine va_put (D := (dC, dI)) (ci := 7) (v := .int (T_size + 1)) (ty := .int) (C := RX7) (T := TX7) (N := 5) hx hb hts X7_add_inX7 tyX7 tyX7_ok nmX7 hown hK hP hD hS 0 rfl rfl 4 (by decide) (hts (.fieldLink RX7 24 "MixfixDesk$Tree" "size" "I") (by decide +kernel)) (fun _ h9 => h9) rfl (by decide +kernel) rfl rfl (Nat.le_of_ble_eq_true rfl) dX7_add_59 (fun H locs hP hD hS => ?_)
    have hP : va_P (dC, dI) vwCl [((aT 0), .inr (7, [.ref (aT 1), .ref (aT 2), .ref (aT 3), .ref (aT 4), .int (T_size + 1)])), ((aT 1), .inl (cI, 40, .inl (upd T_top T_size.toNatClampNeg p0))), ((aT 2), .inl (cI, 40, .inl (upd T_first T_size.toNatClampNeg p1))), ((aT 3), .inl (cI, 40, .inl (upd T_end T_size.toNatClampNeg p2))), ((aT 4), .inl (cI, 40, .inl (upd T_depth T_size.toNatClampNeg p3)))] H := hP
    have hD : va_D A [((aT 0), .inr (7, [.ref (aT 1), .ref (aT 2), .ref (aT 3), .ref (aT 4), .int (T_size + 1)])), ((aT 1), .inl (cI, 40, .inl (upd T_top T_size.toNatClampNeg p0))), ((aT 2), .inl (cI, 40, .inl (upd T_first T_size.toNatClampNeg p1))), ((aT 3), .inl (cI, 40, .inl (upd T_end T_size.toNatClampNeg p2))), ((aT 4), .inl (cI, 40, .inl (upd T_depth T_size.toNatClampNeg p3)))] := hD
    refine lv_aload_n hx hb dX7_add_62 rfl (lv_at hl 0 rfl) ?_
    refine va_get (D := (dC, dI)) (ci := 7) (v := .int (T_size + 1)) (C := RX7) (T := TX7) (N := 5) hx hb hts X7_add_inX7 hown hK hP 0 rfl rfl 4 (by decide) (hts (.fieldLink RX7 24 "MixfixDesk$Tree" "size" "I") (by decide +kernel)) (fun _ h9 => h9) rfl dX7_add_63 ?_
    refine lv_iconst (v := 1) hx hb dX7_add_66 (by decide) ?_
    refine lv_isub hx hb dX7_add_67 ?_
    exact RET ((T_size + 1) - 1) (upd T_top T_size.toNatClampNeg p0) (upd T_first T_size.toNatClampNeg p1) (upd T_end T_size.toNatClampNeg p2) (upd T_depth T_size.toNatClampNeg p3) (T_size + 1) hm _ H locs ls dX7_add_68 hP hD hS
  · have hm := if_some' c_1 hm
    refine lv_iconst (v := (-1)) hx hb dX7_add_9 (by decide) ?_
    exact RET (-1) T_top T_first T_end T_depth T_size hm _ H locs ls dX7_add_10 hP hD hS
set_option maxHeartbeats 4000000 in
set_option maxRecDepth 100000 in
theorem c_X7_add (l : Launch) (dC : Nat → ClassId) (dI : Nat → Nat → Nat) (cI cJ cB cZ : ClassId) (aT : Nat → Nat) (sz : Nat) (T_size : Int32) (T_top : Nat → Int32) (T_first : Nat → Int32) (T_end : Nat → Int32) (T_depth : Nat → Int32) (p0 : Int32) (p1 : Int32) (p2 : Int32) (p3 : Int32) (res : Int32 × (Nat → Int32) × (Nat → Int32) × (Nat → Int32) × (Nat → Int32) × Int32) (hm : m_X7_add T_top T_first T_end T_depth T_size p0 p1 p2 p3 = some res) : Met l yX7_add wsX7_add rm_X7_add (cP (dC, dI) vwCl [(cI, .int), (cJ, .long), (cB, .byte), (cZ, .boolean)] [.ref (aT 0), .int p0, .int p1, .int p2, .int p3] [((aT 0), .inr (7, [.ref (aT 1), .ref (aT 2), .ref (aT 3), .ref (aT 4), .int T_size])), ((aT 1), .inl (cI, 40, .inl T_top)), ((aT 2), .inl (cI, 40, .inl T_first)), ((aT 3), .inl (cI, 40, .inl T_end)), ((aT 4), .inl (cI, 40, .inl T_depth))] sz) (cQi res.1 (dC, dI) vwCl [((aT 0), .inr (7, [.ref (aT 1), .ref (aT 2), .ref (aT 3), .ref (aT 4), .int res.2.2.2.2.2])), ((aT 1), .inl (cI, 40, .inl res.2.1)), ((aT 2), .inl (cI, 40, .inl res.2.2.1)), ((aT 3), .inl (cI, 40, .inl res.2.2.2.1)), ((aT 4), .inl (cI, 40, .inl res.2.2.2.2.1))] [((aT 0), .inr (7, [.ref (aT 1), .ref (aT 2), .ref (aT 3), .ref (aT 4), .int T_size])), ((aT 1), .inl (cI, 40, .inl T_top)), ((aT 2), .inl (cI, 40, .inl T_first)), ((aT 3), .inl (cI, 40, .inl T_end)), ((aT 4), .inl (cI, 40, .inl T_depth))] sz) 0 0 (va_A [((aT 0), .inr (7, [.ref (aT 1), .ref (aT 2), .ref (aT 3), .ref (aT 4), .int T_size])), ((aT 1), .inl (cI, 40, .inl T_top)), ((aT 2), .inl (cI, 40, .inl T_first)), ((aT 3), .inl (cI, 40, .inl T_end)), ((aT 4), .inl (cI, 40, .inl T_depth))] sz) := by
  refine cx_of (cc := cX7_add) (maxL := 5) (ret := (some .int)) (own := RX7) (by decide) rfl rfl (Nat.le_of_ble_eq_true rfl) ?_
  intro p e s m below meth c A C0 hinN hK hN hsz hAe hA hP hD hS ls hl
  refine k_X7_add_E C0 hK hN hA aT res ?_ T_top T_first T_end T_depth T_size p0 p1 p2 p3 hm _ _ hP hD hS ls hl
  intro v T_top T_first T_end T_depth T_size he pc H locs ls hdg hP hD hS
  have he := Option.some.inj he
  subst he
  exact cx_reti C0 hsz hAe hdg hP hD hS

theorem dX7_depth_0 : decode cX7_depth 0 = .ok (.aload_n 0, 1) := by decide +kernel
theorem dX7_depth_1 : decode cX7_depth 1 = .ok (.getfield 21, 3) := by decide +kernel
theorem dX7_depth_4 : decode cX7_depth 4 = .ok (.iload_n 1, 1) := by decide +kernel
theorem dX7_depth_5 : decode cX7_depth 5 = .ok (.iaload, 1) := by decide +kernel
theorem dX7_depth_6 : decode cX7_depth 6 = .ok (.ireturn, 1) := by decide +kernel
/-! MixfixDesk$Tree.depth(I)I -/
abbrev rm_X7_depth : Room := { frames := 0, cells := 0, slots := 0, locals := 0 }
theorem X7_depth_inX7 : ∀ w ∈ wsX70, w ∈ wsX7_depth := by decide +kernel
abbrev RT_X7_depth (p : Program) (l : Launch) (e : Env) (s : State) (m : MethodId) (args : Array Value) (below : List Frame) (meth : Method) (c : Code) (Q : State → Prop) (dC : Nat → ClassId) (dI : Nat → Nat → Nat) (cI cJ cB cZ : ClassId) (A : Nat → Prop) (aT : Nat → Nat) (T_size : Int32) (T_depth : Nat → Int32) (res : Int32) : Prop := ∀ (v : Int32) , some v = some res → ∀ (pc : Nat) (H : Heap) (locs : List Loc) (ls : Array Slot), decode cX7_depth pc = .ok (.ireturn, 1) → va_P (dC, dI) vwCl [((aT 0), .inr (7, [.ref (aT 1), .ref (aT 2), .ref (aT 3), .ref (aT 4), .int T_size])), ((aT 4), .inl (cI, 40, .inl T_depth))] H → va_D A [((aT 0), .inr (7, [.ref (aT 1), .ref (aT 2), .ref (aT 3), .ref (aT 4), .int T_size])), ((aT 4), .inl (cI, 40, .inl T_depth))] → va_S A s.heap H locs → W p l e rm_X7_depth s m args below meth c H locs 0 0 Q (F0 m pc ls [.int v])
set_option maxHeartbeats 4000000 in
set_option maxRecDepth 100000 in
theorem k_X7_depth_E {p : Program} {l : Launch} {e : Env} {s : State} {m : MethodId} {args : Array Value} {below : List Frame} {meth : Method} {c : Code} {Q : State → Prop} {dC : Nat → ClassId} {dI : Nat → Nat → Nat} {cI cJ cB cZ : ClassId} {A : Nat → Prop} (C0 : Cx p s m meth c args cX7_depth 2 (some .int) wsX7_depth RX7) (hK : va_K (dC, dI) vwCl [(cI, .int), (cJ, .long), (cB, .byte), (cZ, .boolean)] s) (hN : NW s) (hA : ∀ q, s.heap.size ≤ q → A q) (aT : Nat → Nat) (T_size : Int32) (T_depth : Nat → Int32) (res : Int32) (RET : RT_X7_depth p l e s m args below meth c Q dC dI cI cJ cB cZ A aT T_size T_depth res) : ∀ (p0 : Int32), m_X7_depth T_depth p0 = some res → ∀ (H : Heap) (locs : List Loc), va_P (dC, dI) vwCl [((aT 0), .inr (7, [.ref (aT 1), .ref (aT 2), .ref (aT 3), .ref (aT 4), .int T_size])), ((aT 4), .inl (cI, 40, .inl T_depth))] H → va_D A [((aT 0), .inr (7, [.ref (aT 1), .ref (aT 2), .ref (aT 3), .ref (aT 4), .int T_size])), ((aT 4), .inl (cI, 40, .inl T_depth))] → va_S A s.heap H locs → ∀ (ls : Array Slot), lv_has ls 2 [(0, .ref (aT 0)), (1, .int p0)] → W p l e rm_X7_depth s m args below meth c H locs 0 0 Q (F0 m 0 ls []) := by
  obtain ⟨⟨hx, hb, hml, hown, hts⟩, hr, hlocks⟩ := id C0
  intro p0 hm H locs hP hD hS ls hl
  have hm : (gd p0 40 (some (T_depth p0.toNatClampNeg))) = some res := hm
  refine lv_aload_n hx hb dX7_depth_0 rfl (lv_at hl 0 rfl) ?_
  refine va_get (D := (dC, dI)) (ci := 7) (v := .ref (aT 4)) (C := RX7) (T := TX7) (N := 5) hx hb hts X7_depth_inX7 hown hK hP 0 rfl rfl 3 (by decide) (hts (.fieldLink RX7 21 "MixfixDesk$Tree" "depth" "[I") (by decide +kernel)) (fun _ h9 => h9) rfl dX7_depth_1 ?_
  refine lv_iload_n hx hb dX7_depth_4 rfl (lv_at hl 1 rfl) ?_
  obtain ⟨hi_1, hm⟩ := gd_some hm
  refine va_iald (D := (dC, dI)) hx hb hK hP 1 0 rfl rfl hi_1 dX7_depth_5 ?_
  exact RET (T_depth p0.toNatClampNeg) hm _ H locs ls dX7_depth_6 hP hD hS
set_option maxHeartbeats 4000000 in
set_option maxRecDepth 100000 in
theorem c_X7_depth (l : Launch) (dC : Nat → ClassId) (dI : Nat → Nat → Nat) (cI cJ cB cZ : ClassId) (aT : Nat → Nat) (sz : Nat) (T_size : Int32) (T_depth : Nat → Int32) (p0 : Int32) (res : Int32) (hm : m_X7_depth T_depth p0 = some res) : Met l yX7_depth wsX7_depth rm_X7_depth (cP (dC, dI) vwCl [(cI, .int), (cJ, .long), (cB, .byte), (cZ, .boolean)] [.ref (aT 0), .int p0] [((aT 0), .inr (7, [.ref (aT 1), .ref (aT 2), .ref (aT 3), .ref (aT 4), .int T_size])), ((aT 4), .inl (cI, 40, .inl T_depth))] sz) (cQi res (dC, dI) vwCl [((aT 0), .inr (7, [.ref (aT 1), .ref (aT 2), .ref (aT 3), .ref (aT 4), .int T_size])), ((aT 4), .inl (cI, 40, .inl T_depth))] [((aT 0), .inr (7, [.ref (aT 1), .ref (aT 2), .ref (aT 3), .ref (aT 4), .int T_size])), ((aT 4), .inl (cI, 40, .inl T_depth))] sz) 0 0 (va_A [((aT 0), .inr (7, [.ref (aT 1), .ref (aT 2), .ref (aT 3), .ref (aT 4), .int T_size])), ((aT 4), .inl (cI, 40, .inl T_depth))] sz) := by
  refine cx_of (cc := cX7_depth) (maxL := 2) (ret := (some .int)) (own := RX7) (by decide) rfl rfl (Nat.le_of_ble_eq_true rfl) ?_
  intro p e s m below meth c A C0 hinN hK hN hsz hAe hA hP hD hS ls hl
  refine k_X7_depth_E C0 hK hN hA aT T_size T_depth res ?_ p0 hm _ _ hP hD hS ls hl
  intro v he pc H locs ls hdg hP hD hS
  have he := Option.some.inj he
  subst he
  exact cx_reti C0 hsz hAe hdg hP hD hS

theorem dX7_operators_0 : decode cX7_operators 0 = .ok (.iconst 0, 1) := by decide +kernel
theorem dX7_operators_1 : decode cX7_operators 1 = .ok (.istore_n 1, 1) := by decide +kernel
theorem dX7_operators_2 : decode cX7_operators 2 = .ok (.iconst 0, 1) := by decide +kernel
theorem dX7_operators_3 : decode cX7_operators 3 = .ok (.istore_n 2, 1) := by decide +kernel
theorem dX7_operators_4 : decode cX7_operators 4 = .ok (.iload_n 2, 1) := by decide +kernel
theorem dX7_operators_5 : decode cX7_operators 5 = .ok (.aload_n 0, 1) := by decide +kernel
theorem dX7_operators_6 : decode cX7_operators 6 = .ok (.getfield 24, 3) := by decide +kernel
theorem dX7_operators_9 : decode cX7_operators 9 = .ok (.if_icmp .ge 22, 3) := by decide +kernel
theorem dX7_operators_12 : decode cX7_operators 12 = .ok (.aload_n 0, 1) := by decide +kernel
theorem dX7_operators_13 : decode cX7_operators 13 = .ok (.getfield 9, 3) := by decide +kernel
theorem dX7_operators_16 : decode cX7_operators 16 = .ok (.iload_n 2, 1) := by decide +kernel
theorem dX7_operators_17 : decode cX7_operators 17 = .ok (.iaload, 1) := by decide +kernel
theorem dX7_operators_18 : decode cX7_operators 18 = .ok (.iconst (-1), 1) := by decide +kernel
theorem dX7_operators_19 : decode cX7_operators 19 = .ok (.if_icmp .eq 6, 3) := by decide +kernel
theorem dX7_operators_22 : decode cX7_operators 22 = .ok (.iinc 1 1, 3) := by decide +kernel
theorem dX7_operators_25 : decode cX7_operators 25 = .ok (.iinc 2 1, 3) := by decide +kernel
theorem dX7_operators_28 : decode cX7_operators 28 = .ok (.goto (-24), 3) := by decide +kernel
theorem dX7_operators_31 : decode cX7_operators 31 = .ok (.iload_n 1, 1) := by decide +kernel
theorem dX7_operators_32 : decode cX7_operators 32 = .ok (.ireturn, 1) := by decide +kernel
/-! MixfixDesk$Tree.operators()I -/
abbrev rm_X7_operators : Room := { frames := 0, cells := 0, slots := 0, locals := 0 }
theorem X7_operators_inX7 : ∀ w ∈ wsX70, w ∈ wsX7_operators := by decide +kernel
abbrev RT_X7_operators (p : Program) (l : Launch) (e : Env) (s : State) (m : MethodId) (args : Array Value) (below : List Frame) (meth : Method) (c : Code) (Q : State → Prop) (dC : Nat → ClassId) (dI : Nat → Nat → Nat) (cI cJ cB cZ : ClassId) (A : Nat → Prop) (aT : Nat → Nat) (T_size : Int32) (T_top : Nat → Int32) (res : Int32) : Prop := ∀ (v : Int32) , some v = some res → ∀ (pc : Nat) (H : Heap) (locs : List Loc) (ls : Array Slot), decode cX7_operators pc = .ok (.ireturn, 1) → va_P (dC, dI) vwCl [((aT 0), .inr (7, [.ref (aT 1), .ref (aT 2), .ref (aT 3), .ref (aT 4), .int T_size])), ((aT 1), .inl (cI, 40, .inl T_top))] H → va_D A [((aT 0), .inr (7, [.ref (aT 1), .ref (aT 2), .ref (aT 3), .ref (aT 4), .int T_size])), ((aT 1), .inl (cI, 40, .inl T_top))] → va_S A s.heap H locs → W p l e rm_X7_operators s m args below meth c H locs 0 0 Q (F0 m pc ls [.int v])
set_option maxHeartbeats 4000000 in
set_option maxRecDepth 100000 in
theorem k_X7_operators_25 {p : Program} {l : Launch} {e : Env} {s : State} {m : MethodId} {args : Array Value} {below : List Frame} {meth : Method} {c : Code} {Q : State → Prop} {dC : Nat → ClassId} {dI : Nat → Nat → Nat} {cI cJ cB cZ : ClassId} {A : Nat → Prop} (C0 : Cx p s m meth c args cX7_operators 3 (some .int) wsX7_operators RX7) (hK : va_K (dC, dI) vwCl [(cI, .int), (cJ, .long), (cB, .byte), (cZ, .boolean)] s) (hN : NW s) (hA : ∀ q, s.heap.size ≤ q → A q) (aT : Nat → Nat) (T_size : Int32) (T_top : Nat → Int32) (res : Int32) (RET : RT_X7_operators p l e s m args below meth c Q dC dI cI cJ cB cZ A aT T_size T_top res) (k4 : Int32 → Int32 → Option (Int32)) (hk4 : ∀ (x1 : Int32) (x2 : Int32), k4 x1 x2 = some res → ∀ (H : Heap) (locs : List Loc), va_P (dC, dI) vwCl [((aT 0), .inr (7, [.ref (aT 1), .ref (aT 2), .ref (aT 3), .ref (aT 4), .int T_size])), ((aT 1), .inl (cI, 40, .inl T_top))] H → va_D A [((aT 0), .inr (7, [.ref (aT 1), .ref (aT 2), .ref (aT 3), .ref (aT 4), .int T_size])), ((aT 1), .inl (cI, 40, .inl T_top))] → va_S A s.heap H locs → ∀ (ls : Array Slot), lv_has ls 3 [(0, .ref (aT 0)), (1, .int x1), (2, .int x2)] → W p l e rm_X7_operators s m args below meth c H locs 0 0 Q (F0 m 4 ls [])) : ∀ (x1 : Int32) (x2 : Int32), m_X7_operators_25 T_size T_top k4 x1 x2 = some res → ∀ (H : Heap) (locs : List Loc), va_P (dC, dI) vwCl [((aT 0), .inr (7, [.ref (aT 1), .ref (aT 2), .ref (aT 3), .ref (aT 4), .int T_size])), ((aT 1), .inl (cI, 40, .inl T_top))] H → va_D A [((aT 0), .inr (7, [.ref (aT 1), .ref (aT 2), .ref (aT 3), .ref (aT 4), .int T_size])), ((aT 1), .inl (cI, 40, .inl T_top))] → va_S A s.heap H locs → ∀ (ls : Array Slot), lv_has ls 3 [(0, .ref (aT 0)), (1, .int x1), (2, .int x2)] → W p l e rm_X7_operators s m args below meth c H locs 0 0 Q (F0 m 25 ls []) := by
  obtain ⟨⟨hx, hb, hml, hown, hts⟩, hr, hlocks⟩ := id C0
  intro x1 x2 hm H locs hP hD hS ls hl
  have hm : (k4 x1 (x2 + 1)) = some res := hm
  refine lv_iinc (v := x2 + 1) (lv' := [(2, .int (x2 + 1)), (0, .ref (aT 0)), (1, .int x1)]) hx hb dX7_operators_25 hl (k := 2) rfl rfl (by decide) rfl (fun ls hl => ?_)
  refine lv_goto (tgt := 4) hx hb dX7_operators_28 (by decide) ?_
  exact hk4 x1 (x2 + 1) hm H locs hP hD hS ls (lv_sub hl [1, 2, 0] rfl)
set_option maxHeartbeats 4000000 in
set_option maxRecDepth 100000 in
theorem k_X7_operators_4 {p : Program} {l : Launch} {e : Env} {s : State} {m : MethodId} {args : Array Value} {below : List Frame} {meth : Method} {c : Code} {Q : State → Prop} {dC : Nat → ClassId} {dI : Nat → Nat → Nat} {cI cJ cB cZ : ClassId} {A : Nat → Prop} (C0 : Cx p s m meth c args cX7_operators 3 (some .int) wsX7_operators RX7) (hK : va_K (dC, dI) vwCl [(cI, .int), (cJ, .long), (cB, .byte), (cZ, .boolean)] s) (hN : NW s) (hA : ∀ q, s.heap.size ≤ q → A q) (aT : Nat → Nat) (T_size : Int32) (T_top : Nat → Int32) (res : Int32) (RET : RT_X7_operators p l e s m args below meth c Q dC dI cI cJ cB cZ A aT T_size T_top res)   : ∀ (n : Nat) (x1 : Int32) (x2 : Int32), m_X7_operators_4 T_size T_top n x1 x2 = some res → ∀ (H : Heap) (locs : List Loc), va_P (dC, dI) vwCl [((aT 0), .inr (7, [.ref (aT 1), .ref (aT 2), .ref (aT 3), .ref (aT 4), .int T_size])), ((aT 1), .inl (cI, 40, .inl T_top))] H → va_D A [((aT 0), .inr (7, [.ref (aT 1), .ref (aT 2), .ref (aT 3), .ref (aT 4), .int T_size])), ((aT 1), .inl (cI, 40, .inl T_top))] → va_S A s.heap H locs → ∀ (ls : Array Slot), lv_has ls 3 [(0, .ref (aT 0)), (1, .int x1), (2, .int x2)] → W p l e rm_X7_operators s m args below meth c H locs 0 0 Q (F0 m 4 ls []) := by
  obtain ⟨⟨hx, hb, hml, hown, hts⟩, hr, hlocks⟩ := id C0
  intro n
  induction n with
  | zero =>
    intro x1 x2 hm
    exact absurd hm (by intro h; cases h)
  | succ n ih =>
    intro x1 x2 hm H locs hP hD hS ls hl
    have hm : (if T_size ≤ x2 then (some x1) else (gd x2 40 (if (T_top x2.toNatClampNeg) = (-1) then (m_X7_operators_25 T_size T_top (m_X7_operators_4 T_size T_top n) x1 x2) else (m_X7_operators_25 T_size T_top (m_X7_operators_4 T_size T_top n) (x1 + 1) x2)))) = some res := hm
    refine lv_iload_n hx hb dX7_operators_4 rfl (lv_at hl 2 rfl) ?_
    refine lv_aload_n hx hb dX7_operators_5 rfl (lv_at hl 0 rfl) ?_
    refine va_get (D := (dC, dI)) (ci := 7) (v := .int T_size) (C := RX7) (T := TX7) (N := 5) hx hb hts X7_operators_inX7 hown hK hP 0 rfl rfl 4 (by decide) (hts (.fieldLink RX7 24 "MixfixDesk$Tree" "size" "I") (by decide +kernel)) (fun _ h9 => h9) rfl dX7_operators_6 ?_
    refine lv_icmp_ge (tgt := 31) hx hb dX7_operators_9 (by decide) (fun c_1 => ?_) (fun c_1 => ?_)
    · have hm := it_some c_1 hm
      refine lv_iload_n hx hb dX7_operators_31 rfl (lv_at hl 1 rfl) ?_
      exact RET x1 hm _ H locs ls dX7_operators_32 hP hD hS
    · have hm := if_some' c_1 hm
      refine lv_aload_n hx hb dX7_operators_12 rfl (lv_at hl 0 rfl) ?_
      refine va_get (D := (dC, dI)) (ci := 7) (v := .ref (aT 1)) (C := RX7) (T := TX7) (N := 5) hx hb hts X7_operators_inX7 hown hK hP 0 rfl rfl 0 (by decide) (hts (.fieldLink RX7 9 "MixfixDesk$Tree" "top" "[I") (by decide +kernel)) (fun _ h9 => h9) rfl dX7_operators_13 ?_
      refine lv_iload_n hx hb dX7_operators_16 rfl (lv_at hl 2 rfl) ?_
      obtain ⟨hi_2, hm⟩ := gd_some hm
      refine va_iald (D := (dC, dI)) hx hb hK hP 1 0 rfl rfl hi_2 dX7_operators_17 ?_
      refine lv_iconst (v := (-1)) hx hb dX7_operators_18 (by decide) ?_
      refine lv_icmp_eq (tgt := 25) hx hb dX7_operators_19 (by decide) (fun c_3 => ?_) (fun c_3 => ?_)
      · have hm := it_some c_3 hm
        exact k_X7_operators_25 C0 hK hN hA aT T_size T_top res RET (m_X7_operators_4 T_size T_top n) ih x1 x2 hm H locs hP hD hS ls hl
      · have hm := if_some' c_3 hm
        refine lv_iinc (v := x1 + 1) (lv' := [(1, .int (x1 + 1)), (0, .ref (aT 0)), (2, .int x2)]) hx hb dX7_operators_22 hl (k := 1) rfl rfl (by decide) rfl (fun ls hl => ?_)
        exact k_X7_operators_25 C0 hK hN hA aT T_size T_top res RET (m_X7_operators_4 T_size T_top n) ih (x1 + 1) x2 hm H locs hP hD hS ls (lv_sub hl [1, 0, 2] rfl)
set_option maxHeartbeats 4000000 in
set_option maxRecDepth 100000 in
theorem k_X7_operators_E {p : Program} {l : Launch} {e : Env} {s : State} {m : MethodId} {args : Array Value} {below : List Frame} {meth : Method} {c : Code} {Q : State → Prop} {dC : Nat → ClassId} {dI : Nat → Nat → Nat} {cI cJ cB cZ : ClassId} {A : Nat → Prop} (C0 : Cx p s m meth c args cX7_operators 3 (some .int) wsX7_operators RX7) (hK : va_K (dC, dI) vwCl [(cI, .int), (cJ, .long), (cB, .byte), (cZ, .boolean)] s) (hN : NW s) (hA : ∀ q, s.heap.size ≤ q → A q) (aT : Nat → Nat) (T_size : Int32) (T_top : Nat → Int32) (res : Int32) (RET : RT_X7_operators p l e s m args below meth c Q dC dI cI cJ cB cZ A aT T_size T_top res) : m_X7_operators T_top T_size = some res → ∀ (H : Heap) (locs : List Loc), va_P (dC, dI) vwCl [((aT 0), .inr (7, [.ref (aT 1), .ref (aT 2), .ref (aT 3), .ref (aT 4), .int T_size])), ((aT 1), .inl (cI, 40, .inl T_top))] H → va_D A [((aT 0), .inr (7, [.ref (aT 1), .ref (aT 2), .ref (aT 3), .ref (aT 4), .int T_size])), ((aT 1), .inl (cI, 40, .inl T_top))] → va_S A s.heap H locs → ∀ (ls : Array Slot), lv_has ls 3 [(0, .ref (aT 0))] → W p l e rm_X7_operators s m args below meth c H locs 0 0 Q (F0 m 0 ls []) := by
  obtain ⟨⟨hx, hb, hml, hown, hts⟩, hr, hlocks⟩ := id C0
  intro  hm H locs hP hD hS ls hl
  have hm : (m_X7_operators_4 T_size T_top FU 0 0) = some res := hm
  refine lv_iconst (v := 0) hx hb dX7_operators_0 (by decide) ?_
  refine lv_istore_n (lv' := [(1, .int 0), (0, .ref (aT 0))]) hx hb dX7_operators_1 rfl hl (by decide) rfl (fun ls hl => ?_)
  refine lv_iconst (v := 0) hx hb dX7_operators_2 (by decide) ?_
  refine lv_istore_n (lv' := [(2, .int 0), (1, .int 0), (0, .ref (aT 0))]) hx hb dX7_operators_3 rfl hl (by decide) rfl (fun ls hl => ?_)
  exact k_X7_operators_4 C0 hK hN hA aT T_size T_top res RET FU 0 0 hm H locs hP hD hS ls (lv_sub hl [2, 1, 0] rfl)
set_option maxHeartbeats 4000000 in
set_option maxRecDepth 100000 in
theorem c_X7_operators (l : Launch) (dC : Nat → ClassId) (dI : Nat → Nat → Nat) (cI cJ cB cZ : ClassId) (aT : Nat → Nat) (sz : Nat) (T_size : Int32) (T_top : Nat → Int32) (res : Int32) (hm : m_X7_operators T_top T_size = some res) : Met l yX7_operators wsX7_operators rm_X7_operators (cP (dC, dI) vwCl [(cI, .int), (cJ, .long), (cB, .byte), (cZ, .boolean)] [.ref (aT 0)] [((aT 0), .inr (7, [.ref (aT 1), .ref (aT 2), .ref (aT 3), .ref (aT 4), .int T_size])), ((aT 1), .inl (cI, 40, .inl T_top))] sz) (cQi res (dC, dI) vwCl [((aT 0), .inr (7, [.ref (aT 1), .ref (aT 2), .ref (aT 3), .ref (aT 4), .int T_size])), ((aT 1), .inl (cI, 40, .inl T_top))] [((aT 0), .inr (7, [.ref (aT 1), .ref (aT 2), .ref (aT 3), .ref (aT 4), .int T_size])), ((aT 1), .inl (cI, 40, .inl T_top))] sz) 0 0 (va_A [((aT 0), .inr (7, [.ref (aT 1), .ref (aT 2), .ref (aT 3), .ref (aT 4), .int T_size])), ((aT 1), .inl (cI, 40, .inl T_top))] sz) := by
  refine cx_of (cc := cX7_operators) (maxL := 3) (ret := (some .int)) (own := RX7) (by decide) rfl rfl (Nat.le_of_ble_eq_true rfl) ?_
  intro p e s m below meth c A C0 hinN hK hN hsz hAe hA hP hD hS ls hl
  refine k_X7_operators_E C0 hK hN hA aT T_size T_top res ?_  hm _ _ hP hD hS ls hl
  intro v he pc H locs ls hdg hP hD hS
  have he := Option.some.inj he
  subst he
  exact cx_reti C0 hsz hAe hdg hP hD hS

