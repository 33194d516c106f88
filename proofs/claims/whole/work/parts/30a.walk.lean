theorem dX8_times_0 : decode cX8_times 0 = .ok (.ldc2_w 242, 3) := by decide +kernel
theorem dX8_times_3 : decode cX8_times 3 = .ok (.iload_n 0, 1) := by decide +kernel
theorem dX8_times_4 : decode cX8_times 4 = .ok (.i2l, 1) := by decide +kernel
theorem dX8_times_5 : decode cX8_times 5 = .ok (.iload_n 1, 1) := by decide +kernel
theorem dX8_times_6 : decode cX8_times 6 = .ok (.i2l, 1) := by decide +kernel
theorem dX8_times_7 : decode cX8_times 7 = .ok (.lmul, 1) := by decide +kernel
theorem dX8_times_8 : decode cX8_times 8 = .ok (.invokestatic 244, 3) := by decide +kernel
theorem dX8_times_11 : decode cX8_times 11 = .ok (.l2i, 1) := by decide +kernel
theorem dX8_times_12 : decode cX8_times 12 = .ok (.ireturn, 1) := by decide +kernel
/-! MixfixDesk.times(II)I -/
abbrev rm_X8_times : Room := { frames := 1, cells := 0, slots := 0, locals := 23 }
abbrev RT_X8_times (p : Program) (l : Launch) (e : Env) (s : State) (m : MethodId) (args : Array Value) (below : List Frame) (meth : Method) (c : Code) (Q : State → Prop) (dC : Nat → ClassId) (dI : Nat → Nat → Nat) (cI cJ cB cZ : ClassId) (A : Nat → Prop)  (res : Int32) : Prop := ∀ (v : Int32) , some v = some res → ∀ (pc : Nat) (H : Heap) (locs : List Loc) (ls : Array Slot), decode cX8_times pc = .ok (.ireturn, 1) → va_P (dC, dI) vwCl [] H → va_D A [] → va_S A s.heap H locs → W p l e rm_X8_times s m args below meth c H locs 0 0 Q (F0 m pc ls [.int v])
set_option maxHeartbeats 4000000 in
set_option maxRecDepth 100000 in
theorem k_X8_times_E {p : Program} {l : Launch} {e : Env} {s : State} {m : MethodId} {args : Array Value} {below : List Frame} {meth : Method} {c : Code} {Q : State → Prop} {dC : Nat → ClassId} {dI : Nat → Nat → Nat} {cI cJ cB cZ : ClassId} {A : Nat → Prop} (C0 : Cx p s m meth c args cX8_times 2 (some .int) wsX8_times RX8) (hK : va_K (dC, dI) vwCl [(cI, .int), (cJ, .long), (cB, .byte), (cZ, .boolean)] s) (hN : NW s) (hA : ∀ q, s.heap.size ≤ q → A q)  (res : Int32) (RET : RT_X8_times p l e s m args below meth c Q dC dI cI cJ cB cZ A  res) : ∀ (p0 : Int32) (p1 : Int32), m_X8_times p0 p1 = some res → ∀ (H : Heap) (locs : List Loc), va_P (dC, dI) vwCl [] H → va_D A [] → va_S A s.heap H locs → ∀ (ls : Array Slot), lv_has ls 2 [(0, .int p0), (1, .int p1)] → W p l e rm_X8_times s m args below meth c H locs 0 0 Q (F0 m 0 ls []) := by
  obtain ⟨⟨hx, hb, hml, hown, hts⟩, hr, hlocks⟩ := id C0
  intro p0 p1 hm H locs hP hD hS ls hl
  have hm : (some ((if (p0.toInt64 * p1.toInt64) < 1000000000 then (p0.toInt64 * p1.toInt64) else 1000000000).toInt32)) = some res := hm
  refine lv_ldc2 (v := 1000000000) hx hb hown (hts (.constantLong RX8 242 (1000000000)) (by decide +kernel)) dX8_times_0 ?_
  refine lv_iload_n hx hb dX8_times_3 rfl (lv_at hl 0 rfl) ?_
  refine lv_i2l (v := p0.toInt64) hx hb dX8_times_4 rfl ?_
  refine lv_iload_n hx hb dX8_times_5 rfl (lv_at hl 1 rfl) ?_
  refine lv_i2l (v := p1.toInt64) hx hb dX8_times_6 rfl ?_
  refine lv_lmul hx hb dX8_times_7 ?_
  refine va_mmin_long hx hb (by rw [hml]; exact hl.1.symm) hown (hts (.methodLink RX8 244 Lib.MathLoose.min_long.x) (by decide +kernel)) (hts (.static Lib.MathLoose.min_long.x) (by decide +kernel)) (hts (.initialized "java/lang/Math") (by decide +kernel)) (hts (.code Lib.MathLoose.min_long.x Lib.MathLoose.min_long.code 4 (some .long)) (by decide +kernel)) (Nat.le_of_ble_eq_true rfl) (Nat.le_of_ble_eq_true rfl) (Nat.le_of_ble_eq_true rfl) (Nat.le_of_ble_eq_true rfl) dX8_times_8 ?_
  refine lv_l2i (v := (if (p0.toInt64 * p1.toInt64) < 1000000000 then (p0.toInt64 * p1.toInt64) else 1000000000).toInt32) hx hb dX8_times_11 rfl ?_
  exact RET ((if (p0.toInt64 * p1.toInt64) < 1000000000 then (p0.toInt64 * p1.toInt64) else 1000000000).toInt32) hm _ H locs ls dX8_times_12 hP hD hS
set_option maxHeartbeats 4000000 in
set_option maxRecDepth 100000 in
theorem c_X8_times (l : Launch) (dC : Nat → ClassId) (dI : Nat → Nat → Nat) (cI cJ cB cZ : ClassId) (sz : Nat) (p0 : Int32) (p1 : Int32) (res : Int32) (hm : m_X8_times p0 p1 = some res) : Met l yX8_times wsX8_times rm_X8_times (cP (dC, dI) vwCl [(cI, .int), (cJ, .long), (cB, .byte), (cZ, .boolean)] [.int p0, .int p1] [] sz) (cQi res (dC, dI) vwCl [] [] sz) 0 0 (va_A [] sz) := by
  refine cx_of (cc := cX8_times) (maxL := 2) (ret := (some .int)) (own := RX8) (by decide) rfl rfl (Nat.le_of_ble_eq_true rfl) ?_
  intro p e s m below meth c A C0 hinN hK hN hsz hAe hA hP hD hS ls hl
  refine k_X8_times_E C0 hK hN hA  res ?_ p0 p1 hm _ _ hP hD hS ls hl
  intro v he pc H locs ls hdg hP hD hS
  have he := Option.some.inj he
  subst he
  exact cx_reti C0 hsz hAe hdg hP hD hS

theorem dX8_plus_0 : decode cX8_plus 0 = .ok (.ldc 236, 2) := by decide +kernel
theorem dX8_plus_2 : decode cX8_plus 2 = .ok (.iload_n 0, 1) := by decide +kernel
theorem dX8_plus_3 : decode cX8_plus 3 = .ok (.iload_n 1, 1) := by decide +kernel
theorem dX8_plus_4 : decode cX8_plus 4 = .ok (.iadd, 1) := by decide +kernel
theorem dX8_plus_5 : decode cX8_plus 5 = .ok (.invokestatic 237, 3) := by decide +kernel
theorem dX8_plus_8 : decode cX8_plus 8 = .ok (.ireturn, 1) := by decide +kernel
/-! MixfixDesk.plus(II)I -/
abbrev rm_X8_plus : Room := { frames := 1, cells := 0, slots := 0, locals := 23 }
abbrev RT_X8_plus (p : Program) (l : Launch) (e : Env) (s : State) (m : MethodId) (args : Array Value) (below : List Frame) (meth : Method) (c : Code) (Q : State → Prop) (dC : Nat → ClassId) (dI : Nat → Nat → Nat) (cI cJ cB cZ : ClassId) (A : Nat → Prop)  (res : Int32) : Prop := ∀ (v : Int32) , some v = some res → ∀ (pc : Nat) (H : Heap) (locs : List Loc) (ls : Array Slot), decode cX8_plus pc = .ok (.ireturn, 1) → va_P (dC, dI) vwCl [] H → va_D A [] → va_S A s.heap H locs → W p l e rm_X8_plus s m args below meth c H locs 0 0 Q (F0 m pc ls [.int v])
set_option maxHeartbeats 4000000 in
set_option maxRecDepth 100000 in
theorem k_X8_plus_E {p : Program} {l : Launch} {e : Env} {s : State} {m : MethodId} {args : Array Value} {below : List Frame} {meth : Method} {c : Code} {Q : State → Prop} {dC : Nat → ClassId} {dI : Nat → Nat → Nat} {cI cJ cB cZ : ClassId} {A : Nat → Prop} (C0 : Cx p s m meth c args cX8_plus 2 (some .int) wsX8_plus RX8) (hK : va_K (dC, dI) vwCl [(cI, .int), (cJ, .long), (cB, .byte), (cZ, .boolean)] s) (hN : NW s) (hA : ∀ q, s.heap.size ≤ q → A q)  (res : Int32) (RET : RT_X8_plus p l e s m args below meth c Q dC dI cI cJ cB cZ A  res) : ∀ (p0 : Int32) (p1 : Int32), m_X8_plus p0 p1 = some res → ∀ (H : Heap) (locs : List Loc), va_P (dC, dI) vwCl [] H → va_D A [] → va_S A s.heap H locs → ∀ (ls : Array Slot), lv_has ls 2 [(0, .int p0), (1, .int p1)] → W p l e rm_X8_plus s m args below meth c H locs 0 0 Q (F0 m 0 ls []) := by
  obtain ⟨⟨hx, hb, hml, hown, hts⟩, hr, hlocks⟩ := id C0
  intro p0 p1 hm H locs hP hD hS ls hl
  have hm : (some (if (p0 + p1) < 1000000000 then (p0 + p1) else 1000000000)) = some res := hm
  refine lv_ldc (v := 1000000000) hx hb hown (hts (.constant RX8 236 (1000000000)) (by decide +kernel)) dX8_plus_0 ?_
  refine lv_iload_n hx hb dX8_plus_2 rfl (lv_at hl 0 rfl) ?_
  refine lv_iload_n hx hb dX8_plus_3 rfl (lv_at hl 1 rfl) ?_
  refine lv_iadd hx hb dX8_plus_4 ?_
  refine va_mmin hx hb (by rw [hml]; exact hl.1.symm) hown (hts (.methodLink RX8 237 Lib.Math.min.name) (by decide +kernel)) (hts (.static Lib.Math.min.name) (by decide +kernel)) (hts (.initialized "java/lang/Math") (by decide +kernel)) (hts (.code Lib.Math.min.name Lib.Math.min.code 2 (some .int)) (by decide +kernel)) (Nat.le_of_ble_eq_true rfl) (Nat.le_of_ble_eq_true rfl) (Nat.le_of_ble_eq_true rfl) (Nat.le_of_ble_eq_true rfl) dX8_plus_5 ?_
  exact RET (if (p0 + p1) < 1000000000 then (p0 + p1) else 1000000000) hm _ H locs ls dX8_plus_8 hP hD hS
set_option maxHeartbeats 4000000 in
set_option maxRecDepth 100000 in
theorem c_X8_plus (l : Launch) (dC : Nat → ClassId) (dI : Nat → Nat → Nat) (cI cJ cB cZ : ClassId) (sz : Nat) (p0 : Int32) (p1 : Int32) (res : Int32) (hm : m_X8_plus p0 p1 = some res) : Met l yX8_plus wsX8_plus rm_X8_plus (cP (dC, dI) vwCl [(cI, .int), (cJ, .long), (cB, .byte), (cZ, .boolean)] [.int p0, .int p1] [] sz) (cQi res (dC, dI) vwCl [] [] sz) 0 0 (va_A [] sz) := by
  refine cx_of (cc := cX8_plus) (maxL := 2) (ret := (some .int)) (own := RX8) (by decide) rfl rfl (Nat.le_of_ble_eq_true rfl) ?_
  intro p e s m below meth c A C0 hinN hK hN hsz hAe hA hP hD hS ls hl
  refine k_X8_plus_E C0 hK hN hA  res ?_ p0 p1 hm _ _ hP hD hS ls hl
  intro v he pc H locs ls hdg hP hD hS
  have he := Option.some.inj he
  subst he
  exact cx_reti C0 hsz hAe hdg hP hD hS

theorem dX8_hasBit_0 : decode cX8_hasBit 0 = .ok (.iload_n 0, 1) := by decide +kernel
theorem dX8_hasBit_1 : decode cX8_hasBit 1 = .ok (.iload_n 1, 1) := by decide +kernel
theorem dX8_hasBit_2 : decode cX8_hasBit 2 = .ok (.ishr, 1) := by decide +kernel
theorem dX8_hasBit_3 : decode cX8_hasBit 3 = .ok (.iconst 1, 1) := by decide +kernel
theorem dX8_hasBit_4 : decode cX8_hasBit 4 = .ok (.iand, 1) := by decide +kernel
theorem dX8_hasBit_5 : decode cX8_hasBit 5 = .ok (.ifCond .eq 7, 3) := by decide +kernel
theorem dX8_hasBit_8 : decode cX8_hasBit 8 = .ok (.iconst 1, 1) := by decide +kernel
theorem dX8_hasBit_9 : decode cX8_hasBit 9 = .ok (.goto 4, 3) := by decide +kernel
theorem dX8_hasBit_12 : decode cX8_hasBit 12 = .ok (.iconst 0, 1) := by decide +kernel
theorem dX8_hasBit_13 : decode cX8_hasBit 13 = .ok (.ireturn, 1) := by decide +kernel
/-! MixfixDesk.hasBit(II)Z -/
abbrev rm_X8_hasBit : Room := { frames := 0, cells := 0, slots := 0, locals := 0 }
abbrev RT_X8_hasBit (p : Program) (l : Launch) (e : Env) (s : State) (m : MethodId) (args : Array Value) (below : List Frame) (meth : Method) (c : Code) (Q : State → Prop) (dC : Nat → ClassId) (dI : Nat → Nat → Nat) (cI cJ cB cZ : ClassId) (A : Nat → Prop)  (res : Int32) : Prop := ∀ (v : Int32) , some v = some res → narrow .boolean (.int v) = .int v → ∀ (pc : Nat) (H : Heap) (locs : List Loc) (ls : Array Slot), decode cX8_hasBit pc = .ok (.ireturn, 1) → va_P (dC, dI) vwCl [] H → va_D A [] → va_S A s.heap H locs → W p l e rm_X8_hasBit s m args below meth c H locs 0 0 Q (F0 m pc ls [.int v])
set_option maxHeartbeats 4000000 in
set_option maxRecDepth 100000 in
theorem k_X8_hasBit_E {p : Program} {l : Launch} {e : Env} {s : State} {m : MethodId} {args : Array Value} {below : List Frame} {meth : Method} {c : Code} {Q : State → Prop} {dC : Nat → ClassId} {dI : Nat → Nat → Nat} {cI cJ cB cZ : ClassId} {A : Nat → Prop} (C0 : Cx p s m meth c args cX8_hasBit 2 (some .boolean) wsX8_hasBit RX8) (hK : va_K (dC, dI) vwCl [(cI, .int), (cJ, .long), (cB, .byte), (cZ, .boolean)] s) (hN : NW s) (hA : ∀ q, s.heap.size ≤ q → A q)  (res : Int32) (RET : RT_X8_hasBit p l e s m args below meth c Q dC dI cI cJ cB cZ A  res) : ∀ (p0 : Int32) (p1 : Int32), m_X8_hasBit p0 p1 = some res → ∀ (H : Heap) (locs : List Loc), va_P (dC, dI) vwCl [] H → va_D A [] → va_S A s.heap H locs → ∀ (ls : Array Slot), lv_has ls 2 [(0, .int p0), (1, .int p1)] → W p l e rm_X8_hasBit s m args below meth c H locs 0 0 Q (F0 m 0 ls []) := by
  obtain ⟨⟨hx, hb, hml, hown, hts⟩, hr, hlocks⟩ := id C0
  intro p0 p1 hm H locs hP hD hS ls hl
  have hm : (if ((p0 >>> (p1 &&& 31)) &&& 1) = 0 then (some 0) else (some 1)) = some res := hm
  refine lv_iload_n hx hb dX8_hasBit_0 rfl (lv_at hl 0 rfl) ?_
  refine lv_iload_n hx hb dX8_hasBit_1 rfl (lv_at hl 1 rfl) ?_
  refine lv_ishr hx hb dX8_hasBit_2 ?_
  refine lv_iconst (v := 1) hx hb dX8_hasBit_3 (by decide) ?_
  refine lv_iand hx hb dX8_hasBit_4 ?_
  refine lv_if_eq (tgt := 12) hx hb dX8_hasBit_5 (by decide) (fun c_1 => ?_) (fun c_1 => ?_)
  · have hm := it_some c_1 hm
    refine lv_iconst (v := 0) hx hb dX8_hasBit_12 (by decide) ?_
    exact RET 0 hm rfl _ H locs ls dX8_hasBit_13 hP hD hS
  · have hm := if_some' c_1 hm
    refine lv_iconst (v := 1) hx hb dX8_hasBit_8 (by decide) ?_
    refine lv_goto (tgt := 13) hx hb dX8_hasBit_9 (by decide) ?_
    exact RET 1 hm rfl _ H locs ls dX8_hasBit_13 hP hD hS
set_option maxHeartbeats 4000000 in
set_option maxRecDepth 100000 in
theorem c_X8_hasBit (l : Launch) (dC : Nat → ClassId) (dI : Nat → Nat → Nat) (cI cJ cB cZ : ClassId) (sz : Nat) (p0 : Int32) (p1 : Int32) (res : Int32) (hm : m_X8_hasBit p0 p1 = some res) : Met l yX8_hasBit wsX8_hasBit rm_X8_hasBit (cP (dC, dI) vwCl [(cI, .int), (cJ, .long), (cB, .byte), (cZ, .boolean)] [.int p0, .int p1] [] sz) (cQi res (dC, dI) vwCl [] [] sz) 0 0 (va_A [] sz) := by
  refine cx_of (cc := cX8_hasBit) (maxL := 2) (ret := (some .boolean)) (own := RX8) (by decide) rfl rfl (Nat.le_of_ble_eq_true rfl) ?_
  intro p e s m below meth c A C0 hinN hK hN hsz hAe hA hP hD hS ls hl
  refine k_X8_hasBit_E C0 hK hN hA  res ?_ p0 p1 hm _ _ hP hD hS ls hl
  intro v he hn pc H locs ls hdg hP hD hS
  have he := Option.some.inj he
  subst he
  exact cx_retz C0 hn hsz hAe hdg hP hD hS

theorem dJ7_fill_53178_0 : decode cJ7_fill_53178 0 = .ok (.iconst 0, 1) := by decide +kernel
theorem dJ7_fill_53178_1 : decode cJ7_fill_53178 1 = .ok (.istore_n 2, 1) := by decide +kernel
theorem dJ7_fill_53178_2 : decode cJ7_fill_53178 2 = .ok (.aload_n 0, 1) := by decide +kernel
theorem dJ7_fill_53178_3 : decode cJ7_fill_53178 3 = .ok (.arraylength, 1) := by decide +kernel
theorem dJ7_fill_53178_4 : decode cJ7_fill_53178 4 = .ok (.istore_n 3, 1) := by decide +kernel
theorem dJ7_fill_53178_5 : decode cJ7_fill_53178 5 = .ok (.iload_n 2, 1) := by decide +kernel
theorem dJ7_fill_53178_6 : decode cJ7_fill_53178 6 = .ok (.iload_n 3, 1) := by decide +kernel
theorem dJ7_fill_53178_7 : decode cJ7_fill_53178 7 = .ok (.if_icmp .ge 13, 3) := by decide +kernel
theorem dJ7_fill_53178_10 : decode cJ7_fill_53178 10 = .ok (.aload_n 0, 1) := by decide +kernel
theorem dJ7_fill_53178_11 : decode cJ7_fill_53178 11 = .ok (.iload_n 2, 1) := by decide +kernel
theorem dJ7_fill_53178_12 : decode cJ7_fill_53178 12 = .ok (.iload_n 1, 1) := by decide +kernel
theorem dJ7_fill_53178_13 : decode cJ7_fill_53178 13 = .ok (.iastore, 1) := by decide +kernel
theorem dJ7_fill_53178_14 : decode cJ7_fill_53178 14 = .ok (.iinc 2 1, 3) := by decide +kernel
theorem dJ7_fill_53178_17 : decode cJ7_fill_53178 17 = .ok (.goto (-12), 3) := by decide +kernel
theorem dJ7_fill_53178_20 : decode cJ7_fill_53178 20 = .ok (.return_, 1) := by decide +kernel
/-! java/util/Arrays.fill([II)V -/
abbrev rm_J7_fill_53178 : Room := { frames := 0, cells := 0, slots := 0, locals := 0 }
abbrev RT_J7_fill_53178 (p : Program) (l : Launch) (e : Env) (s : State) (m : MethodId) (args : Array Value) (below : List Frame) (meth : Method) (c : Code) (Q : State → Prop) (dC : Nat → ClassId) (dI : Nat → Nat → Nat) (cI cJ cB cZ : ClassId) (A : Nat → Prop) (a_row : Nat) (n_row : Nat) (res : (Nat → Int32)) : Prop := ∀ (row : Nat → Int32), some row = some res → ∀ (pc : Nat) (H : Heap) (locs : List Loc) (ls : Array Slot), decode cJ7_fill_53178 pc = .ok (.return_, 1) → va_P (dC, dI) vwCl [(a_row, .inl (cI, n_row, .inl row))] H → va_D A [(a_row, .inl (cI, n_row, .inl row))] → va_S A s.heap H locs → W p l e rm_J7_fill_53178 s m args below meth c H locs 0 0 Q (F0 m pc ls [])
set_option maxHeartbeats 4000000 in
set_option maxRecDepth 100000 in
theorem k_J7_fill_53178_5 {p : Program} {l : Launch} {e : Env} {s : State} {m : MethodId} {args : Array Value} {below : List Frame} {meth : Method} {c : Code} {Q : State → Prop} {dC : Nat → ClassId} {dI : Nat → Nat → Nat} {cI cJ cB cZ : ClassId} {A : Nat → Prop} (C0 : Cx p s m meth c args cJ7_fill_53178 4 none wsJ7_fill_53178 RJ7) (hK : va_K (dC, dI) vwCl [(cI, .int), (cJ, .long), (cB, .byte), (cZ, .boolean)] s) (hN : NW s) (hA : ∀ q, s.heap.size ≤ q → A q) (a_row : Nat) (n_row : Nat) (res : (Nat → Int32)) (RET : RT_J7_fill_53178 p l e s m args below meth c Q dC dI cI cJ cB cZ A a_row n_row res)   : ∀ (n : Nat) (row : Nat → Int32) (x1 : Int32) (x2 : Int32) (x3 : Int32), m_J7_fill_53178_5 n_row n row x1 x2 x3 = some res → ∀ (H : Heap) (locs : List Loc), va_P (dC, dI) vwCl [(a_row, .inl (cI, n_row, .inl row))] H → va_D A [(a_row, .inl (cI, n_row, .inl row))] → va_S A s.heap H locs → ∀ (ls : Array Slot), lv_has ls 4 [(0, .ref a_row), (1, .int x1), (2, .int x2), (3, .int x3)] → W p l e rm_J7_fill_53178 s m args below meth c H locs 0 0 Q (F0 m 5 ls []) := by
  obtain ⟨⟨hx, hb, hml, hown, hts⟩, hr, hlocks⟩ := id C0
  intro n
  induction n with
  | zero =>
    intro row x1 x2 x3 hm
    exact absurd hm (by intro h; cases h)
  | succ n ih =>
    intro row x1 x2 x3 hm H locs hP hD hS ls hl
    have hm : (if x3 ≤ x2 then (some row) else (gd x2 n_row (m_J7_fill_53178_5 n_row n (upd row x2.toNatClampNeg x1) x1 (x2 + 1) x3))) = some res := hm
    refine lv_iload_n hx hb dJ7_fill_53178_5 rfl (lv_at hl 2 rfl) ?_
    refine lv_iload_n hx hb dJ7_fill_53178_6 rfl (lv_at hl 3 rfl) ?_
    refine lv_icmp_ge (tgt := 20) hx hb dJ7_fill_53178_7 (by decide) (fun c_1 => ?_) (fun c_1 => ?_)
    · have hm := it_some c_1 hm
      exact RET row hm _ H locs ls dJ7_fill_53178_20 hP hD hS
    · have hm := if_some' c_1 hm
      refine lv_aload_n hx hb dJ7_fill_53178_10 rfl (lv_at hl 0 rfl) ?_
      refine lv_iload_n hx hb dJ7_fill_53178_11 rfl (lv_at hl 2 rfl) ?_
      refine lv_iload_n hx hb dJ7_fill_53178_12 rfl (lv_at hl 1 rfl) ?_
      obtain ⟨hi_2, hm⟩ := gd_some hm
      refine va_iast (D := (dC, dI)) hx hb hK hP hD hS 0 0 rfl rfl hi_2 dJ7_fill_53178_13 (fun H locs hP hD hS => ?_)
      have hP : va_P (dC, dI) vwCl [(a_row, .inl (cI, n_row, .inl (upd row x2.toNatClampNeg x1)))] H := hP
      have hD : va_D A [(a_row, .inl (cI, n_row, .inl (upd row x2.toNatClampNeg x1)))] := hD
      refine lv_iinc (v := x2 + 1) (lv' := [(2, .int (x2 + 1)), (0, .ref a_row), (1, .int x1), (3, .int x3)]) hx hb dJ7_fill_53178_14 hl (k := 2) rfl rfl (by decide) rfl (fun ls hl => ?_)
      refine lv_goto (tgt := 5) hx hb dJ7_fill_53178_17 (by decide) ?_
      exact ih (upd row x2.toNatClampNeg x1) x1 (x2 + 1) x3 hm H locs hP hD hS ls (lv_sub hl [1, 2, 0, 3] rfl)
set_option maxHeartbeats 4000000 in
set_option maxRecDepth 100000 in
theorem k_J7_fill_53178_E {p : Program} {l : Launch} {e : Env} {s : State} {m : MethodId} {args : Array Value} {below : List Frame} {meth : Method} {c : Code} {Q : State → Prop} {dC : Nat → ClassId} {dI : Nat → Nat → Nat} {cI cJ cB cZ : ClassId} {A : Nat → Prop} (C0 : Cx p s m meth c args cJ7_fill_53178 4 none wsJ7_fill_53178 RJ7) (hK : va_K (dC, dI) vwCl [(cI, .int), (cJ, .long), (cB, .byte), (cZ, .boolean)] s) (hN : NW s) (hA : ∀ q, s.heap.size ≤ q → A q) (a_row : Nat) (n_row : Nat) (res : (Nat → Int32)) (RET : RT_J7_fill_53178 p l e s m args below meth c Q dC dI cI cJ cB cZ A a_row n_row res) : ∀ (row : Nat → Int32) (p1 : Int32), m_J7_fill_53178 n_row row p1 = some res → ∀ (H : Heap) (locs : List Loc), va_P (dC, dI) vwCl [(a_row, .inl (cI, n_row, .inl row))] H → va_D A [(a_row, .inl (cI, n_row, .inl row))] → va_S A s.heap H locs → ∀ (ls : Array Slot), lv_has ls 4 [(0, .ref a_row), (1, .int p1)] → W p l e rm_J7_fill_53178 s m args below meth c H locs 0 0 Q (F0 m 0 ls []) := by
  obtain ⟨⟨hx, hb, hml, hown, hts⟩, hr, hlocks⟩ := id C0
  intro row p1 hm H locs hP hD hS ls hl
  have hm : (m_J7_fill_53178_5 n_row FU row p1 0 (nI n_row)) = some res := hm
  refine lv_iconst (v := 0) hx hb dJ7_fill_53178_0 (by decide) ?_
  refine lv_istore_n (lv' := [(2, .int 0), (0, .ref a_row), (1, .int p1)]) hx hb dJ7_fill_53178_1 rfl hl (by decide) rfl (fun ls hl => ?_)
  refine lv_aload_n hx hb dJ7_fill_53178_2 rfl (lv_at hl 1 rfl) ?_
  refine va_alen (D := (dC, dI)) hx hb hK hP 0 0 rfl rfl (v := nI n_row) rfl dJ7_fill_53178_3 ?_
  refine lv_istore_n (lv' := [(3, .int (nI n_row)), (2, .int 0), (0, .ref a_row), (1, .int p1)]) hx hb dJ7_fill_53178_4 rfl hl (by decide) rfl (fun ls hl => ?_)
  exact k_J7_fill_53178_5 C0 hK hN hA a_row n_row res RET FU row p1 0 (nI n_row) hm H locs hP hD hS ls (lv_sub hl [2, 3, 1, 0] rfl)
set_option maxHeartbeats 4000000 in
set_option maxRecDepth 100000 in
theorem c_J7_fill_53178 (l : Launch) (dC : Nat → ClassId) (dI : Nat → Nat → Nat) (cI cJ cB cZ : ClassId) (a_row : Nat) (sz : Nat) (n_row : Nat) (row : Nat → Int32) (p1 : Int32) (res : (Nat → Int32)) (hm : m_J7_fill_53178 n_row row p1 = some res) : Met l yJ7_fill_53178 wsJ7_fill_53178 rm_J7_fill_53178 (cP (dC, dI) vwCl [(cI, .int), (cJ, .long), (cB, .byte), (cZ, .boolean)] [.ref a_row, .int p1] [(a_row, .inl (cI, n_row, .inl row))] sz) (cQv (dC, dI) vwCl [(a_row, .inl (cI, n_row, .inl res))] [(a_row, .inl (cI, n_row, .inl row))] sz) 0 0 (va_A [(a_row, .inl (cI, n_row, .inl row))] sz) := by
  refine cx_of (cc := cJ7_fill_53178) (maxL := 4) (ret := none) (own := RJ7) (by decide) rfl rfl (Nat.le_of_ble_eq_true rfl) ?_
  intro p e s m below meth c A C0 hinN hK hN hsz hAe hA hP hD hS ls hl
  refine k_J7_fill_53178_E C0 hK hN hA a_row n_row res ?_ row p1 hm _ _ hP hD hS ls hl
  intro row he pc H locs ls hdg hP hD hS
  have he := Option.some.inj he
  subst he
  exact cx_retv C0 hsz hAe hdg hP hD hS

theorem dX8_isOperatorRow_0 : decode cX8_isOperatorRow 0 = .ok (.iload_n 1, 1) := by decide +kernel
theorem dX8_isOperatorRow_1 : decode cX8_isOperatorRow 1 = .ok (.iconst 1, 1) := by decide +kernel
theorem dX8_isOperatorRow_2 : decode cX8_isOperatorRow 2 = .ok (.if_icmp .lt 9, 3) := by decide +kernel
theorem dX8_isOperatorRow_5 : decode cX8_isOperatorRow 5 = .ok (.iload_n 1, 1) := by decide +kernel
theorem dX8_isOperatorRow_6 : decode cX8_isOperatorRow 6 = .ok (.bipush 9, 2) := by decide +kernel
theorem dX8_isOperatorRow_8 : decode cX8_isOperatorRow 8 = .ok (.if_icmp .le 5, 3) := by decide +kernel
theorem dX8_isOperatorRow_11 : decode cX8_isOperatorRow 11 = .ok (.iconst 0, 1) := by decide +kernel
theorem dX8_isOperatorRow_12 : decode cX8_isOperatorRow 12 = .ok (.ireturn, 1) := by decide +kernel
theorem dX8_isOperatorRow_13 : decode cX8_isOperatorRow 13 = .ok (.iconst 0, 1) := by decide +kernel
theorem dX8_isOperatorRow_14 : decode cX8_isOperatorRow 14 = .ok (.istore_n 2, 1) := by decide +kernel
theorem dX8_isOperatorRow_15 : decode cX8_isOperatorRow 15 = .ok (.iconst 0, 1) := by decide +kernel
theorem dX8_isOperatorRow_16 : decode cX8_isOperatorRow 16 = .ok (.istore_n 3, 1) := by decide +kernel
theorem dX8_isOperatorRow_17 : decode cX8_isOperatorRow 17 = .ok (.iload_n 3, 1) := by decide +kernel
theorem dX8_isOperatorRow_18 : decode cX8_isOperatorRow 18 = .ok (.iload_n 1, 1) := by decide +kernel
theorem dX8_isOperatorRow_19 : decode cX8_isOperatorRow 19 = .ok (.if_icmp .ge 42, 3) := by decide +kernel
theorem dX8_isOperatorRow_22 : decode cX8_isOperatorRow 22 = .ok (.aload_n 0, 1) := by decide +kernel
theorem dX8_isOperatorRow_23 : decode cX8_isOperatorRow 23 = .ok (.iload_n 3, 1) := by decide +kernel
theorem dX8_isOperatorRow_24 : decode cX8_isOperatorRow 24 = .ok (.laload, 1) := by decide +kernel
theorem dX8_isOperatorRow_25 : decode cX8_isOperatorRow 25 = .ok (.ldc2_w 234, 3) := by decide +kernel
theorem dX8_isOperatorRow_28 : decode cX8_isOperatorRow 28 = .ok (.lcmp, 1) := by decide +kernel
theorem dX8_isOperatorRow_29 : decode cX8_isOperatorRow 29 = .ok (.ifCond .eq 8, 3) := by decide +kernel
theorem dX8_isOperatorRow_32 : decode cX8_isOperatorRow 32 = .ok (.iconst 1, 1) := by decide +kernel
theorem dX8_isOperatorRow_33 : decode cX8_isOperatorRow 33 = .ok (.istore_n 2, 1) := by decide +kernel
theorem dX8_isOperatorRow_34 : decode cX8_isOperatorRow 34 = .ok (.goto 21, 3) := by decide +kernel
theorem dX8_isOperatorRow_37 : decode cX8_isOperatorRow 37 = .ok (.iload_n 3, 1) := by decide +kernel
theorem dX8_isOperatorRow_38 : decode cX8_isOperatorRow 38 = .ok (.ifCond .le 17, 3) := by decide +kernel
theorem dX8_isOperatorRow_41 : decode cX8_isOperatorRow 41 = .ok (.aload_n 0, 1) := by decide +kernel
theorem dX8_isOperatorRow_42 : decode cX8_isOperatorRow 42 = .ok (.iload_n 3, 1) := by decide +kernel
theorem dX8_isOperatorRow_43 : decode cX8_isOperatorRow 43 = .ok (.iconst 1, 1) := by decide +kernel
theorem dX8_isOperatorRow_44 : decode cX8_isOperatorRow 44 = .ok (.isub, 1) := by decide +kernel
theorem dX8_isOperatorRow_45 : decode cX8_isOperatorRow 45 = .ok (.laload, 1) := by decide +kernel
theorem dX8_isOperatorRow_46 : decode cX8_isOperatorRow 46 = .ok (.ldc2_w 234, 3) := by decide +kernel
theorem dX8_isOperatorRow_49 : decode cX8_isOperatorRow 49 = .ok (.lcmp, 1) := by decide +kernel
theorem dX8_isOperatorRow_50 : decode cX8_isOperatorRow 50 = .ok (.ifCond .ne 5, 3) := by decide +kernel
theorem dX8_isOperatorRow_53 : decode cX8_isOperatorRow 53 = .ok (.iconst 0, 1) := by decide +kernel
theorem dX8_isOperatorRow_54 : decode cX8_isOperatorRow 54 = .ok (.ireturn, 1) := by decide +kernel
theorem dX8_isOperatorRow_55 : decode cX8_isOperatorRow 55 = .ok (.iinc 3 1, 3) := by decide +kernel
theorem dX8_isOperatorRow_58 : decode cX8_isOperatorRow 58 = .ok (.goto (-41), 3) := by decide +kernel
theorem dX8_isOperatorRow_61 : decode cX8_isOperatorRow 61 = .ok (.iload_n 2, 1) := by decide +kernel
theorem dX8_isOperatorRow_62 : decode cX8_isOperatorRow 62 = .ok (.ireturn, 1) := by decide +kernel
/-! MixfixDesk.isOperatorRow([JI)Z -/
abbrev rm_X8_isOperatorRow : Room := { frames := 0, cells := 0, slots := 0, locals := 0 }
abbrev RT_X8_isOperatorRow (p : Program) (l : Launch) (e : Env) (s : State) (m : MethodId) (args : Array Value) (below : List Frame) (meth : Method) (c : Code) (Q : State → Prop) (dC : Nat → ClassId) (dI : Nat → Nat → Nat) (cI cJ cB cZ : ClassId) (A : Nat → Prop) (a_row : Nat) (n_row : Nat) (row : Nat → Int64) (res : Int32) : Prop := ∀ (v : Int32) , some v = some res → narrow .boolean (.int v) = .int v → ∀ (pc : Nat) (H : Heap) (locs : List Loc) (ls : Array Slot), decode cX8_isOperatorRow pc = .ok (.ireturn, 1) → va_P (dC, dI) vwCl [(a_row, .inl (cJ, n_row, .inr (.inl row)))] H → va_D A [(a_row, .inl (cJ, n_row, .inr (.inl row)))] → va_S A s.heap H locs → W p l e rm_X8_isOperatorRow s m args below meth c H locs 0 0 Q (F0 m pc ls [.int v])
set_option maxHeartbeats 4000000 in
set_option maxRecDepth 100000 in
theorem k_X8_isOperatorRow_55 {p : Program} {l : Launch} {e : Env} {s : State} {m : MethodId} {args : Array Value} {below : List Frame} {meth : Method} {c : Code} {Q : State → Prop} {dC : Nat → ClassId} {dI : Nat → Nat → Nat} {cI cJ cB cZ : ClassId} {A : Nat → Prop} (C0 : Cx p s m meth c args cX8_isOperatorRow 4 (some .boolean) wsX8_isOperatorRow RX8) (hK : va_K (dC, dI) vwCl [(cI, .int), (cJ, .long), (cB, .byte), (cZ, .boolean)] s) (hN : NW s) (hA : ∀ q, s.heap.size ≤ q → A q) (a_row : Nat) (n_row : Nat) (row : Nat → Int64) (res : Int32) (RET : RT_X8_isOperatorRow p l e s m args below meth c Q dC dI cI cJ cB cZ A a_row n_row row res) (k17 : Int32 → Int32 → Int32 → Option (Int32)) (hk17 : ∀ (x1 : Int32) (x2 : Int32) (x3 : Int32), k17 x1 x2 x3 = some res → ∀ (H : Heap) (locs : List Loc), va_P (dC, dI) vwCl [(a_row, .inl (cJ, n_row, .inr (.inl row)))] H → va_D A [(a_row, .inl (cJ, n_row, .inr (.inl row)))] → va_S A s.heap H locs → ∀ (ls : Array Slot), lv_has ls 4 [(0, .ref a_row), (1, .int x1), (2, .int x2), (3, .int x3)] → W p l e rm_X8_isOperatorRow s m args below meth c H locs 0 0 Q (F0 m 17 ls [])) : ∀ (x1 : Int32) (x2 : Int32) (x3 : Int32), m_X8_isOperatorRow_55 n_row row k17 x1 x2 x3 = some res → ∀ (H : Heap) (locs : List Loc), va_P (dC, dI) vwCl [(a_row, .inl (cJ, n_row, .inr (.inl row)))] H → va_D A [(a_row, .inl (cJ, n_row, .inr (.inl row)))] → va_S A s.heap H locs → ∀ (ls : Array Slot), lv_has ls 4 [(0, .ref a_row), (1, .int x1), (2, .int x2), (3, .int x3)] → W p l e rm_X8_isOperatorRow s m args below meth c H locs 0 0 Q (F0 m 55 ls []) := by
  obtain ⟨⟨hx, hb, hml, hown, hts⟩, hr, hlocks⟩ := id C0
  intro x1 x2 x3 hm H locs hP hD hS ls hl
  have hm : (k17 x1 x2 (x3 + 1)) = some res := hm
  refine lv_iinc (v := x3 + 1) (lv' := [(3, .int (x3 + 1)), (0, .ref a_row), (1, .int x1), (2, .int x2)]) hx hb dX8_isOperatorRow_55 hl (k := 3) rfl rfl (by decide) rfl (fun ls hl => ?_)
  refine lv_goto (tgt := 17) hx hb dX8_isOperatorRow_58 (by decide) ?_
  exact hk17 x1 x2 (x3 + 1) hm H locs hP hD hS ls (lv_sub hl [1, 2, 3, 0] rfl)
set_option maxHeartbeats 4000000 in
set_option maxRecDepth 100000 in
theorem k_X8_isOperatorRow_17 {p : Program} {l : Launch} {e : Env} {s : State} {m : MethodId} {args : Array Value} {below : List Frame} {meth : Method} {c : Code} {Q : State → Prop} {dC : Nat → ClassId} {dI : Nat → Nat → Nat} {cI cJ cB cZ : ClassId} {A : Nat → Prop} (C0 : Cx p s m meth c args cX8_isOperatorRow 4 (some .boolean) wsX8_isOperatorRow RX8) (hK : va_K (dC, dI) vwCl [(cI, .int), (cJ, .long), (cB, .byte), (cZ, .boolean)] s) (hN : NW s) (hA : ∀ q, s.heap.size ≤ q → A q) (a_row : Nat) (n_row : Nat) (row : Nat → Int64) (res : Int32) (RET : RT_X8_isOperatorRow p l e s m args below meth c Q dC dI cI cJ cB cZ A a_row n_row row res)   : ∀ (n : Nat) (x1 : Int32) (x2 : Int32) (x3 : Int32), m_X8_isOperatorRow_17 n_row row n x1 x2 x3 = some res → ∀ (H : Heap) (locs : List Loc), va_P (dC, dI) vwCl [(a_row, .inl (cJ, n_row, .inr (.inl row)))] H → va_D A [(a_row, .inl (cJ, n_row, .inr (.inl row)))] → va_S A s.heap H locs → ∀ (ls : Array Slot), lv_has ls 4 [(0, .ref a_row), (1, .int x1), (2, .int x2), (3, .int x3)] → W p l e rm_X8_isOperatorRow s m args below meth c H locs 0 0 Q (F0 m 17 ls []) := by
  obtain ⟨⟨hx, hb, hml, hown, hts⟩, hr, hlocks⟩ := id C0
  intro n
  induction n with
  | zero =>
    intro x1 x2 x3 hm
    exact absurd hm (by intro h; cases h)
  | succ n ih =>
    intro x1 x2 x3 hm H locs hP hD hS ls hl
    have hm : (if x1 ≤ x3 then (gb x2 (some x2)) else (gd x3 n_row (if (lg_cmp (row x3.toNatClampNeg) 95) = 0 then (if x3 ≤ 0 then (m_X8_isOperatorRow_55 n_row row (m_X8_isOperatorRow_17 n_row row n) x1 x2 x3) else (gd (x3 - 1) n_row (if (lg_cmp (row (x3 - 1).toNatClampNeg) 95) = 0 then (some 0) else (m_X8_isOperatorRow_55 n_row row (m_X8_isOperatorRow_17 n_row row n) x1 x2 x3)))) else (m_X8_isOperatorRow_55 n_row row (m_X8_isOperatorRow_17 n_row row n) x1 1 x3)))) = some res := hm
    refine lv_iload_n hx hb dX8_isOperatorRow_17 rfl (lv_at hl 3 rfl) ?_
    refine lv_iload_n hx hb dX8_isOperatorRow_18 rfl (lv_at hl 1 rfl) ?_
    refine lv_icmp_ge (tgt := 61) hx hb dX8_isOperatorRow_19 (by decide) (fun c_1 => ?_) (fun c_1 => ?_)
    · have hm := it_some c_1 hm
      refine lv_iload_n hx hb dX8_isOperatorRow_61 rfl (lv_at hl 2 rfl) ?_
      obtain ⟨hg_2, hm⟩ := gb_some hm
      exact RET x2 hm hg_2 _ H locs ls dX8_isOperatorRow_62 hP hD hS
    · have hm := if_some' c_1 hm
      refine lv_aload_n hx hb dX8_isOperatorRow_22 rfl (lv_at hl 0 rfl) ?_
      refine lv_iload_n hx hb dX8_isOperatorRow_23 rfl (lv_at hl 3 rfl) ?_
      obtain ⟨hi_3, hm⟩ := gd_some hm
      refine va_lald (D := (dC, dI)) hx hb hK hP 0 1 rfl rfl hi_3 dX8_isOperatorRow_24 ?_
      refine lv_ldc2 (v := 95) hx hb hown (hts (.constantLong RX8 234 (95)) (by decide +kernel)) dX8_isOperatorRow_25 ?_
      refine W.lcmp hx hb dX8_isOperatorRow_28 ?_
      refine lv_if_eq (tgt := 37) hx hb dX8_isOperatorRow_29 (by decide) (fun c_4 => ?_) (fun c_4 => ?_)
      · have hm := it_some c_4 hm
        refine lv_iload_n hx hb dX8_isOperatorRow_37 rfl (lv_at hl 3 rfl) ?_
        refine lv_if_le (tgt := 55) hx hb dX8_isOperatorRow_38 (by decide) (fun c_5 => ?_) (fun c_5 => ?_)
        · have hm := it_some c_5 hm
          exact k_X8_isOperatorRow_55 C0 hK hN hA a_row n_row row res RET (m_X8_isOperatorRow_17 n_row row n) ih x1 x2 x3 hm H locs hP hD hS ls hl
        · have hm := if_some' c_5 hm
          refine lv_aload_n hx hb dX8_isOperatorRow_41 rfl (lv_at hl 0 rfl) ?_
          refine lv_iload_n hx hb dX8_isOperatorRow_42 rfl (lv_at hl 3 rfl) ?_
          refine lv_iconst (v := 1) hx hb dX8_isOperatorRow_43 (by decide) ?_
          refine lv_isub hx hb dX8_isOperatorRow_44 ?_
          obtain ⟨hi_6, hm⟩ := gd_some hm
          refine va_lald (D := (dC, dI)) hx hb hK hP 0 1 rfl rfl hi_6 dX8_isOperatorRow_45 ?_
          refine lv_ldc2 (v := 95) hx hb hown (hts (.constantLong RX8 234 (95)) (by decide +kernel)) dX8_isOperatorRow_46 ?_
          refine W.lcmp hx hb dX8_isOperatorRow_49 ?_
          refine lv_if_ne (tgt := 55) hx hb dX8_isOperatorRow_50 (by decide) (fun c_7 => ?_) (fun c_7 => ?_)
          · have hm := if_some' c_7 hm
            exact k_X8_isOperatorRow_55 C0 hK hN hA a_row n_row row res RET (m_X8_isOperatorRow_17 n_row row n) ih x1 x2 x3 hm H locs hP hD hS ls hl
          · have hm := it_some c_7 hm
            refine lv_iconst (v := 0) hx hb dX8_isOperatorRow_53 (by decide) ?_
            exact RET 0 hm rfl _ H locs ls dX8_isOperatorRow_54 hP hD hS
      · have hm := if_some' c_4 hm
        refine lv_iconst (v := 1) hx hb dX8_isOperatorRow_32 (by decide) ?_
        refine lv_istore_n (lv' := [(2, .int 1), (0, .ref a_row), (1, .int x1), (3, .int x3)]) hx hb dX8_isOperatorRow_33 rfl hl (by decide) rfl (fun ls hl => ?_)
        refine lv_goto (tgt := 55) hx hb dX8_isOperatorRow_34 (by decide) ?_
        exact k_X8_isOperatorRow_55 C0 hK hN hA a_row n_row row res RET (m_X8_isOperatorRow_17 n_row row n) ih x1 1 x3 hm H locs hP hD hS ls (lv_sub hl [1, 2, 0, 3] rfl)
set_option maxHeartbeats 4000000 in
set_option maxRecDepth 100000 in
theorem k_X8_isOperatorRow_E {p : Program} {l : Launch} {e : Env} {s : State} {m : MethodId} {args : Array Value} {below : List Frame} {meth : Method} {c : Code} {Q : State → Prop} {dC : Nat → ClassId} {dI : Nat → Nat → Nat} {cI cJ cB cZ : ClassId} {A : Nat → Prop} (C0 : Cx p s m meth c args cX8_isOperatorRow 4 (some .boolean) wsX8_isOperatorRow RX8) (hK : va_K (dC, dI) vwCl [(cI, .int), (cJ, .long), (cB, .byte), (cZ, .boolean)] s) (hN : NW s) (hA : ∀ q, s.heap.size ≤ q → A q) (a_row : Nat) (n_row : Nat) (row : Nat → Int64) (res : Int32) (RET : RT_X8_isOperatorRow p l e s m args below meth c Q dC dI cI cJ cB cZ A a_row n_row row res) : ∀ (p1 : Int32), m_X8_isOperatorRow n_row row p1 = some res → ∀ (H : Heap) (locs : List Loc), va_P (dC, dI) vwCl [(a_row, .inl (cJ, n_row, .inr (.inl row)))] H → va_D A [(a_row, .inl (cJ, n_row, .inr (.inl row)))] → va_S A s.heap H locs → ∀ (ls : Array Slot), lv_has ls 4 [(0, .ref a_row), (1, .int p1)] → W p l e rm_X8_isOperatorRow s m args below meth c H locs 0 0 Q (F0 m 0 ls []) := by
  obtain ⟨⟨hx, hb, hml, hown, hts⟩, hr, hlocks⟩ := id C0
  intro p1 hm H locs hP hD hS ls hl
  have hm : (if p1 < 1 then (some 0) else (if p1 ≤ 9 then (m_X8_isOperatorRow_17 n_row row FU p1 0 0) else (some 0))) = some res := hm
  refine lv_iload_n hx hb dX8_isOperatorRow_0 rfl (lv_at hl 1 rfl) ?_
  refine lv_iconst (v := 1) hx hb dX8_isOperatorRow_1 (by decide) ?_
  refine lv_icmp_lt (tgt := 11) hx hb dX8_isOperatorRow_2 (by decide) (fun c_8 => ?_) (fun c_8 => ?_)
  · have hm := it_some c_8 hm
    refine lv_iconst (v := 0) hx hb dX8_isOperatorRow_11 (by decide) ?_
    exact RET 0 hm rfl _ H locs ls dX8_isOperatorRow_12 hP hD hS
  · have hm := if_some' c_8 hm
    refine lv_iload_n hx hb dX8_isOperatorRow_5 rfl (lv_at hl 1 rfl) ?_
    refine lv_bipush (v := 9) hx hb dX8_isOperatorRow_6 (by decide) ?_
    refine lv_icmp_le (tgt := 13) hx hb dX8_isOperatorRow_8 (by decide) (fun c_9 => ?_) (fun c_9 => ?_)
    · have hm := it_some c_9 hm
      refine lv_iconst (v := 0) hx hb dX8_isOperatorRow_13 (by decide) ?_
      refine lv_istore_n (lv' := [(2, .int 0), (0, .ref a_row), (1, .int p1)]) hx hb dX8_isOperatorRow_14 rfl hl (by decide) rfl (fun ls hl => ?_)
      refine lv_iconst (v := 0) hx hb dX8_isOperatorRow_15 (by decide) ?_
      refine lv_istore_n (lv' := [(3, .int 0), (2, .int 0), (0, .ref a_row), (1, .int p1)]) hx hb dX8_isOperatorRow_16 rfl hl (by decide) rfl (fun ls hl => ?_)
      exact k_X8_isOperatorRow_17 C0 hK hN hA a_row n_row row res RET FU p1 0 0 hm H locs hP hD hS ls (lv_sub hl [2, 3, 1, 0] rfl)
    · have hm := if_some' c_9 hm
      refine lv_iconst (v := 0) hx hb dX8_isOperatorRow_11 (by decide) ?_
      exact RET 0 hm rfl _ H locs ls dX8_isOperatorRow_12 hP hD hS
set_option maxHeartbeats 4000000 in
set_option maxRecDepth 100000 in
theorem c_X8_isOperatorRow (l : Launch) (dC : Nat → ClassId) (dI : Nat → Nat → Nat) (cI cJ cB cZ : ClassId) (a_row : Nat) (sz : Nat) (n_row : Nat) (row : Nat → Int64) (p1 : Int32) (res : Int32) (hm : m_X8_isOperatorRow n_row row p1 = some res) : Met l yX8_isOperatorRow wsX8_isOperatorRow rm_X8_isOperatorRow (cP (dC, dI) vwCl [(cI, .int), (cJ, .long), (cB, .byte), (cZ, .boolean)] [.ref a_row, .int p1] [(a_row, .inl (cJ, n_row, .inr (.inl row)))] sz) (cQi res (dC, dI) vwCl [(a_row, .inl (cJ, n_row, .inr (.inl row)))] [(a_row, .inl (cJ, n_row, .inr (.inl row)))] sz) 0 0 (va_A [(a_row, .inl (cJ, n_row, .inr (.inl row)))] sz) := by
  refine cx_of (cc := cX8_isOperatorRow) (maxL := 4) (ret := (some .boolean)) (own := RX8) (by decide) rfl rfl (Nat.le_of_ble_eq_true rfl) ?_
  intro p e s m below meth c A C0 hinN hK hN hsz hAe hA hP hD hS ls hl
  refine k_X8_isOperatorRow_E C0 hK hN hA a_row n_row row res ?_ p1 hm _ _ hP hD hS ls hl
  intro v he hn pc H locs ls hdg hP hD hS
  have he := Option.some.inj he
  subst he
  exact cx_retz C0 hn hsz hAe hdg hP hD hS

