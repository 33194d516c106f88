theorem dX6_length_0 : decode cX6_length 0 = .ok (.aload_n 0, 1) := by decide +kernel
theorem dX6_length_1 : decode cX6_length 1 = .ok (.getfield 19, 3) := by decide +kernel
theorem dX6_length_4 : decode cX6_length 4 = .ok (.ireturn, 1) := by decide +kernel
/-! MixfixDesk$Text.length()I -/
abbrev rm_X6_length : Room := { frames := 0, cells := 0, slots := 0, locals := 0 }
theorem X6_length_inX6 : ∀ w ∈ wsX60, w ∈ wsX6_length := by decide +kernel
abbrev RT_X6_length (p : Program) (l : Launch) (e : Env) (s : State) (m : MethodId) (args : Array Value) (below : List Frame) (meth : Method) (c : Code) (Q : State → Prop) (dC : Nat → ClassId) (dI : Nat → Nat → Nat) (cI cJ cB cZ : ClassId) (A : Nat → Prop) (aX : Nat → Nat) (X_length : Int32) (res : Int32) : Prop := ∀ (v : Int32) , some v = some res → ∀ (pc : Nat) (H : Heap) (locs : List Loc) (ls : Array Slot), decode cX6_length pc = .ok (.ireturn, 1) → va_P (dC, dI) vwCl [((aX 0), .inr (6, [.ref (aX 1), .ref (aX 2), .int X_length]))] H → va_D A [((aX 0), .inr (6, [.ref (aX 1), .ref (aX 2), .int X_length]))] → va_S A s.heap H locs → W p l e rm_X6_length s m args below meth c H locs 0 0 Q (F0 m pc ls [.int v])
set_option maxHeartbeats 4000000 in
set_option maxRecDepth 100000 in
theorem k_X6_length_E {p : Program} {l : Launch} {e : Env} {s : State} {m : MethodId} {args : Array Value} {below : List Frame} {meth : Method} {c : Code} {Q : State → Prop} {dC : Nat → ClassId} {dI : Nat → Nat → Nat} {cI cJ cB cZ : ClassId} {A : Nat → Prop} (C0 : Cx p s m meth c args cX6_length 1 (some .int) wsX6_length RX6) (hK : va_K (dC, dI) vwCl [(cI, .int), (cJ, .long), (cB, .byte), (cZ, .boolean)] s) (hN : NW s) (hA : ∀ q, s.heap.size ≤ q → A q) (aX : Nat → Nat) (X_length : Int32) (res : Int32) (RET : RT_X6_length p l e s m args below meth c Q dC dI cI cJ cB cZ A aX X_length res) : m_X6_length X_length = some res → ∀ (H : Heap) (locs : List Loc), va_P (dC, dI) vwCl [((aX 0), .inr (6, [.ref (aX 1), .ref (aX 2), .int X_length]))] H → va_D A [((aX 0), .inr (6, [.ref (aX 1), .ref (aX 2), .int X_length]))] → va_S A s.heap H locs → ∀ (ls : Array Slot), lv_has ls 1 [(0, .ref (aX 0))] → W p l e rm_X6_length s m args below meth c H locs 0 0 Q (F0 m 0 ls []) := by
  obtain ⟨⟨hx, hb, hml, hown, hts⟩, hr, hlocks⟩ := id C0
  intro  hm H locs hP hD hS ls hl
  have hm : (some X_length) = some res := hm
  refine lv_aload_n hx hb dX6_length_0 rfl (lv_at hl 0 rfl) ?_
  refine va_get (D := (dC, dI)) (ci := 6) (v := .int X_length) (C := RX6) (T := TX6) (N := 3) hx hb hts X6_length_inX6 hown hK hP 0 rfl rfl 2 (by decide) (hts (.fieldLink RX6 19 "MixfixDesk$Text" "length" "I") (by decide +kernel)) (fun _ h9 => h9) rfl dX6_length_1 ?_
  exact RET X_length hm _ H locs ls dX6_length_4 hP hD hS
set_option maxHeartbeats 4000000 in
set_option maxRecDepth 100000 in
theorem c_X6_length (l : Launch) (dC : Nat → ClassId) (dI : Nat → Nat → Nat) (cI cJ cB cZ : ClassId) (aX : Nat → Nat) (sz : Nat) (X_length : Int32) (res : Int32) (hm : m_X6_length X_length = some res) : Met l yX6_length wsX6_length rm_X6_length (cP (dC, dI) vwCl [(cI, .int), (cJ, .long), (cB, .byte), (cZ, .boolean)] [.ref (aX 0)] [((aX 0), .inr (6, [.ref (aX 1), .ref (aX 2), .int X_length]))] sz) (cQi res (dC, dI) vwCl [((aX 0), .inr (6, [.ref (aX 1), .ref (aX 2), .int X_length]))] [((aX 0), .inr (6, [.ref (aX 1), .ref (aX 2), .int X_length]))] sz) 0 0 (va_A [((aX 0), .inr (6, [.ref (aX 1), .ref (aX 2), .int X_length]))] sz) := by
  refine cx_of (cc := cX6_length) (maxL := 1) (ret := (some .int)) (own := RX6) (by decide) rfl rfl (Nat.le_of_ble_eq_true rfl) ?_
  intro p e s m below meth c A C0 hinN hK hN hsz hAe hA hP hD hS ls hl
  refine k_X6_length_E C0 hK hN hA aX X_length res ?_  hm _ _ hP hD hS ls hl
  intro v he pc H locs ls hdg hP hD hS
  have he := Option.some.inj he
  subst he
  exact cx_reti C0 hsz hAe hdg hP hD hS

theorem dX6_words_0 : decode cX6_words 0 = .ok (.aload_n 0, 1) := by decide +kernel
theorem dX6_words_1 : decode cX6_words 1 = .ok (.getfield 15, 3) := by decide +kernel
theorem dX6_words_4 : decode cX6_words 4 = .ok (.areturn, 1) := by decide +kernel
/-! MixfixDesk$Text.words()[J -/
abbrev rm_X6_words : Room := { frames := 0, cells := 0, slots := 0, locals := 0 }
theorem X6_words_inX6 : ∀ w ∈ wsX60, w ∈ wsX6_words := by decide +kernel
abbrev RT_X6_words (p : Program) (l : Launch) (e : Env) (s : State) (m : MethodId) (args : Array Value) (below : List Frame) (meth : Method) (c : Code) (Q : State → Prop) (dC : Nat → ClassId) (dI : Nat → Nat → Nat) (cI cJ cB cZ : ClassId) (A : Nat → Prop) (aX : Nat → Nat) (X_length : Int32) (res : Unit) : Prop := some () = some res → ∀ (pc : Nat) (H : Heap) (locs : List Loc) (ls : Array Slot), decode cX6_words pc = .ok (.areturn, 1) → va_P (dC, dI) vwCl [((aX 0), .inr (6, [.ref (aX 1), .ref (aX 2), .int X_length]))] H → va_D A [((aX 0), .inr (6, [.ref (aX 1), .ref (aX 2), .int X_length]))] → va_S A s.heap H locs → W p l e rm_X6_words s m args below meth c H locs 0 0 Q (F0 m pc ls [.ref (aX 2)])
set_option maxHeartbeats 4000000 in
set_option maxRecDepth 100000 in
theorem k_X6_words_E {p : Program} {l : Launch} {e : Env} {s : State} {m : MethodId} {args : Array Value} {below : List Frame} {meth : Method} {c : Code} {Q : State → Prop} {dC : Nat → ClassId} {dI : Nat → Nat → Nat} {cI cJ cB cZ : ClassId} {A : Nat → Prop} (C0 : Cx p s m meth c args cX6_words 1 (some (.array .long)) wsX6_words RX6) (hK : va_K (dC, dI) vwCl [(cI, .int), (cJ, .long), (cB, .byte), (cZ, .boolean)] s) (hN : NW s) (hA : ∀ q, s.heap.size ≤ q → A q) (aX : Nat → Nat) (X_length : Int32) (res : Unit) (RET : RT_X6_words p l e s m args below meth c Q dC dI cI cJ cB cZ A aX X_length res) : m_X6_words  = some res → ∀ (H : Heap) (locs : List Loc), va_P (dC, dI) vwCl [((aX 0), .inr (6, [.ref (aX 1), .ref (aX 2), .int X_length]))] H → va_D A [((aX 0), .inr (6, [.ref (aX 1), .ref (aX 2), .int X_length]))] → va_S A s.heap H locs → ∀ (ls : Array Slot), lv_has ls 1 [(0, .ref (aX 0))] → W p l e rm_X6_words s m args below meth c H locs 0 0 Q (F0 m 0 ls []) := by
  obtain ⟨⟨hx, hb, hml, hown, hts⟩, hr, hlocks⟩ := id C0
  intro  hm H locs hP hD hS ls hl
  have hm : (some ()) = some res := hm
  refine lv_aload_n hx hb dX6_words_0 rfl (lv_at hl 0 rfl) ?_
  refine va_get (D := (dC, dI)) (ci := 6) (v := .ref (aX 2)) (C := RX6) (T := TX6) (N := 3) hx hb hts X6_words_inX6 hown hK hP 0 rfl rfl 1 (by decide) (hts (.fieldLink RX6 15 "MixfixDesk$Text" "words" "[J") (by decide +kernel)) (fun _ h9 => h9) rfl dX6_words_1 ?_
  exact RET hm _ H locs ls dX6_words_4 hP hD hS
set_option maxHeartbeats 4000000 in
set_option maxRecDepth 100000 in
theorem c_X6_words (l : Launch) (dC : Nat → ClassId) (dI : Nat → Nat → Nat) (cI cJ cB cZ : ClassId) (aX : Nat → Nat) (sz : Nat) (X_length : Int32) (res : Unit) (hm : m_X6_words  = some res) : Met l yX6_words wsX6_words rm_X6_words (cP (dC, dI) vwCl [(cI, .int), (cJ, .long), (cB, .byte), (cZ, .boolean)] [.ref (aX 0)] [((aX 0), .inr (6, [.ref (aX 1), .ref (aX 2), .int X_length]))] sz) (cQr (aX 2) (dC, dI) vwCl [((aX 0), .inr (6, [.ref (aX 1), .ref (aX 2), .int X_length]))] [((aX 0), .inr (6, [.ref (aX 1), .ref (aX 2), .int X_length]))] sz) 0 0 (va_A [((aX 0), .inr (6, [.ref (aX 1), .ref (aX 2), .int X_length]))] sz) := by
  refine cx_of (cc := cX6_words) (maxL := 1) (ret := (some (.array .long))) (own := RX6) (by decide) rfl rfl (Nat.le_of_ble_eq_true rfl) ?_
  intro p e s m below meth c A C0 hinN hK hN hsz hAe hA hP hD hS ls hl
  refine k_X6_words_E C0 hK hN hA aX X_length res ?_  hm _ _ hP hD hS ls hl
  intro  he pc H locs ls hdg hP hD hS
  have he := Option.some.inj he
  subst he
  exact cx_retr C0 (by first | exact Or.inl ⟨_, rfl⟩ | exact Or.inr ⟨_, rfl⟩) hsz hAe hdg hP hD hS

theorem dX6_empty_0 : decode cX6_empty 0 = .ok (.aload_n 0, 1) := by decide +kernel
theorem dX6_empty_1 : decode cX6_empty 1 = .ok (.iconst 0, 1) := by decide +kernel
theorem dX6_empty_2 : decode cX6_empty 2 = .ok (.putfield 19, 3) := by decide +kernel
theorem dX6_empty_5 : decode cX6_empty 5 = .ok (.return_, 1) := by decide +kernel
/-! MixfixDesk$Text.empty()V -/
abbrev rm_X6_empty : Room := { frames := 0, cells := 0, slots := 0, locals := 0 }
theorem X6_empty_inX6 : ∀ w ∈ wsX60, w ∈ wsX6_empty := by decide +kernel
abbrev RT_X6_empty (p : Program) (l : Launch) (e : Env) (s : State) (m : MethodId) (args : Array Value) (below : List Frame) (meth : Method) (c : Code) (Q : State → Prop) (dC : Nat → ClassId) (dI : Nat → Nat → Nat) (cI cJ cB cZ : ClassId) (A : Nat → Prop) (aX : Nat → Nat) (res : Int32) : Prop := ∀ (X_length : Int32), some X_length = some res → ∀ (pc : Nat) (H : Heap) (locs : List Loc) (ls : Array Slot), decode cX6_empty pc = .ok (.return_, 1) → va_P (dC, dI) vwCl [((aX 0), .inr (6, [.ref (aX 1), .ref (aX 2), .int X_length]))] H → va_D A [((aX 0), .inr (6, [.ref (aX 1), .ref (aX 2), .int X_length]))] → va_S A s.heap H locs → W p l e rm_X6_empty s m args below meth c H locs 0 0 Q (F0 m pc ls [])
set_option maxHeartbeats 4000000 in
set_option maxRecDepth 100000 in
theorem k_X6_empty_E {p : Program} {l : Launch} {e : Env} {s : State} {m : MethodId} {args : Array Value} {below : List Frame} {meth : Method} {c : Code} {Q : State → Prop} {dC : Nat → ClassId} {dI : Nat → Nat → Nat} {cI cJ cB cZ : ClassId} {A : Nat → Prop} (C0 : Cx p s m meth c args cX6_empty 1 none wsX6_empty RX6) (hK : va_K (dC, dI) vwCl [(cI, .int), (cJ, .long), (cB, .byte), (cZ, .boolean)] s) (hN : NW s) (hA : ∀ q, s.heap.size ≤ q → A q) (aX : Nat → Nat) (res : Int32) (RET : RT_X6_empty p l e s m args below meth c Q dC dI cI cJ cB cZ A aX res) : ∀ (X_length : Int32), m_X6_empty X_length = some res → ∀ (H : Heap) (locs : List Loc), va_P (dC, dI) vwCl [((aX 0), .inr (6, [.ref (aX 1), .ref (aX 2), .int X_length]))] H → va_D A [((aX 0), .inr (6, [.ref (aX 1), .ref (aX 2), .int X_length]))] → va_S A s.heap H locs → ∀ (ls : Array Slot), lv_has ls 1 [(0, .ref (aX 0))] → W p l e rm_X6_empty s m args below meth c H locs 0 0 Q (F0 m 0 ls []) := by
  obtain ⟨⟨hx, hb, hml, hown, hts⟩, hr, hlocks⟩ := id C0
  intro X_length hm H locs hP hD hS ls hl
  have hm : (some 0) = some res := hm
  refine lv_aload_n hx hb dX6_empty_0 rfl (lv_at hl 0 rfl) ?_
  refine lv_iconst (v := 0) hx hb dX6_empty_1 (by decide) ?_
  refine va_put (D := (dC, dI)) (ci := 6) (v := .int 0) (ty := .int) (C := RX6) (T := TX6) (N := 3) hx hb hts X6_empty_inX6 tyX6 tyX6_ok nmX6 hown hK hP hD hS 0 rfl rfl 2 (by decide) (hts (.fieldLink RX6 19 "MixfixDesk$Text" "length" "I") (by decide +kernel)) (fun _ h9 => h9) rfl (by decide +kernel) rfl rfl (Nat.le_of_ble_eq_true rfl) dX6_empty_2 (fun H locs hP hD hS => ?_)
  have hP : va_P (dC, dI) vwCl [((aX 0), .inr (6, [.ref (aX 1), .ref (aX 2), .int 0]))] H := hP
  have hD : va_D A [((aX 0), .inr (6, [.ref (aX 1), .ref (aX 2), .int 0]))] := hD
  exact RET 0 hm _ H locs ls dX6_empty_5 hP hD hS
set_option maxHeartbeats 4000000 in
set_option maxRecDepth 100000 in
theorem c_X6_empty (l : Launch) (dC : Nat → ClassId) (dI : Nat → Nat → Nat) (cI cJ cB cZ : ClassId) (aX : Nat → Nat) (sz : Nat) (X_length : Int32) (res : Int32) (hm : m_X6_empty X_length = some res) : Met l yX6_empty wsX6_empty rm_X6_empty (cP (dC, dI) vwCl [(cI, .int), (cJ, .long), (cB, .byte), (cZ, .boolean)] [.ref (aX 0)] [((aX 0), .inr (6, [.ref (aX 1), .ref (aX 2), .int X_length]))] sz) (cQv (dC, dI) vwCl [((aX 0), .inr (6, [.ref (aX 1), .ref (aX 2), .int res]))] [((aX 0), .inr (6, [.ref (aX 1), .ref (aX 2), .int X_length]))] sz) 0 0 (va_A [((aX 0), .inr (6, [.ref (aX 1), .ref (aX 2), .int X_length]))] sz) := by
  refine cx_of (cc := cX6_empty) (maxL := 1) (ret := none) (own := RX6) (by decide) rfl rfl (Nat.le_of_ble_eq_true rfl) ?_
  intro p e s m below meth c A C0 hinN hK hN hsz hAe hA hP hD hS ls hl
  refine k_X6_empty_E C0 hK hN hA aX res ?_ X_length hm _ _ hP hD hS ls hl
  intro X_length he pc H locs ls hdg hP hD hS
  have he := Option.some.inj he
  subst he
  exact cx_retv C0 hsz hAe hdg hP hD hS

theorem dX6_append_0 : decode cX6_append 0 = .ok (.iload_n 3, 1) := by decide +kernel
theorem dX6_append_1 : decode cX6_append 1 = .ok (.iconst 1, 1) := by decide +kernel
theorem dX6_append_2 : decode cX6_append 2 = .ok (.isub, 1) := by decide +kernel
theorem dX6_append_3 : decode cX6_append 3 = .ok (.istore 4, 2) := by decide +kernel
theorem dX6_append_5 : decode cX6_append 5 = .ok (.iload 4, 2) := by decide +kernel
theorem dX6_append_7 : decode cX6_append 7 = .ok (.ifCond .lt 47, 3) := by decide +kernel
theorem dX6_append_10 : decode cX6_append 10 = .ok (.aload_n 0, 1) := by decide +kernel
theorem dX6_append_11 : decode cX6_append 11 = .ok (.getfield 19, 3) := by decide +kernel
theorem dX6_append_14 : decode cX6_append 14 = .ok (.sipush 1500, 3) := by decide +kernel
theorem dX6_append_17 : decode cX6_append 17 = .ok (.if_icmp .ge 37, 3) := by decide +kernel
theorem dX6_append_20 : decode cX6_append 20 = .ok (.aload_n 0, 1) := by decide +kernel
theorem dX6_append_21 : decode cX6_append 21 = .ok (.getfield 9, 3) := by decide +kernel
theorem dX6_append_24 : decode cX6_append 24 = .ok (.aload_n 0, 1) := by decide +kernel
theorem dX6_append_25 : decode cX6_append 25 = .ok (.getfield 19, 3) := by decide +kernel
theorem dX6_append_28 : decode cX6_append 28 = .ok (.lload_n 1, 1) := by decide +kernel
theorem dX6_append_29 : decode cX6_append 29 = .ok (.bipush 8, 2) := by decide +kernel
theorem dX6_append_31 : decode cX6_append 31 = .ok (.iload 4, 2) := by decide +kernel
theorem dX6_append_33 : decode cX6_append 33 = .ok (.imul, 1) := by decide +kernel
theorem dX6_append_34 : decode cX6_append 34 = .ok (.lushr, 1) := by decide +kernel
theorem dX6_append_35 : decode cX6_append 35 = .ok (.l2i, 1) := by decide +kernel
theorem dX6_append_36 : decode cX6_append 36 = .ok (.i2b, 1) := by decide +kernel
theorem dX6_append_37 : decode cX6_append 37 = .ok (.bastore, 1) := by decide +kernel
theorem dX6_append_38 : decode cX6_append 38 = .ok (.aload_n 0, 1) := by decide +kernel
theorem dX6_append_39 : decode cX6_append 39 = .ok (.dup, 1) := by decide +kernel
theorem dX6_append_40 : decode cX6_append 40 = .ok (.getfield 19, 3) := by decide +kernel
theorem dX6_append_43 : decode cX6_append 43 = .ok (.iconst 1, 1) := by decide +kernel
theorem dX6_append_44 : decode cX6_append 44 = .ok (.iadd, 1) := by decide +kernel
theorem dX6_append_45 : decode cX6_append 45 = .ok (.putfield 19, 3) := by decide +kernel
theorem dX6_append_48 : decode cX6_append 48 = .ok (.iinc 4 (-1), 3) := by decide +kernel
theorem dX6_append_51 : decode cX6_append 51 = .ok (.goto (-46), 3) := by decide +kernel
theorem dX6_append_54 : decode cX6_append 54 = .ok (.return_, 1) := by decide +kernel
/-! MixfixDesk$Text.append(JI)V -/
abbrev rm_X6_append : Room := { frames := 0, cells := 0, slots := 0, locals := 0 }
theorem X6_append_inX6 : ∀ w ∈ wsX60, w ∈ wsX6_append := by decide +kernel
abbrev RT_X6_append (p : Program) (l : Launch) (e : Env) (s : State) (m : MethodId) (args : Array Value) (below : List Frame) (meth : Method) (c : Code) (Q : State → Prop) (dC : Nat → ClassId) (dI : Nat → Nat → Nat) (cI cJ cB cZ : ClassId) (A : Nat → Prop) (aX : Nat → Nat) (res : (Nat → Int32) × Int32) : Prop := ∀ (X_bytes : Nat → Int32) (X_length : Int32), some (X_bytes, X_length) = some res → ∀ (pc : Nat) (H : Heap) (locs : List Loc) (ls : Array Slot), decode cX6_append pc = .ok (.return_, 1) → va_P (dC, dI) vwCl [((aX 0), .inr (6, [.ref (aX 1), .ref (aX 2), .int X_length])), ((aX 1), .inl (cB, 1500, .inl X_bytes))] H → va_D A [((aX 0), .inr (6, [.ref (aX 1), .ref (aX 2), .int X_length])), ((aX 1), .inl (cB, 1500, .inl X_bytes))] → va_S A s.heap H locs → W p l e rm_X6_append s m args below meth c H locs 0 0 Q (F0 m pc ls [])
set_option maxHeartbeats 4000000 in
set_option maxRecDepth 100000 in
theorem k_X6_append_5 {p : Program} {l : Launch} {e : Env} {s : State} {m : MethodId} {args : Array Value} {below : List Frame} {meth : Method} {c : Code} {Q : State → Prop} {dC : Nat → ClassId} {dI : Nat → Nat → Nat} {cI cJ cB cZ : ClassId} {A : Nat → Prop} (C0 : Cx p s m meth c args cX6_append 5 none wsX6_append RX6) (hK : va_K (dC, dI) vwCl [(cI, .int), (cJ, .long), (cB, .byte), (cZ, .boolean)] s) (hN : NW s) (hA : ∀ q, s.heap.size ≤ q → A q) (aX : Nat → Nat) (res : (Nat → Int32) × Int32) (RET : RT_X6_append p l e s m args below meth c Q dC dI cI cJ cB cZ A aX res)   : ∀ (n : Nat) (X_bytes : Nat → Int32) (X_length : Int32) (x1 : Int64) (x4 : Int32), m_X6_append_5 n X_bytes X_length x1 x4 = some res → ∀ (H : Heap) (locs : List Loc), va_P (dC, dI) vwCl [((aX 0), .inr (6, [.ref (aX 1), .ref (aX 2), .int X_length])), ((aX 1), .inl (cB, 1500, .inl X_bytes))] H → va_D A [((aX 0), .inr (6, [.ref (aX 1), .ref (aX 2), .int X_length])), ((aX 1), .inl (cB, 1500, .inl X_bytes))] → va_S A s.heap H locs → ∀ (ls : Array Slot), lv_has ls 5 [(0, .ref (aX 0)), (1, .long x1), (4, .int x4)] → W p l e rm_X6_append s m args below meth c H locs 0 0 Q (F0 m 5 ls []) := by
  obtain ⟨⟨hx, hb, hml, hown, hts⟩, hr, hlocks⟩ := id C0
  intro n
  induction n with
  | zero =>
    intro X_bytes X_length x1 x4 hm
    exact absurd hm (by intro h; cases h)
  | succ n ih =>
    intro X_bytes X_length x1 x4 hm H locs hP hD hS ls hl
    have hm : (if x4 < 0 then (some (X_bytes, X_length)) else (if 1500 ≤ X_length then (some (X_bytes, X_length)) else (gd X_length 1500 (m_X6_append_5 n (upd X_bytes X_length.toNatClampNeg (vp_nar .byte ((((x1.toUInt64 >>> ((8 * x4).toInt64.toUInt64 &&& Int64.toUInt64 63)).toInt64).toInt32).toInt8.toInt32))) (X_length + 1) x1 (x4 + (-1)))))) = some res := hm
    refine lv_iload hx hb dX6_append_5 (lv_at hl 2 rfl) ?_
    refine lv_if_lt (tgt := 54) hx hb dX6_append_7 (by decide) (fun c_1 => ?_) (fun c_1 => ?_)
    · have hm := it_some c_1 hm
      exact RET X_bytes X_length hm _ H locs ls dX6_append_54 hP hD hS
    · have hm := if_some' c_1 hm
      refine lv_aload_n hx hb dX6_append_10 rfl (lv_at hl 0 rfl) ?_
      refine va_get (D := (dC, dI)) (ci := 6) (v := .int X_length) (C := RX6) (T := TX6) (N := 3) hx hb hts X6_append_inX6 hown hK hP 0 rfl rfl 2 (by decide) (hts (.fieldLink RX6 19 "MixfixDesk$Text" "length" "I") (by decide +kernel)) (fun _ h9 => h9) rfl dX6_append_11 ?_
      refine lv_sipush (v := 1500) hx hb dX6_append_14 (by decide) ?_
      refine lv_icmp_ge (tgt := 54) hx hb dX6_append_17 (by decide) (fun c_2 => ?_) (fun c_2 => ?_)
      · have hm := it_some c_2 hm
        exact RET X_bytes X_length hm _ H locs ls dX6_append_54 hP hD hS
      · have hm := if_some' c_2 hm
        refine lv_aload_n hx hb dX6_append_20 rfl (lv_at hl 0 rfl) ?_
        refine va_get (D := (dC, dI)) (ci := 6) (v := .ref (aX 1)) (C := RX6) (T := TX6) (N := 3) hx hb hts X6_append_inX6 hown hK hP 0 rfl rfl 0 (by decide) (hts (.fieldLink RX6 9 "MixfixDesk$Text" "bytes" "[B") (by decide +kernel)) (fun _ h9 => h9) rfl dX6_append_21 ?_
        refine lv_aload_n hx hb dX6_append_24 rfl (lv_at hl 0 rfl) ?_
        refine va_get (D := (dC, dI)) (ci := 6) (v := .int X_length) (C := RX6) (T := TX6) (N := 3) hx hb hts X6_append_inX6 hown hK hP 0 rfl rfl 2 (by decide) (hts (.fieldLink RX6 19 "MixfixDesk$Text" "length" "I") (by decide +kernel)) (fun _ h9 => h9) rfl dX6_append_25 ?_
        refine lv_lload_n hx hb dX6_append_28 rfl (lv_at hl 1 rfl) ?_
        refine lv_bipush (v := 8) hx hb dX6_append_29 (by decide) ?_
        refine lv_iload hx hb dX6_append_31 (lv_at hl 2 rfl) ?_
        refine lv_imul hx hb dX6_append_33 ?_
        refine lv_lushr (v := (x1.toUInt64 >>> ((8 * x4).toInt64.toUInt64 &&& Int64.toUInt64 63)).toInt64) hx hb dX6_append_34 rfl ?_
        refine lv_l2i (v := ((x1.toUInt64 >>> ((8 * x4).toInt64.toUInt64 &&& Int64.toUInt64 63)).toInt64).toInt32) hx hb dX6_append_35 rfl ?_
        refine lv_i2b (v := (((x1.toUInt64 >>> ((8 * x4).toInt64.toUInt64 &&& Int64.toUInt64 63)).toInt64).toInt32).toInt8.toInt32) hx hb dX6_append_36 rfl ?_
        obtain ⟨hi_3, hm⟩ := gd_some hm
        refine va_bast (D := (dC, dI)) hx hb hK hP hD hS 1 2 rfl rfl hi_3 dX6_append_37 (fun H locs hP hD hS => ?_)
        have hP : va_P (dC, dI) vwCl [((aX 0), .inr (6, [.ref (aX 1), .ref (aX 2), .int X_length])), ((aX 1), .inl (cB, 1500, .inl (upd X_bytes X_length.toNatClampNeg (vp_nar .byte ((((x1.toUInt64 >>> ((8 * x4).toInt64.toUInt64 &&& Int64.toUInt64 63)).toInt64).toInt32).toInt8.toInt32)))))] H := hP
        have hD : va_D A [((aX 0), .inr (6, [.ref (aX 1), .ref (aX 2), .int X_length])), ((aX 1), .inl (cB, 1500, .inl (upd X_bytes X_length.toNatClampNeg (vp_nar .byte ((((x1.toUInt64 >>> ((8 * x4).toInt64.toUInt64 &&& Int64.toUInt64 63)).toInt64).toInt32).toInt8.toInt32)))))] := hD
        refine lv_aload_n hx hb dX6_append_38 rfl (lv_at hl 0 rfl) ?_
        refine lv_dup hx hb dX6_append_39 rfl ?_
        refine va_get (D := (dC, dI)) (ci := 6) (v := .int X_length) (C := RX6) (T := TX6) (N := 3) hx hb hts X6_append_inX6 hown hK hP 0 rfl rfl 2 (by decide) (hts (.fieldLink RX6 19 "MixfixDesk$Text" "length" "I") (by decide +kernel)) (fun _ h9 => h9) rfl dX6_append_40 ?_
        refine lv_iconst (v := 1) hx hb dX6_append_43 (by decide) ?_
        refine lv_iadd hx hb dX6_append_44 ?_
        refine va_put (D := (dC, dI)) (ci := 6) (v := .int (X_length + 1)) (ty := .int) (C := RX6) (T := TX6) (N := 3) hx hb hts X6_append_inX6 tyX6 tyX6_ok nmX6 hown hK hP hD hS 0 rfl rfl 2 (by decide) (hts (.fieldLink RX6 19 "MixfixDesk$Text" "length" "I") (by decide +kernel)) (fun _ h9 => h9) rfl (by decide +kernel) rfl rfl (Nat.le_of_ble_eq_true rfl) dX6_append_45 (fun H locs hP hD hS => ?_)
        have hP : va_P (dC, dI) vwCl [((aX 0), .inr (6, [.ref (aX 1), .ref (aX 2), .int (X_length + 1)])), ((aX 1), .inl (cB, 1500, .inl (upd X_bytes X_length.toNatClampNeg (vp_nar .byte ((((x1.toUInt64 >>> ((8 * x4).toInt64.toUInt64 &&& Int64.toUInt64 63)).toInt64).toInt32).toInt8.toInt32)))))] H := hP
        have hD : va_D A [((aX 0), .inr (6, [.ref (aX 1), .ref (aX 2), .int (X_length + 1)])), ((aX 1), .inl (cB, 1500, .inl (upd X_bytes X_length.toNatClampNeg (vp_nar .byte ((((x1.toUInt64 >>> ((8 * x4).toInt64.toUInt64 &&& Int64.toUInt64 63)).toInt64).toInt32).toInt8.toInt32)))))] := hD
        refine lv_iinc (v := x4 + (-1)) (lv' := [(4, .int (x4 + (-1))), (0, .ref (aX 0)), (1, .long x1)]) hx hb dX6_append_48 hl (k := 2) rfl rfl (by decide) rfl (fun ls hl => ?_)
        refine lv_goto (tgt := 5) hx hb dX6_append_51 (by decide) ?_
        exact ih (upd X_bytes X_length.toNatClampNeg (vp_nar .byte ((((x1.toUInt64 >>> ((8 * x4).toInt64.toUInt64 &&& Int64.toUInt64 63)).toInt64).toInt32).toInt8.toInt32))) (X_length + 1) x1 (x4 + (-1)) hm H locs hP hD hS ls (lv_sub hl [1, 2, 0] rfl)
set_option maxHeartbeats 4000000 in
set_option maxRecDepth 100000 in
theorem k_X6_append_E {p : Program} {l : Launch} {e : Env} {s : State} {m : MethodId} {args : Array Value} {below : List Frame} {meth : Method} {c : Code} {Q : State → Prop} {dC : Nat → ClassId} {dI : Nat → Nat → Nat} {cI cJ cB cZ : ClassId} {A : Nat → Prop} (C0 : Cx p s m meth c args cX6_append 5 none wsX6_append RX6) (hK : va_K (dC, dI) vwCl [(cI, .int), (cJ, .long), (cB, .byte), (cZ, .boolean)] s) (hN : NW s) (hA : ∀ q, s.heap.size ≤ q → A q) (aX : Nat → Nat) (res : (Nat → Int32) × Int32) (RET : RT_X6_append p l e s m args below meth c Q dC dI cI cJ cB cZ A aX res) : ∀ (X_bytes : Nat → Int32) (X_length : Int32) (p0 : Int64) (p1 : Int32), m_X6_append X_bytes X_length p0 p1 = some res → ∀ (H : Heap) (locs : List Loc), va_P (dC, dI) vwCl [((aX 0), .inr (6, [.ref (aX 1), .ref (aX 2), .int X_length])), ((aX 1), .inl (cB, 1500, .inl X_bytes))] H → va_D A [((aX 0), .inr (6, [.ref (aX 1), .ref (aX 2), .int X_length])), ((aX 1), .inl (cB, 1500, .inl X_bytes))] → va_S A s.heap H locs → ∀ (ls : Array Slot), lv_has ls 5 [(0, .ref (aX 0)), (1, .long p0), (3, .int p1)] → W p l e rm_X6_append s m args below meth c H locs 0 0 Q (F0 m 0 ls []) := by
  obtain ⟨⟨hx, hb, hml, hown, hts⟩, hr, hlocks⟩ := id C0
  intro X_bytes X_length p0 p1 hm H locs hP hD hS ls hl
  have hm : (m_X6_append_5 FU X_bytes X_length p0 (p1 - 1)) = some res := hm
  refine lv_iload_n hx hb dX6_append_0 rfl (lv_at hl 2 rfl) ?_
  refine lv_iconst (v := 1) hx hb dX6_append_1 (by decide) ?_
  refine lv_isub hx hb dX6_append_2 ?_
  refine lv_istore (lv' := [(4, .int (p1 - 1)), (0, .ref (aX 0)), (1, .long p0), (3, .int p1)]) hx hb dX6_append_3 hl (by decide) rfl (fun ls hl => ?_)
  exact k_X6_append_5 C0 hK hN hA aX res RET FU X_bytes X_length p0 (p1 - 1) hm H locs hP hD hS ls (lv_sub hl [1, 2, 0] rfl)
set_option maxHeartbeats 4000000 in
set_option maxRecDepth 100000 in
theorem c_X6_append (l : Launch) (dC : Nat → ClassId) (dI : Nat → Nat → Nat) (cI cJ cB cZ : ClassId) (aX : Nat → Nat) (sz : Nat) (X_length : Int32) (X_bytes : Nat → Int32) (p0 : Int64) (p1 : Int32) (res : (Nat → Int32) × Int32) (hm : m_X6_append X_bytes X_length p0 p1 = some res) : Met l yX6_append wsX6_append rm_X6_append (cP (dC, dI) vwCl [(cI, .int), (cJ, .long), (cB, .byte), (cZ, .boolean)] [.ref (aX 0), .long p0, .int p1] [((aX 0), .inr (6, [.ref (aX 1), .ref (aX 2), .int X_length])), ((aX 1), .inl (cB, 1500, .inl X_bytes))] sz) (cQv (dC, dI) vwCl [((aX 0), .inr (6, [.ref (aX 1), .ref (aX 2), .int res.2])), ((aX 1), .inl (cB, 1500, .inl res.1))] [((aX 0), .inr (6, [.ref (aX 1), .ref (aX 2), .int X_length])), ((aX 1), .inl (cB, 1500, .inl X_bytes))] sz) 0 0 (va_A [((aX 0), .inr (6, [.ref (aX 1), .ref (aX 2), .int X_length])), ((aX 1), .inl (cB, 1500, .inl X_bytes))] sz) := by
  refine cx_of (cc := cX6_append) (maxL := 5) (ret := none) (own := RX6) (by decide) rfl rfl (Nat.le_of_ble_eq_true rfl) ?_
  intro p e s m below meth c A C0 hinN hK hN hsz hAe hA hP hD hS ls hl
  refine k_X6_append_E C0 hK hN hA aX res ?_ X_bytes X_length p0 p1 hm _ _ hP hD hS ls hl
  intro X_bytes X_length he pc H locs ls hdg hP hD hS
  have he := Option.some.inj he
  subst he
  exact cx_retv C0 hsz hAe hdg hP hD hS

theorem dX6_split_0 : decode cX6_split 0 = .ok (.iconst 0, 1) := by decide +kernel
theorem dX6_split_1 : decode cX6_split 1 = .ok (.istore_n 1, 1) := by decide +kernel
theorem dX6_split_2 : decode cX6_split 2 = .ok (.iconst 0, 1) := by decide +kernel
theorem dX6_split_3 : decode cX6_split 3 = .ok (.istore_n 2, 1) := by decide +kernel
theorem dX6_split_4 : decode cX6_split 4 = .ok (.lconst 0, 1) := by decide +kernel
theorem dX6_split_5 : decode cX6_split 5 = .ok (.lstore_n 3, 1) := by decide +kernel
theorem dX6_split_6 : decode cX6_split 6 = .ok (.iconst 0, 1) := by decide +kernel
theorem dX6_split_7 : decode cX6_split 7 = .ok (.istore 5, 2) := by decide +kernel
theorem dX6_split_9 : decode cX6_split 9 = .ok (.iload 5, 2) := by decide +kernel
theorem dX6_split_11 : decode cX6_split 11 = .ok (.aload_n 0, 1) := by decide +kernel
theorem dX6_split_12 : decode cX6_split 12 = .ok (.getfield 19, 3) := by decide +kernel
theorem dX6_split_15 : decode cX6_split 15 = .ok (.if_icmp .gt 101, 3) := by decide +kernel
theorem dX6_split_18 : decode cX6_split 18 = .ok (.iload 5, 2) := by decide +kernel
theorem dX6_split_20 : decode cX6_split 20 = .ok (.aload_n 0, 1) := by decide +kernel
theorem dX6_split_21 : decode cX6_split 21 = .ok (.getfield 19, 3) := by decide +kernel
theorem dX6_split_24 : decode cX6_split 24 = .ok (.if_icmp .ge 13, 3) := by decide +kernel
theorem dX6_split_27 : decode cX6_split 27 = .ok (.aload_n 0, 1) := by decide +kernel
theorem dX6_split_28 : decode cX6_split 28 = .ok (.getfield 9, 3) := by decide +kernel
theorem dX6_split_31 : decode cX6_split 31 = .ok (.iload 5, 2) := by decide +kernel
theorem dX6_split_33 : decode cX6_split 33 = .ok (.baload, 1) := by decide +kernel
theorem dX6_split_34 : decode cX6_split 34 = .ok (.goto 5, 3) := by decide +kernel
theorem dX6_split_37 : decode cX6_split 37 = .ok (.bipush 32, 2) := by decide +kernel
theorem dX6_split_39 : decode cX6_split 39 = .ok (.istore 6, 2) := by decide +kernel
theorem dX6_split_41 : decode cX6_split 41 = .ok (.iload 6, 2) := by decide +kernel
theorem dX6_split_43 : decode cX6_split 43 = .ok (.bipush 32, 2) := by decide +kernel
theorem dX6_split_45 : decode cX6_split 45 = .ok (.if_icmp .ne 31, 3) := by decide +kernel
theorem dX6_split_48 : decode cX6_split 48 = .ok (.iload_n 2, 1) := by decide +kernel
theorem dX6_split_49 : decode cX6_split 49 = .ok (.ifCond .le 20, 3) := by decide +kernel
theorem dX6_split_52 : decode cX6_split 52 = .ok (.iload_n 1, 1) := by decide +kernel
theorem dX6_split_53 : decode cX6_split 53 = .ok (.sipush 750, 3) := by decide +kernel
theorem dX6_split_56 : decode cX6_split 56 = .ok (.if_icmp .ge 13, 3) := by decide +kernel
theorem dX6_split_59 : decode cX6_split 59 = .ok (.aload_n 0, 1) := by decide +kernel
theorem dX6_split_60 : decode cX6_split 60 = .ok (.getfield 15, 3) := by decide +kernel
theorem dX6_split_63 : decode cX6_split 63 = .ok (.iload_n 1, 1) := by decide +kernel
theorem dX6_split_64 : decode cX6_split 64 = .ok (.lload_n 3, 1) := by decide +kernel
theorem dX6_split_65 : decode cX6_split 65 = .ok (.lastore, 1) := by decide +kernel
theorem dX6_split_66 : decode cX6_split 66 = .ok (.iinc 1 1, 3) := by decide +kernel
theorem dX6_split_69 : decode cX6_split 69 = .ok (.iconst 0, 1) := by decide +kernel
theorem dX6_split_70 : decode cX6_split 70 = .ok (.istore_n 2, 1) := by decide +kernel
theorem dX6_split_71 : decode cX6_split 71 = .ok (.lconst 0, 1) := by decide +kernel
theorem dX6_split_72 : decode cX6_split 72 = .ok (.lstore_n 3, 1) := by decide +kernel
theorem dX6_split_73 : decode cX6_split 73 = .ok (.goto 37, 3) := by decide +kernel
theorem dX6_split_76 : decode cX6_split 76 = .ok (.iload 6, 2) := by decide +kernel
theorem dX6_split_78 : decode cX6_split 78 = .ok (.bipush 33, 2) := by decide +kernel
theorem dX6_split_80 : decode cX6_split 80 = .ok (.if_icmp .lt 16, 3) := by decide +kernel
theorem dX6_split_83 : decode cX6_split 83 = .ok (.iload 6, 2) := by decide +kernel
theorem dX6_split_85 : decode cX6_split 85 = .ok (.bipush 126, 2) := by decide +kernel
theorem dX6_split_87 : decode cX6_split 87 = .ok (.if_icmp .gt 9, 3) := by decide +kernel
theorem dX6_split_90 : decode cX6_split 90 = .ok (.iload_n 2, 1) := by decide +kernel
theorem dX6_split_91 : decode cX6_split 91 = .ok (.bipush 8, 2) := by decide +kernel
theorem dX6_split_93 : decode cX6_split 93 = .ok (.if_icmp .ne 5, 3) := by decide +kernel
theorem dX6_split_96 : decode cX6_split 96 = .ok (.iconst (-1), 1) := by decide +kernel
theorem dX6_split_97 : decode cX6_split 97 = .ok (.ireturn, 1) := by decide +kernel
theorem dX6_split_98 : decode cX6_split 98 = .ok (.lload_n 3, 1) := by decide +kernel
theorem dX6_split_99 : decode cX6_split 99 = .ok (.bipush 8, 2) := by decide +kernel
theorem dX6_split_101 : decode cX6_split 101 = .ok (.lshl, 1) := by decide +kernel
theorem dX6_split_102 : decode cX6_split 102 = .ok (.iload 6, 2) := by decide +kernel
theorem dX6_split_104 : decode cX6_split 104 = .ok (.i2l, 1) := by decide +kernel
theorem dX6_split_105 : decode cX6_split 105 = .ok (.lor, 1) := by decide +kernel
theorem dX6_split_106 : decode cX6_split 106 = .ok (.lstore_n 3, 1) := by decide +kernel
theorem dX6_split_107 : decode cX6_split 107 = .ok (.iinc 2 1, 3) := by decide +kernel
theorem dX6_split_110 : decode cX6_split 110 = .ok (.iinc 5 1, 3) := by decide +kernel
theorem dX6_split_113 : decode cX6_split 113 = .ok (.goto (-104), 3) := by decide +kernel
theorem dX6_split_116 : decode cX6_split 116 = .ok (.iload_n 1, 1) := by decide +kernel
theorem dX6_split_117 : decode cX6_split 117 = .ok (.ireturn, 1) := by decide +kernel
/-! MixfixDesk$Text.split()I -/
abbrev rm_X6_split : Room := { frames := 0, cells := 0, slots := 0, locals := 0 }
theorem X6_split_inX6 : ∀ w ∈ wsX60, w ∈ wsX6_split := by decide +kernel
abbrev RT_X6_split (p : Program) (l : Launch) (e : Env) (s : State) (m : MethodId) (args : Array Value) (below : List Frame) (meth : Method) (c : Code) (Q : State → Prop) (dC : Nat → ClassId) (dI : Nat → Nat → Nat) (cI cJ cB cZ : ClassId) (A : Nat → Prop) (aX : Nat → Nat) (X_length : Int32) (X_bytes : Nat → Int32) (res : Int32 × (Nat → Int64)) : Prop := ∀ (v : Int32) (X_words : Nat → Int64), some (v, X_words) = some res → ∀ (pc : Nat) (H : Heap) (locs : List Loc) (ls : Array Slot), decode cX6_split pc = .ok (.ireturn, 1) → va_P (dC, dI) vwCl [((aX 0), .inr (6, [.ref (aX 1), .ref (aX 2), .int X_length])), ((aX 1), .inl (cB, 1500, .inl X_bytes)), ((aX 2), .inl (cJ, 750, .inr (.inl X_words)))] H → va_D A [((aX 0), .inr (6, [.ref (aX 1), .ref (aX 2), .int X_length])), ((aX 1), .inl (cB, 1500, .inl X_bytes)), ((aX 2), .inl (cJ, 750, .inr (.inl X_words)))] → va_S A s.heap H locs → W p l e rm_X6_split s m args below meth c H locs 0 0 Q (F0 m pc ls [.int v])
set_option maxHeartbeats 4000000 in
set_option maxRecDepth 100000 in
theorem k_X6_split_110 {p : Program} {l : Launch} {e : Env} {s : State} {m : MethodId} {args : Array Value} {below : List Frame} {meth : Method} {c : Code} {Q : State → Prop} {dC : Nat → ClassId} {dI : Nat → Nat → Nat} {cI cJ cB cZ : ClassId} {A : Nat → Prop} (C0 : Cx p s m meth c args cX6_split 7 (some .int) wsX6_split RX6) (hK : va_K (dC, dI) vwCl [(cI, .int), (cJ, .long), (cB, .byte), (cZ, .boolean)] s) (hN : NW s) (hA : ∀ q, s.heap.size ≤ q → A q) (aX : Nat → Nat) (X_length : Int32) (X_bytes : Nat → Int32) (res : Int32 × (Nat → Int64)) (RET : RT_X6_split p l e s m args below meth c Q dC dI cI cJ cB cZ A aX X_length X_bytes res) (k9 : (Nat → Int64) → Int32 → Int32 → Int64 → Int32 → Option (Int32 × (Nat → Int64))) (hk9 : ∀ (X_words : Nat → Int64) (x1 : Int32) (x2 : Int32) (x3 : Int64) (x5 : Int32), k9 X_words x1 x2 x3 x5 = some res → ∀ (H : Heap) (locs : List Loc), va_P (dC, dI) vwCl [((aX 0), .inr (6, [.ref (aX 1), .ref (aX 2), .int X_length])), ((aX 1), .inl (cB, 1500, .inl X_bytes)), ((aX 2), .inl (cJ, 750, .inr (.inl X_words)))] H → va_D A [((aX 0), .inr (6, [.ref (aX 1), .ref (aX 2), .int X_length])), ((aX 1), .inl (cB, 1500, .inl X_bytes)), ((aX 2), .inl (cJ, 750, .inr (.inl X_words)))] → va_S A s.heap H locs → ∀ (ls : Array Slot), lv_has ls 7 [(0, .ref (aX 0)), (1, .int x1), (2, .int x2), (3, .long x3), (5, .int x5)] → W p l e rm_X6_split s m args below meth c H locs 0 0 Q (F0 m 9 ls [])) : ∀ (X_words : Nat → Int64) (x1 : Int32) (x2 : Int32) (x3 : Int64) (x5 : Int32), m_X6_split_110 X_length X_bytes k9 X_words x1 x2 x3 x5 = some res → ∀ (H : Heap) (locs : List Loc), va_P (dC, dI) vwCl [((aX 0), .inr (6, [.ref (aX 1), .ref (aX 2), .int X_length])), ((aX 1), .inl (cB, 1500, .inl X_bytes)), ((aX 2), .inl (cJ, 750, .inr (.inl X_words)))] H → va_D A [((aX 0), .inr (6, [.ref (aX 1), .ref (aX 2), .int X_length])), ((aX 1), .inl (cB, 1500, .inl X_bytes)), ((aX 2), .inl (cJ, 750, .inr (.inl X_words)))] → va_S A s.heap H locs → ∀ (ls : Array Slot), lv_has ls 7 [(0, .ref (aX 0)), (1, .int x1), (2, .int x2), (3, .long x3), (5, .int x5)] → W p l e rm_X6_split s m args below meth c H locs 0 0 Q (F0 m 110 ls []) := by
  obtain ⟨⟨hx, hb, hml, hown, hts⟩, hr, hlocks⟩ := id C0
  intro X_words x1 x2 x3 x5 hm H locs hP hD hS ls hl
  have hm : (k9 X_words x1 x2 x3 (x5 + 1)) = some res := hm
  refine lv_iinc (v := x5 + 1) (lv' := [(5, .int (x5 + 1)), (0, .ref (aX 0)), (1, .int x1), (2, .int x2), (3, .long x3)]) hx hb dX6_split_110 hl (k := 4) rfl rfl (by decide) rfl (fun ls hl => ?_)
  refine lv_goto (tgt := 9) hx hb dX6_split_113 (by decide) ?_
  exact hk9 X_words x1 x2 x3 (x5 + 1) hm H locs hP hD hS ls (lv_sub hl [1, 2, 3, 4, 0] rfl)
set_option maxHeartbeats 4000000 in
set_option maxRecDepth 100000 in
theorem k_X6_split_69 {p : Program} {l : Launch} {e : Env} {s : State} {m : MethodId} {args : Array Value} {below : List Frame} {meth : Method} {c : Code} {Q : State → Prop} {dC : Nat → ClassId} {dI : Nat → Nat → Nat} {cI cJ cB cZ : ClassId} {A : Nat → Prop} (C0 : Cx p s m meth c args cX6_split 7 (some .int) wsX6_split RX6) (hK : va_K (dC, dI) vwCl [(cI, .int), (cJ, .long), (cB, .byte), (cZ, .boolean)] s) (hN : NW s) (hA : ∀ q, s.heap.size ≤ q → A q) (aX : Nat → Nat) (X_length : Int32) (X_bytes : Nat → Int32) (res : Int32 × (Nat → Int64)) (RET : RT_X6_split p l e s m args below meth c Q dC dI cI cJ cB cZ A aX X_length X_bytes res) (k9 : (Nat → Int64) → Int32 → Int32 → Int64 → Int32 → Option (Int32 × (Nat → Int64))) (hk9 : ∀ (X_words : Nat → Int64) (x1 : Int32) (x2 : Int32) (x3 : Int64) (x5 : Int32), k9 X_words x1 x2 x3 x5 = some res → ∀ (H : Heap) (locs : List Loc), va_P (dC, dI) vwCl [((aX 0), .inr (6, [.ref (aX 1), .ref (aX 2), .int X_length])), ((aX 1), .inl (cB, 1500, .inl X_bytes)), ((aX 2), .inl (cJ, 750, .inr (.inl X_words)))] H → va_D A [((aX 0), .inr (6, [.ref (aX 1), .ref (aX 2), .int X_length])), ((aX 1), .inl (cB, 1500, .inl X_bytes)), ((aX 2), .inl (cJ, 750, .inr (.inl X_words)))] → va_S A s.heap H locs → ∀ (ls : Array Slot), lv_has ls 7 [(0, .ref (aX 0)), (1, .int x1), (2, .int x2), (3, .long x3), (5, .int x5)] → W p l e rm_X6_split s m args below meth c H locs 0 0 Q (F0 m 9 ls [])) : ∀ (X_words : Nat → Int64) (x1 : Int32) (x5 : Int32), m_X6_split_69 X_length X_bytes k9 X_words x1 x5 = some res → ∀ (H : Heap) (locs : List Loc), va_P (dC, dI) vwCl [((aX 0), .inr (6, [.ref (aX 1), .ref (aX 2), .int X_length])), ((aX 1), .inl (cB, 1500, .inl X_bytes)), ((aX 2), .inl (cJ, 750, .inr (.inl X_words)))] H → va_D A [((aX 0), .inr (6, [.ref (aX 1), .ref (aX 2), .int X_length])), ((aX 1), .inl (cB, 1500, .inl X_bytes)), ((aX 2), .inl (cJ, 750, .inr (.inl X_words)))] → va_S A s.heap H locs → ∀ (ls : Array Slot), lv_has ls 7 [(0, .ref (aX 0)), (1, .int x1), (5, .int x5)] → W p l e rm_X6_split s m args below meth c H locs 0 0 Q (F0 m 69 ls []) := by
  obtain ⟨⟨hx, hb, hml, hown, hts⟩, hr, hlocks⟩ := id C0
  intro X_words x1 x5 hm H locs hP hD hS ls hl
  have hm : (m_X6_split_110 X_length X_bytes k9 X_words x1 0 0 x5) = some res := hm
  refine lv_iconst (v := 0) hx hb dX6_split_69 (by decide) ?_
  refine lv_istore_n (lv' := [(2, .int 0), (0, .ref (aX 0)), (1, .int x1), (5, .int x5)]) hx hb dX6_split_70 rfl hl (by decide) rfl (fun ls hl => ?_)
  refine lv_lconst (v := 0) hx hb dX6_split_71 rfl ?_
  refine lv_lstore_n (lv' := [(3, .long 0), (2, .int 0), (0, .ref (aX 0)), (1, .int x1), (5, .int x5)]) hx hb dX6_split_72 rfl hl (by decide) rfl (fun ls hl => ?_)
  refine lv_goto (tgt := 110) hx hb dX6_split_73 (by decide) ?_
  exact k_X6_split_110 C0 hK hN hA aX X_length X_bytes res RET k9 hk9 X_words x1 0 0 x5 hm H locs hP hD hS ls (lv_sub hl [2, 3, 1, 0, 4] rfl)
set_option maxHeartbeats 4000000 in
set_option maxRecDepth 100000 in
theorem k_X6_split_39 {p : Program} {l : Launch} {e : Env} {s : State} {m : MethodId} {args : Array Value} {below : List Frame} {meth : Method} {c : Code} {Q : State → Prop} {dC : Nat → ClassId} {dI : Nat → Nat → Nat} {cI cJ cB cZ : ClassId} {A : Nat → Prop} (C0 : Cx p s m meth c args cX6_split 7 (some .int) wsX6_split RX6) (hK : va_K (dC, dI) vwCl [(cI, .int), (cJ, .long), (cB, .byte), (cZ, .boolean)] s) (hN : NW s) (hA : ∀ q, s.heap.size ≤ q → A q) (aX : Nat → Nat) (X_length : Int32) (X_bytes : Nat → Int32) (res : Int32 × (Nat → Int64)) (RET : RT_X6_split p l e s m args below meth c Q dC dI cI cJ cB cZ A aX X_length X_bytes res) (k9 : (Nat → Int64) → Int32 → Int32 → Int64 → Int32 → Option (Int32 × (Nat → Int64))) (hk9 : ∀ (X_words : Nat → Int64) (x1 : Int32) (x2 : Int32) (x3 : Int64) (x5 : Int32), k9 X_words x1 x2 x3 x5 = some res → ∀ (H : Heap) (locs : List Loc), va_P (dC, dI) vwCl [((aX 0), .inr (6, [.ref (aX 1), .ref (aX 2), .int X_length])), ((aX 1), .inl (cB, 1500, .inl X_bytes)), ((aX 2), .inl (cJ, 750, .inr (.inl X_words)))] H → va_D A [((aX 0), .inr (6, [.ref (aX 1), .ref (aX 2), .int X_length])), ((aX 1), .inl (cB, 1500, .inl X_bytes)), ((aX 2), .inl (cJ, 750, .inr (.inl X_words)))] → va_S A s.heap H locs → ∀ (ls : Array Slot), lv_has ls 7 [(0, .ref (aX 0)), (1, .int x1), (2, .int x2), (3, .long x3), (5, .int x5)] → W p l e rm_X6_split s m args below meth c H locs 0 0 Q (F0 m 9 ls [])) : ∀ (X_words : Nat → Int64) (x1 : Int32) (x2 : Int32) (x3 : Int64) (x5 : Int32) (y0 : Int32), m_X6_split_39 X_length X_bytes k9 X_words x1 x2 x3 x5 y0 = some res → ∀ (H : Heap) (locs : List Loc), va_P (dC, dI) vwCl [((aX 0), .inr (6, [.ref (aX 1), .ref (aX 2), .int X_length])), ((aX 1), .inl (cB, 1500, .inl X_bytes)), ((aX 2), .inl (cJ, 750, .inr (.inl X_words)))] H → va_D A [((aX 0), .inr (6, [.ref (aX 1), .ref (aX 2), .int X_length])), ((aX 1), .inl (cB, 1500, .inl X_bytes)), ((aX 2), .inl (cJ, 750, .inr (.inl X_words)))] → va_S A s.heap H locs → ∀ (ls : Array Slot), lv_has ls 7 [(0, .ref (aX 0)), (1, .int x1), (2, .int x2), (3, .long x3), (5, .int x5)] → W p l e rm_X6_split s m args below meth c H locs 0 0 Q (F0 m 39 ls [.int y0]) := by
  obtain ⟨⟨hx, hb, hml, hown, hts⟩, hr, hlocks⟩ := id C0
  intro X_words x1 x2 x3 x5 y0 hm H locs hP hD hS ls hl
  have hm : (if y0 = 32 then (if x2 ≤ 0 then (m_X6_split_69 X_length X_bytes k9 X_words x1 x5) else (if 750 ≤ x1 then (m_X6_split_69 X_length X_bytes k9 X_words x1 x5) else (gd x1 750 (m_X6_split_69 X_length X_bytes k9 (vp_updL X_words x1.toNatClampNeg x3) (x1 + 1) x5)))) else (if y0 < 33 then (some ((-1), X_words)) else (if 126 < y0 then (some ((-1), X_words)) else (if x2 = 8 then (some ((-1), X_words)) else (m_X6_split_110 X_length X_bytes k9 X_words x1 (x2 + 1) ((x3 <<< ((8 : Int32).toInt64 &&& 63)) ||| y0.toInt64) x5))))) = some res := hm
  refine lv_istore (lv' := [(6, .int y0), (0, .ref (aX 0)), (1, .int x1), (2, .int x2), (3, .long x3), (5, .int x5)]) hx hb dX6_split_39 hl (by decide) rfl (fun ls hl => ?_)
  refine lv_iload hx hb dX6_split_41 (lv_at hl 0 rfl) ?_
  refine lv_bipush (v := 32) hx hb dX6_split_43 (by decide) ?_
  refine lv_icmp_ne (tgt := 76) hx hb dX6_split_45 (by decide) (fun c_1 => ?_) (fun c_1 => ?_)
  · have hm := if_some' c_1 hm
    refine lv_iload hx hb dX6_split_76 (lv_at hl 0 rfl) ?_
    refine lv_bipush (v := 33) hx hb dX6_split_78 (by decide) ?_
    refine lv_icmp_lt (tgt := 96) hx hb dX6_split_80 (by decide) (fun c_2 => ?_) (fun c_2 => ?_)
    · have hm := it_some c_2 hm
      refine lv_iconst (v := (-1)) hx hb dX6_split_96 (by decide) ?_
      exact RET (-1) X_words hm _ H locs ls dX6_split_97 hP hD hS
    · have hm := if_some' c_2 hm
      refine lv_iload hx hb dX6_split_83 (lv_at hl 0 rfl) ?_
      refine lv_bipush (v := 126) hx hb dX6_split_85 (by decide) ?_
      refine lv_icmp_gt (tgt := 96) hx hb dX6_split_87 (by decide) (fun c_3 => ?_) (fun c_3 => ?_)
      · have hm := it_some c_3 hm
        refine lv_iconst (v := (-1)) hx hb dX6_split_96 (by decide) ?_
        exact RET (-1) X_words hm _ H locs ls dX6_split_97 hP hD hS
      · have hm := if_some' c_3 hm
        refine lv_iload_n hx hb dX6_split_90 rfl (lv_at hl 3 rfl) ?_
        refine lv_bipush (v := 8) hx hb dX6_split_91 (by decide) ?_
        refine lv_icmp_ne (tgt := 98) hx hb dX6_split_93 (by decide) (fun c_4 => ?_) (fun c_4 => ?_)
        · have hm := if_some' c_4 hm
          refine lv_lload_n hx hb dX6_split_98 rfl (lv_at hl 4 rfl) ?_
          refine lv_bipush (v := 8) hx hb dX6_split_99 (by decide) ?_
          refine lv_lshl (v := x3 <<< ((8 : Int32).toInt64 &&& 63)) hx hb dX6_split_101 rfl ?_
          refine lv_iload hx hb dX6_split_102 (lv_at hl 0 rfl) ?_
          refine lv_i2l (v := y0.toInt64) hx hb dX6_split_104 rfl ?_
          refine lv_lor hx hb dX6_split_105 ?_
          refine lv_lstore_n (lv' := [(3, .long ((x3 <<< ((8 : Int32).toInt64 &&& 63)) ||| y0.toInt64)), (6, .int y0), (0, .ref (aX 0)), (1, .int x1), (2, .int x2), (5, .int x5)]) hx hb dX6_split_106 rfl hl (by decide) rfl (fun ls hl => ?_)
          refine lv_iinc (v := x2 + 1) (lv' := [(2, .int (x2 + 1)), (3, .long ((x3 <<< ((8 : Int32).toInt64 &&& 63)) ||| y0.toInt64)), (6, .int y0), (0, .ref (aX 0)), (1, .int x1), (5, .int x5)]) hx hb dX6_split_107 hl (k := 4) rfl rfl (by decide) rfl (fun ls hl => ?_)
          exact k_X6_split_110 C0 hK hN hA aX X_length X_bytes res RET k9 hk9 X_words x1 (x2 + 1) ((x3 <<< ((8 : Int32).toInt64 &&& 63)) ||| y0.toInt64) x5 hm H locs hP hD hS ls (lv_sub hl [3, 4, 0, 1, 5] rfl)
        · have hm := it_some c_4 hm
          refine lv_iconst (v := (-1)) hx hb dX6_split_96 (by decide) ?_
          exact RET (-1) X_words hm _ H locs ls dX6_split_97 hP hD hS
  · have hm := it_some c_1 hm
    refine lv_iload_n hx hb dX6_split_48 rfl (lv_at hl 3 rfl) ?_
    refine lv_if_le (tgt := 69) hx hb dX6_split_49 (by decide) (fun c_5 => ?_) (fun c_5 => ?_)
    · have hm := it_some c_5 hm
      exact k_X6_split_69 C0 hK hN hA aX X_length X_bytes res RET k9 hk9 X_words x1 x5 hm H locs hP hD hS ls (lv_sub hl [1, 2, 5] rfl)
    · have hm := if_some' c_5 hm
      refine lv_iload_n hx hb dX6_split_52 rfl (lv_at hl 2 rfl) ?_
      refine lv_sipush (v := 750) hx hb dX6_split_53 (by decide) ?_
      refine lv_icmp_ge (tgt := 69) hx hb dX6_split_56 (by decide) (fun c_6 => ?_) (fun c_6 => ?_)
      · have hm := it_some c_6 hm
        exact k_X6_split_69 C0 hK hN hA aX X_length X_bytes res RET k9 hk9 X_words x1 x5 hm H locs hP hD hS ls (lv_sub hl [1, 2, 5] rfl)
      · have hm := if_some' c_6 hm
        refine lv_aload_n hx hb dX6_split_59 rfl (lv_at hl 1 rfl) ?_
        refine va_get (D := (dC, dI)) (ci := 6) (v := .ref (aX 2)) (C := RX6) (T := TX6) (N := 3) hx hb hts X6_split_inX6 hown hK hP 0 rfl rfl 1 (by decide) (hts (.fieldLink RX6 15 "MixfixDesk$Text" "words" "[J") (by decide +kernel)) (fun _ h9 => h9) rfl dX6_split_60 ?_
        refine lv_iload_n hx hb dX6_split_63 rfl (lv_at hl 2 rfl) ?_
        refine lv_lload_n hx hb dX6_split_64 rfl (lv_at hl 4 rfl) ?_
        obtain ⟨hi_7, hm⟩ := gd_some hm
        refine va_last (D := (dC, dI)) hx hb hK hP hD hS 2 1 rfl rfl hi_7 dX6_split_65 (fun H locs hP hD hS => ?_)
        have hP : va_P (dC, dI) vwCl [((aX 0), .inr (6, [.ref (aX 1), .ref (aX 2), .int X_length])), ((aX 1), .inl (cB, 1500, .inl X_bytes)), ((aX 2), .inl (cJ, 750, .inr (.inl (vp_updL X_words x1.toNatClampNeg x3))))] H := hP
        have hD : va_D A [((aX 0), .inr (6, [.ref (aX 1), .ref (aX 2), .int X_length])), ((aX 1), .inl (cB, 1500, .inl X_bytes)), ((aX 2), .inl (cJ, 750, .inr (.inl (vp_updL X_words x1.toNatClampNeg x3))))] := hD
        refine lv_iinc (v := x1 + 1) (lv' := [(1, .int (x1 + 1)), (6, .int y0), (0, .ref (aX 0)), (2, .int x2), (3, .long x3), (5, .int x5)]) hx hb dX6_split_66 hl (k := 2) rfl rfl (by decide) rfl (fun ls hl => ?_)
        exact k_X6_split_69 C0 hK hN hA aX X_length X_bytes res RET k9 hk9 (vp_updL X_words x1.toNatClampNeg x3) (x1 + 1) x5 hm H locs hP hD hS ls (lv_sub hl [2, 0, 5] rfl)
set_option maxHeartbeats 4000000 in
set_option maxRecDepth 100000 in
theorem k_X6_split_9 {p : Program} {l : Launch} {e : Env} {s : State} {m : MethodId} {args : Array Value} {below : List Frame} {meth : Method} {c : Code} {Q : State → Prop} {dC : Nat → ClassId} {dI : Nat → Nat → Nat} {cI cJ cB cZ : ClassId} {A : Nat → Prop} (C0 : Cx p s m meth c args cX6_split 7 (some .int) wsX6_split RX6) (hK : va_K (dC, dI) vwCl [(cI, .int), (cJ, .long), (cB, .byte), (cZ, .boolean)] s) (hN : NW s) (hA : ∀ q, s.heap.size ≤ q → A q) (aX : Nat → Nat) (X_length : Int32) (X_bytes : Nat → Int32) (res : Int32 × (Nat → Int64)) (RET : RT_X6_split p l e s m args below meth c Q dC dI cI cJ cB cZ A aX X_length X_bytes res)   : ∀ (n : Nat) (X_words : Nat → Int64) (x1 : Int32) (x2 : Int32) (x3 : Int64) (x5 : Int32), m_X6_split_9 X_length X_bytes n X_words x1 x2 x3 x5 = some res → ∀ (H : Heap) (locs : List Loc), va_P (dC, dI) vwCl [((aX 0), .inr (6, [.ref (aX 1), .ref (aX 2), .int X_length])), ((aX 1), .inl (cB, 1500, .inl X_bytes)), ((aX 2), .inl (cJ, 750, .inr (.inl X_words)))] H → va_D A [((aX 0), .inr (6, [.ref (aX 1), .ref (aX 2), .int X_length])), ((aX 1), .inl (cB, 1500, .inl X_bytes)), ((aX 2), .inl (cJ, 750, .inr (.inl X_words)))] → va_S A s.heap H locs → ∀ (ls : Array Slot), lv_has ls 7 [(0, .ref (aX 0)), (1, .int x1), (2, .int x2), (3, .long x3), (5, .int x5)] → W p l e rm_X6_split s m args below meth c H locs 0 0 Q (F0 m 9 ls []) := by
  obtain ⟨⟨hx, hb, hml, hown, hts⟩, hr, hlocks⟩ := id C0
  intro n
  induction n with
  | zero =>
    intro X_words x1 x2 x3 x5 hm
    exact absurd hm (by intro h; cases h)
  | succ n ih =>
    intro X_words x1 x2 x3 x5 hm H locs hP hD hS ls hl
    have hm : (if X_length < x5 then (some (x1, X_words)) else (if X_length ≤ x5 then (m_X6_split_39 X_length X_bytes (m_X6_split_9 X_length X_bytes n) X_words x1 x2 x3 x5 32) else (gd x5 1500 (m_X6_split_39 X_length X_bytes (m_X6_split_9 X_length X_bytes n) X_words x1 x2 x3 x5 (X_bytes x5.toNatClampNeg))))) = some res := hm
    refine lv_iload hx hb dX6_split_9 (lv_at hl 4 rfl) ?_
    refine lv_aload_n hx hb dX6_split_11 rfl (lv_at hl 0 rfl) ?_
    refine va_get (D := (dC, dI)) (ci := 6) (v := .int X_length) (C := RX6) (T := TX6) (N := 3) hx hb hts X6_split_inX6 hown hK hP 0 rfl rfl 2 (by decide) (hts (.fieldLink RX6 19 "MixfixDesk$Text" "length" "I") (by decide +kernel)) (fun _ h9 => h9) rfl dX6_split_12 ?_
    refine lv_icmp_gt (tgt := 116) hx hb dX6_split_15 (by decide) (fun c_8 => ?_) (fun c_8 => ?_)
    · have hm := it_some c_8 hm
      refine lv_iload_n hx hb dX6_split_116 rfl (lv_at hl 1 rfl) ?_
      exact RET x1 X_words hm _ H locs ls dX6_split_117 hP hD hS
    · have hm := if_some' c_8 hm
      refine lv_iload hx hb dX6_split_18 (lv_at hl 4 rfl) ?_
      refine lv_aload_n hx hb dX6_split_20 rfl (lv_at hl 0 rfl) ?_
      refine va_get (D := (dC, dI)) (ci := 6) (v := .int X_length) (C := RX6) (T := TX6) (N := 3) hx hb hts X6_split_inX6 hown hK hP 0 rfl rfl 2 (by decide) (hts (.fieldLink RX6 19 "MixfixDesk$Text" "length" "I") (by decide +kernel)) (fun _ h9 => h9) rfl dX6_split_21 ?_
      refine lv_icmp_ge (tgt := 37) hx hb dX6_split_24 (by decide) (fun c_9 => ?_) (fun c_9 => ?_)
      · have hm := it_some c_9 hm
        refine lv_bipush (v := 32) hx hb dX6_split_37 (by decide) ?_
        exact k_X6_split_39 C0 hK hN hA aX X_length X_bytes res RET (m_X6_split_9 X_length X_bytes n) ih X_words x1 x2 x3 x5 32 hm H locs hP hD hS ls hl
      · have hm := if_some' c_9 hm
        refine lv_aload_n hx hb dX6_split_27 rfl (lv_at hl 0 rfl) ?_
        refine va_get (D := (dC, dI)) (ci := 6) (v := .ref (aX 1)) (C := RX6) (T := TX6) (N := 3) hx hb hts X6_split_inX6 hown hK hP 0 rfl rfl 0 (by decide) (hts (.fieldLink RX6 9 "MixfixDesk$Text" "bytes" "[B") (by decide +kernel)) (fun _ h9 => h9) rfl dX6_split_28 ?_
        refine lv_iload hx hb dX6_split_31 (lv_at hl 4 rfl) ?_
        obtain ⟨hi_10, hm⟩ := gd_some hm
        refine va_bald (D := (dC, dI)) hx hb hK hP 1 2 rfl rfl hi_10 dX6_split_33 ?_
        refine lv_goto (tgt := 39) hx hb dX6_split_34 (by decide) ?_
        exact k_X6_split_39 C0 hK hN hA aX X_length X_bytes res RET (m_X6_split_9 X_length X_bytes n) ih X_words x1 x2 x3 x5 (X_bytes x5.toNatClampNeg) hm H locs hP hD hS ls hl
set_option maxHeartbeats 4000000 in
set_option maxRecDepth 100000 in
theorem k_X6_split_E {p : Program} {l : Launch} {e : Env} {s : State} {m : MethodId} {args : Array Value} {below : List Frame} {meth : Method} {c : Code} {Q : State → Prop} {dC : Nat → ClassId} {dI : Nat → Nat → Nat} {cI cJ cB cZ : ClassId} {A : Nat → Prop} (C0 : Cx p s m meth c args cX6_split 7 (some .int) wsX6_split RX6) (hK : va_K (dC, dI) vwCl [(cI, .int), (cJ, .long), (cB, .byte), (cZ, .boolean)] s) (hN : NW s) (hA : ∀ q, s.heap.size ≤ q → A q) (aX : Nat → Nat) (X_length : Int32) (X_bytes : Nat → Int32) (res : Int32 × (Nat → Int64)) (RET : RT_X6_split p l e s m args below meth c Q dC dI cI cJ cB cZ A aX X_length X_bytes res) : ∀ (X_words : Nat → Int64), m_X6_split X_bytes X_words X_length = some res → ∀ (H : Heap) (locs : List Loc), va_P (dC, dI) vwCl [((aX 0), .inr (6, [.ref (aX 1), .ref (aX 2), .int X_length])), ((aX 1), .inl (cB, 1500, .inl X_bytes)), ((aX 2), .inl (cJ, 750, .inr (.inl X_words)))] H → va_D A [((aX 0), .inr (6, [.ref (aX 1), .ref (aX 2), .int X_length])), ((aX 1), .inl (cB, 1500, .inl X_bytes)), ((aX 2), .inl (cJ, 750, .inr (.inl X_words)))] → va_S A s.heap H locs → ∀ (ls : Array Slot), lv_has ls 7 [(0, .ref (aX 0))] → W p l e rm_X6_split s m args below meth c H locs 0 0 Q (F0 m 0 ls []) := by
  obtain ⟨⟨hx, hb, hml, hown, hts⟩, hr, hlocks⟩ := id C0
  intro X_words hm H locs hP hD hS ls hl
  have hm : (m_X6_split_9 X_length X_bytes FU X_words 0 0 0 0) = some res := hm
  refine lv_iconst (v := 0) hx hb dX6_split_0 (by decide) ?_
  refine lv_istore_n (lv' := [(1, .int 0), (0, .ref (aX 0))]) hx hb dX6_split_1 rfl hl (by decide) rfl (fun ls hl => ?_)
  refine lv_iconst (v := 0) hx hb dX6_split_2 (by decide) ?_
  refine lv_istore_n (lv' := [(2, .int 0), (1, .int 0), (0, .ref (aX 0))]) hx hb dX6_split_3 rfl hl (by decide) rfl (fun ls hl => ?_)
  refine lv_lconst (v := 0) hx hb dX6_split_4 rfl ?_
  refine lv_lstore_n (lv' := [(3, .long 0), (2, .int 0), (1, .int 0), (0, .ref (aX 0))]) hx hb dX6_split_5 rfl hl (by decide) rfl (fun ls hl => ?_)
  refine lv_iconst (v := 0) hx hb dX6_split_6 (by decide) ?_
  refine lv_istore (lv' := [(5, .int 0), (3, .long 0), (2, .int 0), (1, .int 0), (0, .ref (aX 0))]) hx hb dX6_split_7 hl (by decide) rfl (fun ls hl => ?_)
  exact k_X6_split_9 C0 hK hN hA aX X_length X_bytes res RET FU X_words 0 0 0 0 hm H locs hP hD hS ls (lv_sub hl [4, 3, 2, 1, 0] rfl)
set_option maxHeartbeats 4000000 in
set_option maxRecDepth 100000 in
theorem c_X6_split (l : Launch) (dC : Nat → ClassId) (dI : Nat → Nat → Nat) (cI cJ cB cZ : ClassId) (aX : Nat → Nat) (sz : Nat) (X_length : Int32) (X_bytes : Nat → Int32) (X_words : Nat → Int64) (res : Int32 × (Nat → Int64)) (hm : m_X6_split X_bytes X_words X_length = some res) : Met l yX6_split wsX6_split rm_X6_split (cP (dC, dI) vwCl [(cI, .int), (cJ, .long), (cB, .byte), (cZ, .boolean)] [.ref (aX 0)] [((aX 0), .inr (6, [.ref (aX 1), .ref (aX 2), .int X_length])), ((aX 1), .inl (cB, 1500, .inl X_bytes)), ((aX 2), .inl (cJ, 750, .inr (.inl X_words)))] sz) (cQi res.1 (dC, dI) vwCl [((aX 0), .inr (6, [.ref (aX 1), .ref (aX 2), .int X_length])), ((aX 1), .inl (cB, 1500, .inl X_bytes)), ((aX 2), .inl (cJ, 750, .inr (.inl res.2)))] [((aX 0), .inr (6, [.ref (aX 1), .ref (aX 2), .int X_length])), ((aX 1), .inl (cB, 1500, .inl X_bytes)), ((aX 2), .inl (cJ, 750, .inr (.inl X_words)))] sz) 0 0 (va_A [((aX 0), .inr (6, [.ref (aX 1), .ref (aX 2), .int X_length])), ((aX 1), .inl (cB, 1500, .inl X_bytes)), ((aX 2), .inl (cJ, 750, .inr (.inl X_words)))] sz) := by
  refine cx_of (cc := cX6_split) (maxL := 7) (ret := (some .int)) (own := RX6) (by decide) rfl rfl (Nat.le_of_ble_eq_true rfl) ?_
  intro p e s m below meth c A C0 hinN hK hN hsz hAe hA hP hD hS ls hl
  refine k_X6_split_E C0 hK hN hA aX X_length X_bytes res ?_ X_words hm _ _ hP hD hS ls hl
  intro v X_words he pc H locs ls hdg hP hD hS
  have he := Option.some.inj he
  subst he
  exact cx_reti C0 hsz hAe hdg hP hD hS

