set_option maxRecDepth 20000 in
theorem ggX8_octet_X1_length : GoodIn wsX8_octet wsX1_length := goodIn_r _ [6, 7, 24, 25] (by decide +kernel) (by decide +kernel)
set_option maxRecDepth 20000 in
theorem gX8_octet_X1_length : GoodIn wsX8_octet (wsV RX8 205 RX1 yX1_length wsX1_length) := goodIn_app (goodIn_of _ (by decide +kernel)) ggX8_octet_X1_length
set_option maxRecDepth 20000 in
theorem ggX8_octet_X1_at : GoodIn wsX8_octet wsX1_at := goodIn_r _ [11, 12, 24, 25] (by decide +kernel) (by decide +kernel)
set_option maxRecDepth 20000 in
theorem gX8_octet_X1_at : GoodIn wsX8_octet (wsV RX8 206 RX1 yX1_at wsX1_at) := goodIn_app (goodIn_of _ (by decide +kernel)) ggX8_octet_X1_at
theorem dX8_octet_0 : decode cX8_octet 0 = .ok (.iload_n 1, 1) := by decide +kernel
theorem dX8_octet_1 : decode cX8_octet 1 = .ok (.ifCond .lt 14, 3) := by decide +kernel
theorem dX8_octet_4 : decode cX8_octet 4 = .ok (.iload_n 1, 1) := by decide +kernel
theorem dX8_octet_5 : decode cX8_octet 5 = .ok (.aload_n 0, 1) := by decide +kernel
theorem dX8_octet_6 : decode cX8_octet 6 = .ok (.getfield 70, 3) := by decide +kernel
theorem dX8_octet_9 : decode cX8_octet 9 = .ok (.invokevirtual 205, 3) := by decide +kernel
theorem dX8_octet_12 : decode cX8_octet 12 = .ok (.if_icmp .lt 7, 3) := by decide +kernel
theorem dX8_octet_15 : decode cX8_octet 15 = .ok (.iconst (-1), 1) := by decide +kernel
theorem dX8_octet_16 : decode cX8_octet 16 = .ok (.goto 11, 3) := by decide +kernel
theorem dX8_octet_19 : decode cX8_octet 19 = .ok (.aload_n 0, 1) := by decide +kernel
theorem dX8_octet_20 : decode cX8_octet 20 = .ok (.getfield 70, 3) := by decide +kernel
theorem dX8_octet_23 : decode cX8_octet 23 = .ok (.iload_n 1, 1) := by decide +kernel
theorem dX8_octet_24 : decode cX8_octet 24 = .ok (.invokevirtual 206, 3) := by decide +kernel
theorem dX8_octet_27 : decode cX8_octet 27 = .ok (.ireturn, 1) := by decide +kernel
/-! MixfixDesk.octet(I)I -/
abbrev rm_X8_octet : Room := { frames := 1, cells := 0, slots := 0, locals := 21 }
theorem X8_octet_inX8 : ∀ w ∈ wsX80, w ∈ wsX8_octet := by decide +kernel
theorem X8_octet_inX1 : ∀ w ∈ wsX10, w ∈ wsX8_octet := by decide +kernel
abbrev RT_X8_octet (p : Program) (l : Launch) (e : Env) (s : State) (m : MethodId) (args : Array Value) (below : List Frame) (meth : Method) (c : Code) (Q : State → Prop) (dC : Nat → ClassId) (dI : Nat → Nat → Nat) (cI cJ cB cZ : ClassId) (A : Nat → Prop) (aD : Nat → Nat) (xD_text : Nat) (xD_rules : Nat) (xD_parsed : Nat) (xD_asked : Nat) (xD_taken : Nat) (xD_taker : Nat) (xD_reader : Nat) (xD_ranker : Nat) (aP : Nat → Nat) (D_isParsed : Int32) (D_isTaken : Int32) (P_length : Int32) (P_bytes : Nat → Int32) (res : Int32) : Prop := ∀ (v : Int32) , some v = some res → ∀ (pc : Nat) (H : Heap) (locs : List Loc) (ls : Array Slot), decode cX8_octet pc = .ok (.ireturn, 1) → va_P (dC, dI) vwCl [((aD 0), .inr (8, [.ref xD_text, .ref xD_rules, .ref xD_parsed, .ref xD_asked, .ref xD_taken, .ref xD_taker, .ref xD_reader, .ref xD_ranker, .ref (aP 0), .int D_isParsed, .int D_isTaken])), ((aP 0), .inr (1, [.ref (aP 1), .int P_length])), ((aP 1), .inl (cB, 600, .inl P_bytes))] H → va_D A [((aD 0), .inr (8, [.ref xD_text, .ref xD_rules, .ref xD_parsed, .ref xD_asked, .ref xD_taken, .ref xD_taker, .ref xD_reader, .ref xD_ranker, .ref (aP 0), .int D_isParsed, .int D_isTaken])), ((aP 0), .inr (1, [.ref (aP 1), .int P_length])), ((aP 1), .inl (cB, 600, .inl P_bytes))] → va_S A s.heap H locs → W p l e rm_X8_octet s m args below meth c H locs 0 0 Q (F0 m pc ls [.int v])
set_option maxHeartbeats 4000000 in
set_option maxRecDepth 100000 in
theorem k_X8_octet_E {p : Program} {l : Launch} {e : Env} {s : State} {m : MethodId} {args : Array Value} {below : List Frame} {meth : Method} {c : Code} {Q : State → Prop} {dC : Nat → ClassId} {dI : Nat → Nat → Nat} {cI cJ cB cZ : ClassId} {A : Nat → Prop} (C0 : Cx p s m meth c args cX8_octet 2 (some .int) wsX8_octet RX8) (hK : va_K (dC, dI) vwCl [(cI, .int), (cJ, .long), (cB, .byte), (cZ, .boolean)] s) (hN : NW s) (hA : ∀ q, s.heap.size ≤ q → A q) (aD : Nat → Nat) (xD_text : Nat) (xD_rules : Nat) (xD_parsed : Nat) (xD_asked : Nat) (xD_taken : Nat) (xD_taker : Nat) (xD_reader : Nat) (xD_ranker : Nat) (aP : Nat → Nat) (D_isParsed : Int32) (D_isTaken : Int32) (P_length : Int32) (P_bytes : Nat → Int32) (res : Int32) (RET : RT_X8_octet p l e s m args below meth c Q dC dI cI cJ cB cZ A aD xD_text xD_rules xD_parsed xD_asked xD_taken xD_taker xD_reader xD_ranker aP D_isParsed D_isTaken P_length P_bytes res) : ∀ (p0 : Int32), m_X8_octet P_bytes P_length p0 = some res → ∀ (H : Heap) (locs : List Loc), va_P (dC, dI) vwCl [((aD 0), .inr (8, [.ref xD_text, .ref xD_rules, .ref xD_parsed, .ref xD_asked, .ref xD_taken, .ref xD_taker, .ref xD_reader, .ref xD_ranker, .ref (aP 0), .int D_isParsed, .int D_isTaken])), ((aP 0), .inr (1, [.ref (aP 1), .int P_length])), ((aP 1), .inl (cB, 600, .inl P_bytes))] H → va_D A [((aD 0), .inr (8, [.ref xD_text, .ref xD_rules, .ref xD_parsed, .ref xD_asked, .ref xD_taken, .ref xD_taker, .ref xD_reader, .ref xD_ranker, .ref (aP 0), .int D_isParsed, .int D_isTaken])), ((aP 0), .inr (1, [.ref (aP 1), .int P_length])), ((aP 1), .inl (cB, 600, .inl P_bytes))] → va_S A s.heap H locs → ∀ (ls : Array Slot), lv_has ls 2 [(0, .ref (aD 0)), (1, .int p0)] → W p l e rm_X8_octet s m args below meth c H locs 0 0 Q (F0 m 0 ls []) := by
  obtain ⟨⟨hx, hb, hml, hown, hts⟩, hr, hlocks⟩ := id C0
  intro p0 hm H locs hP hD hS ls hl
  have hm : (if p0 < 0 then (some (-1)) else (Option.bind (m_X1_length P_length) (fun r_2 => if p0 < r_2 then (Option.bind (m_X1_at P_bytes p0) (fun r_5 => some r_5)) else (some (-1))))) = some res := hm
  refine lv_iload_n hx hb dX8_octet_0 rfl (lv_at hl 1 rfl) ?_
  refine lv_if_lt (tgt := 15) hx hb dX8_octet_1 (by decide) (fun c_1 => ?_) (fun c_1 => ?_)
  · have hm := it_some c_1 hm
    refine lv_iconst (v := (-1)) hx hb dX8_octet_15 (by decide) ?_
    refine lv_goto (tgt := 27) hx hb dX8_octet_16 (by decide) ?_
    exact RET (-1) hm _ H locs ls dX8_octet_27 hP hD hS
  · have hm := if_some' c_1 hm
    refine lv_iload_n hx hb dX8_octet_4 rfl (lv_at hl 1 rfl) ?_
    refine lv_aload_n hx hb dX8_octet_5 rfl (lv_at hl 0 rfl) ?_
    refine va_get (D := (dC, dI)) (ci := 8) (v := .ref (aP 0)) (C := RX8) (T := TX8) (N := 11) hx hb hts X8_octet_inX8 hown hK hP 0 rfl rfl 8 (by decide) (hts (.fieldLink RX8 70 "MixfixDesk" "page" "LMixfixDesk$Page;") (by decide +kernel)) (fun _ h9 => h9) rfl dX8_octet_6 ?_
    obtain ⟨r_2, hc_3, hm⟩ := ob_some hm
    refine cx_i (wr := [((aD 0), .inr (8, [.ref xD_text, .ref xD_rules, .ref xD_parsed, .ref xD_asked, .ref xD_taken, .ref xD_taker, .ref xD_reader, .ref xD_ranker, .ref (aP 0), .int D_isParsed, .int D_isTaken])), ((aP 1), .inl (cB, 600, .inl P_bytes))]) (va_runV (As := []) (rest := [.int p0]) C0.1 (c_X1_length l dC dI cI cJ cB cZ aP H.size P_length r_2 hc_3) (cwV 0 hts gX8_octet_X1_length rfl rfl rfl (by decide +kernel) ⟨Nat.le_of_ble_eq_true rfl, Nat.le_of_ble_eq_true rfl⟩) (cP_V (ci := 1) (q0 := 1) hK hN hP hD rfl rfl [1] (by decide) rfl) rfl rfl hl.1 rfl (lv_room (Nat.le_of_ble_eq_true rfl)) dX8_octet_9 ⟨Nat.le_of_ble_eq_true rfl, Nat.le_of_ble_eq_true rfl⟩) hP hD hS hA [1] [0, 2] rfl rfl (by decide) (by decide) (fun H locs hP hD hS => ?_)
    have hP : va_P (dC, dI) vwCl [((aD 0), .inr (8, [.ref xD_text, .ref xD_rules, .ref xD_parsed, .ref xD_asked, .ref xD_taken, .ref xD_taker, .ref xD_reader, .ref xD_ranker, .ref (aP 0), .int D_isParsed, .int D_isTaken])), ((aP 1), .inl (cB, 600, .inl P_bytes)), ((aP 0), .inr (1, [.ref (aP 1), .int P_length]))] H := hP
    have hD : va_D A [((aD 0), .inr (8, [.ref xD_text, .ref xD_rules, .ref xD_parsed, .ref xD_asked, .ref xD_taken, .ref xD_taker, .ref xD_reader, .ref xD_ranker, .ref (aP 0), .int D_isParsed, .int D_isTaken])), ((aP 1), .inl (cB, 600, .inl P_bytes)), ((aP 0), .inr (1, [.ref (aP 1), .int P_length]))] := hD
    refine lv_icmp_lt (tgt := 19) hx hb dX8_octet_12 (by decide) (fun c_4 => ?_) (fun c_4 => ?_)
    · have hm := it_some c_4 hm
      refine lv_aload_n hx hb dX8_octet_19 rfl (lv_at hl 0 rfl) ?_
      refine va_get (D := (dC, dI)) (ci := 8) (v := .ref (aP 0)) (C := RX8) (T := TX8) (N := 11) hx hb hts X8_octet_inX8 hown hK hP 0 rfl rfl 8 (by decide) (hts (.fieldLink RX8 70 "MixfixDesk" "page" "LMixfixDesk$Page;") (by decide +kernel)) (fun _ h9 => h9) rfl dX8_octet_20 ?_
      refine lv_iload_n hx hb dX8_octet_23 rfl (lv_at hl 1 rfl) ?_
      obtain ⟨r_5, hc_6, hm⟩ := ob_some hm
      refine cx_i (wr := [((aD 0), .inr (8, [.ref xD_text, .ref xD_rules, .ref xD_parsed, .ref xD_asked, .ref xD_taken, .ref xD_taker, .ref xD_reader, .ref xD_ranker, .ref (aP 0), .int D_isParsed, .int D_isTaken]))]) (va_runV (As := [.int p0]) (rest := []) C0.1 (c_X1_at l dC dI cI cJ cB cZ aP H.size P_length P_bytes p0 r_5 hc_6) (cwV 1 hts gX8_octet_X1_at rfl rfl rfl (by decide +kernel) ⟨Nat.le_of_ble_eq_true rfl, Nat.le_of_ble_eq_true rfl⟩) (cP_V (ci := 1) (q0 := 2) hK hN hP hD rfl rfl [2, 1] (by decide) rfl) rfl rfl hl.1 rfl (lv_room (Nat.le_of_ble_eq_true rfl)) dX8_octet_24 ⟨Nat.le_of_ble_eq_true rfl, Nat.le_of_ble_eq_true rfl⟩) hP hD hS hA [2, 1] [0] rfl rfl (by decide) (by decide) (fun H locs hP hD hS => ?_)
      have hP : va_P (dC, dI) vwCl [((aD 0), .inr (8, [.ref xD_text, .ref xD_rules, .ref xD_parsed, .ref xD_asked, .ref xD_taken, .ref xD_taker, .ref xD_reader, .ref xD_ranker, .ref (aP 0), .int D_isParsed, .int D_isTaken])), ((aP 0), .inr (1, [.ref (aP 1), .int P_length])), ((aP 1), .inl (cB, 600, .inl P_bytes))] H := hP
      have hD : va_D A [((aD 0), .inr (8, [.ref xD_text, .ref xD_rules, .ref xD_parsed, .ref xD_asked, .ref xD_taken, .ref xD_taker, .ref xD_reader, .ref xD_ranker, .ref (aP 0), .int D_isParsed, .int D_isTaken])), ((aP 0), .inr (1, [.ref (aP 1), .int P_length])), ((aP 1), .inl (cB, 600, .inl P_bytes))] := hD
      exact RET r_5 hm _ H locs ls dX8_octet_27 hP hD hS
    · have hm := if_some' c_4 hm
      refine lv_iconst (v := (-1)) hx hb dX8_octet_15 (by decide) ?_
      refine lv_goto (tgt := 27) hx hb dX8_octet_16 (by decide) ?_
      exact RET (-1) hm _ H locs ls dX8_octet_27 (P_sub' hP [0, 2, 1] rfl) (hD.sub [0, 2, 1] (by decide) rfl) hS
set_option maxHeartbeats 4000000 in
set_option maxRecDepth 100000 in
theorem c_X8_octet (l : Launch) (dC : Nat → ClassId) (dI : Nat → Nat → Nat) (cI cJ cB cZ : ClassId) (aD : Nat → Nat) (xD_text : Nat) (xD_rules : Nat) (xD_parsed : Nat) (xD_asked : Nat) (xD_taken : Nat) (xD_taker : Nat) (xD_reader : Nat) (xD_ranker : Nat) (aP : Nat → Nat) (sz : Nat) (D_isParsed : Int32) (D_isTaken : Int32) (P_length : Int32) (P_bytes : Nat → Int32) (p0 : Int32) (res : Int32) (hm : m_X8_octet P_bytes P_length p0 = some res) : Met l yX8_octet wsX8_octet rm_X8_octet (cP (dC, dI) vwCl [(cI, .int), (cJ, .long), (cB, .byte), (cZ, .boolean)] [.ref (aD 0), .int p0] [((aD 0), .inr (8, [.ref xD_text, .ref xD_rules, .ref xD_parsed, .ref xD_asked, .ref xD_taken, .ref xD_taker, .ref xD_reader, .ref xD_ranker, .ref (aP 0), .int D_isParsed, .int D_isTaken])), ((aP 0), .inr (1, [.ref (aP 1), .int P_length])), ((aP 1), .inl (cB, 600, .inl P_bytes))] sz) (cQi res (dC, dI) vwCl [((aD 0), .inr (8, [.ref xD_text, .ref xD_rules, .ref xD_parsed, .ref xD_asked, .ref xD_taken, .ref xD_taker, .ref xD_reader, .ref xD_ranker, .ref (aP 0), .int D_isParsed, .int D_isTaken])), ((aP 0), .inr (1, [.ref (aP 1), .int P_length])), ((aP 1), .inl (cB, 600, .inl P_bytes))] [((aD 0), .inr (8, [.ref xD_text, .ref xD_rules, .ref xD_parsed, .ref xD_asked, .ref xD_taken, .ref xD_taker, .ref xD_reader, .ref xD_ranker, .ref (aP 0), .int D_isParsed, .int D_isTaken])), ((aP 0), .inr (1, [.ref (aP 1), .int P_length])), ((aP 1), .inl (cB, 600, .inl P_bytes))] sz) 0 0 (va_A [((aD 0), .inr (8, [.ref xD_text, .ref xD_rules, .ref xD_parsed, .ref xD_asked, .ref xD_taken, .ref xD_taker, .ref xD_reader, .ref xD_ranker, .ref (aP 0), .int D_isParsed, .int D_isTaken])), ((aP 0), .inr (1, [.ref (aP 1), .int P_length])), ((aP 1), .inl (cB, 600, .inl P_bytes))] sz) := by
  refine cx_of (cc := cX8_octet) (maxL := 2) (ret := (some .int)) (own := RX8) (by decide) rfl rfl (Nat.le_of_ble_eq_true rfl) ?_
  intro p e s m below meth c A C0 hinN hK hN hsz hAe hA hP hD hS ls hl
  refine k_X8_octet_E C0 hK hN hA aD xD_text xD_rules xD_parsed xD_asked xD_taken xD_taker xD_reader xD_ranker aP D_isParsed D_isTaken P_length P_bytes res ?_ p0 hm _ _ hP hD hS ls hl
  intro v he pc H locs ls hdg hP hD hS
  have he := Option.some.inj he
  subst he
  exact cx_reti C0 hsz hAe hdg hP hD hS

