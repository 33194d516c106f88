theorem dX6_init_0 : decode cX6_init 0 = .ok (.aload_n 0, 1) := by decide +kernel
theorem dX6_init_1 : decode cX6_init 1 = .ok (.invokespecial 3, 3) := by decide +kernel
theorem dX6_init_4 : decode cX6_init 4 = .ok (.aload_n 0, 1) := by decide +kernel
theorem dX6_init_5 : decode cX6_init 5 = .ok (.sipush 1500, 3) := by decide +kernel
theorem dX6_init_8 : decode cX6_init 8 = .ok (.newarray .byte, 2) := by decide +kernel
theorem dX6_init_10 : decode cX6_init 10 = .ok (.putfield 9, 3) := by decide +kernel
theorem dX6_init_13 : decode cX6_init 13 = .ok (.aload_n 0, 1) := by decide +kernel
theorem dX6_init_14 : decode cX6_init 14 = .ok (.sipush 750, 3) := by decide +kernel
theorem dX6_init_17 : decode cX6_init 17 = .ok (.newarray .long, 2) := by decide +kernel
theorem dX6_init_19 : decode cX6_init 19 = .ok (.putfield 15, 3) := by decide +kernel
theorem dX6_init_22 : decode cX6_init 22 = .ok (.aload_n 0, 1) := by decide +kernel
theorem dX6_init_23 : decode cX6_init 23 = .ok (.iconst 0, 1) := by decide +kernel
theorem dX6_init_24 : decode cX6_init 24 = .ok (.putfield 19, 3) := by decide +kernel
theorem dX6_init_27 : decode cX6_init 27 = .ok (.return_, 1) := by decide +kernel
/-! the constructor of MixfixDesk$Text -/
abbrev rm_X6_init : Room := { frames := 1, cells := 2, slots := 2250, locals := 12 }
theorem X6_init_inX6 : ∀ w ∈ wsX60, w ∈ wsX6_init := by decide +kernel
set_option maxHeartbeats 4000000 in
set_option maxRecDepth 100000 in
theorem c_X6_init (l : Launch) (dC : Nat → ClassId) (dI : Nat → Nat → Nat) (cI cJ cB cZ : ClassId) (a0 sz : Nat)  : Met l yX6_init wsX6_init rm_X6_init (cP (dC, dI) vwCl [(cI, .int), (cJ, .long), (cB, .byte), (cZ, .boolean)] [.ref a0] [(a0, .inr (6, [.null, .null, .int 0]))] sz) (cQvu a0 (dC, dI) vwCl (fun u : Nat → Nat → Nat => [((u 0 0), .inr (6, [.ref (u 0 1), .ref (u 0 2), .int 0])), ((u 0 1), .inl (cB, 1500, .inl (fun _ => 0))), ((u 0 2), .inl (cJ, 750, .inr (.inl (fun _ => 0))))]) [(a0, .inr (6, [.null, .null, .int 0]))] sz) 2 2250 (va_A [(a0, .inr (6, [.null, .null, .int 0]))] sz) := by
  refine cx_of (cc := cX6_init) (maxL := 1) (ret := none) (own := RX6) (by decide) rfl rfl (Nat.le_of_ble_eq_true rfl) ?_
  intro p e s m below meth c A C0 hinN hK hN hsz hAe hA hP hD hS ls hl
  obtain ⟨⟨hx, hb, hml, hown, hts⟩, hr, hlocks⟩ := id C0
  have hin : meth.name = "<init>" := hinN.2
  have hl : lv_has ls 1 [(0, .ref a0)] := hl
  have hP : va_P (dC, dI) vwCl [(a0, .inr (6, [.null, .null, .int 0]))] s.heap := hP
  refine lv_aload_n hx hb dX6_init_0 rfl (lv_at hl 0 rfl) ?_
  refine W.objInit hx hb hown (hts (.methodLink RX6 3 objectInit) (by decide +kernel)) (hts (.instanceMethod objectInit) (by decide +kernel)) (hts (.code objectInit ⟨#[0xb1]⟩ 1 none) (by decide +kernel)) rfl (by rw [hml]; exact hl.1) rfl dX6_init_1 (Nat.le_of_ble_eq_true rfl) (Nat.le_of_ble_eq_true rfl) ?_
  refine W.eq (g2 := F0 m 4 ls []) rfl ?_
  refine lv_aload_n hx hb dX6_init_4 rfl (lv_at hl 0 rfl) ?_
  refine lv_sipush (v := 1500) hx hb dX6_init_5 (by decide) ?_
  refine cx_newa (atype := .byte) (cA := cB) (N' := 1500) (a0 := (1500, .inl (fun _ => 0))) hx hb (hts (.arrayClass .byte) (by decide +kernel)) (ty := .byte) rfl hK 2 rfl (fun _ _ h1 h2 => Option.some.inj (h1.symm.trans h2)) hP hD hS hA (fun _ => rfl) (by decide) (by decide) (by decide +kernel) (Nat.le_of_ble_eq_true rfl) (Nat.le_of_ble_eq_true rfl) dX6_init_8 (fun q_1 H hP hD hS => ?_)
  have hP : va_P (dC, dI) vwCl [(a0, .inr (6, [.null, .null, .int 0])), (q_1, .inl (cB, 1500, .inl (fun _ => 0)))] H := hP
  have hD : va_D A [(a0, .inr (6, [.null, .null, .int 0])), (q_1, .inl (cB, 1500, .inl (fun _ => 0)))] := hD
  refine va_putF (D := (dC, dI)) (ci := 6) (v := .ref q_1) (ty := .array .byte) (C := RX6) (T := TX6) (N := 3) hx hb hts X6_init_inX6 tyX6 tyX6_ok nmX6 hown hK hP hD hS 0 rfl rfl 0 (by decide) (hts (.fieldLink RX6 9 "MixfixDesk$Text" "bytes" "[B") (by decide +kernel)) (fun _ h9 => h9) rfl hin rfl (by decide +kernel) rfl rfl (Nat.le_of_ble_eq_true rfl) dX6_init_10 (fun H locs hP hD hS => ?_)
  have hP : va_P (dC, dI) vwCl [(a0, .inr (6, [.ref q_1, .null, .int 0])), (q_1, .inl (cB, 1500, .inl (fun _ => 0)))] H := hP
  have hD : va_D A [(a0, .inr (6, [.ref q_1, .null, .int 0])), (q_1, .inl (cB, 1500, .inl (fun _ => 0)))] := hD
  refine lv_aload_n hx hb dX6_init_13 rfl (lv_at hl 0 rfl) ?_
  refine lv_sipush (v := 750) hx hb dX6_init_14 (by decide) ?_
  refine cx_newa (atype := .long) (cA := cJ) (N' := 750) (a0 := (750, .inr (.inl (fun _ => 0)))) hx hb (hts (.arrayClass .long) (by decide +kernel)) (ty := .long) rfl hK 1 rfl (fun _ _ h1 h2 => Option.some.inj (h1.symm.trans h2)) hP hD hS hA (fun _ => rfl) (by decide) (by decide) (by decide +kernel) (Nat.le_of_ble_eq_true rfl) (Nat.le_of_ble_eq_true rfl) dX6_init_17 (fun q_2 H hP hD hS => ?_)
  have hP : va_P (dC, dI) vwCl [(a0, .inr (6, [.ref q_1, .null, .int 0])), (q_1, .inl (cB, 1500, .inl (fun _ => 0))), (q_2, .inl (cJ, 750, .inr (.inl (fun _ => 0))))] H := hP
  have hD : va_D A [(a0, .inr (6, [.ref q_1, .null, .int 0])), (q_1, .inl (cB, 1500, .inl (fun _ => 0))), (q_2, .inl (cJ, 750, .inr (.inl (fun _ => 0))))] := hD
  refine va_putF (D := (dC, dI)) (ci := 6) (v := .ref q_2) (ty := .array .long) (C := RX6) (T := TX6) (N := 3) hx hb hts X6_init_inX6 tyX6 tyX6_ok nmX6 hown hK hP hD hS 0 rfl rfl 1 (by decide) (hts (.fieldLink RX6 15 "MixfixDesk$Text" "words" "[J") (by decide +kernel)) (fun _ h9 => h9) rfl hin rfl (by decide +kernel) rfl rfl (Nat.le_of_ble_eq_true rfl) dX6_init_19 (fun H locs hP hD hS => ?_)
  have hP : va_P (dC, dI) vwCl [(a0, .inr (6, [.ref q_1, .ref q_2, .int 0])), (q_1, .inl (cB, 1500, .inl (fun _ => 0))), (q_2, .inl (cJ, 750, .inr (.inl (fun _ => 0))))] H := hP
  have hD : va_D A [(a0, .inr (6, [.ref q_1, .ref q_2, .int 0])), (q_1, .inl (cB, 1500, .inl (fun _ => 0))), (q_2, .inl (cJ, 750, .inr (.inl (fun _ => 0))))] := hD
  refine lv_aload_n hx hb dX6_init_22 rfl (lv_at hl 0 rfl) ?_
  refine lv_iconst (v := 0) hx hb dX6_init_23 (by decide) ?_
  refine va_put (D := (dC, dI)) (ci := 6) (v := .int 0) (ty := .int) (C := RX6) (T := TX6) (N := 3) hx hb hts X6_init_inX6 tyX6 tyX6_ok nmX6 hown hK hP hD hS 0 rfl rfl 2 (by decide) (hts (.fieldLink RX6 19 "MixfixDesk$Text" "length" "I") (by decide +kernel)) (fun _ h9 => h9) rfl (by decide +kernel) rfl rfl (Nat.le_of_ble_eq_true rfl) dX6_init_24 (fun H locs hP hD hS => ?_)
  have hP : va_P (dC, dI) vwCl [(a0, .inr (6, [.ref q_1, .ref q_2, .int 0])), (q_1, .inl (cB, 1500, .inl (fun _ => 0))), (q_2, .inl (cJ, 750, .inr (.inl (fun _ => 0))))] H := hP
  have hD : va_D A [(a0, .inr (6, [.ref q_1, .ref q_2, .int 0])), (q_1, .inl (cB, 1500, .inl (fun _ => 0))), (q_2, .inl (cJ, 750, .inr (.inl (fun _ => 0))))] := hD
  refine W.widen (k := 2) (n := 2250) (Nat.le_of_ble_eq_true rfl) (Nat.le_of_ble_eq_true rfl) ?_
  exact cx_retvu C0 (fun k => match k with | _ => (fun j => match j with | 0 => a0 | 1 => q_1 | 2 => q_2 | _ => 0)) rfl hsz hAe dX6_init_27 hP hD hS

theorem dX4_init_0 : decode cX4_init 0 = .ok (.aload_n 0, 1) := by decide +kernel
theorem dX4_init_1 : decode cX4_init 1 = .ok (.invokespecial 3, 3) := by decide +kernel
theorem dX4_init_4 : decode cX4_init 4 = .ok (.aload_n 0, 1) := by decide +kernel
theorem dX4_init_5 : decode cX4_init 5 = .ok (.bipush 16, 2) := by decide +kernel
theorem dX4_init_7 : decode cX4_init 7 = .ok (.newarray .int, 2) := by decide +kernel
theorem dX4_init_9 : decode cX4_init 9 = .ok (.putfield 9, 3) := by decide +kernel
theorem dX4_init_12 : decode cX4_init 12 = .ok (.aload_n 0, 1) := by decide +kernel
theorem dX4_init_13 : decode cX4_init 13 = .ok (.bipush 30, 2) := by decide +kernel
theorem dX4_init_15 : decode cX4_init 15 = .ok (.newarray .int, 2) := by decide +kernel
theorem dX4_init_17 : decode cX4_init 17 = .ok (.putfield 15, 3) := by decide +kernel
theorem dX4_init_20 : decode cX4_init 20 = .ok (.aload_n 0, 1) := by decide +kernel
theorem dX4_init_21 : decode cX4_init 21 = .ok (.bipush 30, 2) := by decide +kernel
theorem dX4_init_23 : decode cX4_init 23 = .ok (.newarray .int, 2) := by decide +kernel
theorem dX4_init_25 : decode cX4_init 25 = .ok (.putfield 18, 3) := by decide +kernel
theorem dX4_init_28 : decode cX4_init 28 = .ok (.aload_n 0, 1) := by decide +kernel
theorem dX4_init_29 : decode cX4_init 29 = .ok (.bipush 30, 2) := by decide +kernel
theorem dX4_init_31 : decode cX4_init 31 = .ok (.newarray .int, 2) := by decide +kernel
theorem dX4_init_33 : decode cX4_init 33 = .ok (.putfield 21, 3) := by decide +kernel
theorem dX4_init_36 : decode cX4_init 36 = .ok (.aload_n 0, 1) := by decide +kernel
theorem dX4_init_37 : decode cX4_init 37 = .ok (.bipush 30, 2) := by decide +kernel
theorem dX4_init_39 : decode cX4_init 39 = .ok (.newarray .int, 2) := by decide +kernel
theorem dX4_init_41 : decode cX4_init 41 = .ok (.putfield 24, 3) := by decide +kernel
theorem dX4_init_44 : decode cX4_init 44 = .ok (.aload_n 0, 1) := by decide +kernel
theorem dX4_init_45 : decode cX4_init 45 = .ok (.bipush 30, 2) := by decide +kernel
theorem dX4_init_47 : decode cX4_init 47 = .ok (.newarray .int, 2) := by decide +kernel
theorem dX4_init_49 : decode cX4_init 49 = .ok (.putfield 27, 3) := by decide +kernel
theorem dX4_init_52 : decode cX4_init 52 = .ok (.aload_n 0, 1) := by decide +kernel
theorem dX4_init_53 : decode cX4_init 53 = .ok (.sipush 270, 3) := by decide +kernel
theorem dX4_init_56 : decode cX4_init 56 = .ok (.newarray .long, 2) := by decide +kernel
theorem dX4_init_58 : decode cX4_init 58 = .ok (.putfield 30, 3) := by decide +kernel
theorem dX4_init_61 : decode cX4_init 61 = .ok (.aload_n 0, 1) := by decide +kernel
theorem dX4_init_62 : decode cX4_init 62 = .ok (.iconst 0, 1) := by decide +kernel
theorem dX4_init_63 : decode cX4_init 63 = .ok (.putfield 34, 3) := by decide +kernel
theorem dX4_init_66 : decode cX4_init 66 = .ok (.aload_n 0, 1) := by decide +kernel
theorem dX4_init_67 : decode cX4_init 67 = .ok (.iconst 0, 1) := by decide +kernel
theorem dX4_init_68 : decode cX4_init 68 = .ok (.putfield 38, 3) := by decide +kernel
theorem dX4_init_71 : decode cX4_init 71 = .ok (.aload_n 0, 1) := by decide +kernel
theorem dX4_init_72 : decode cX4_init 72 = .ok (.iconst 0, 1) := by decide +kernel
theorem dX4_init_73 : decode cX4_init 73 = .ok (.putfield 41, 3) := by decide +kernel
theorem dX4_init_76 : decode cX4_init 76 = .ok (.return_, 1) := by decide +kernel
/-! the constructor of MixfixDesk$Rules -/
abbrev rm_X4_init : Room := { frames := 1, cells := 7, slots := 436, locals := 12 }
theorem X4_init_inX4 : ∀ w ∈ wsX40, w ∈ wsX4_init := by decide +kernel
set_option maxHeartbeats 4000000 in
set_option maxRecDepth 100000 in
theorem c_X4_init (l : Launch) (dC : Nat → ClassId) (dI : Nat → Nat → Nat) (cI cJ cB cZ : ClassId) (a0 sz : Nat)  : Met l yX4_init wsX4_init rm_X4_init (cP (dC, dI) vwCl [(cI, .int), (cJ, .long), (cB, .byte), (cZ, .boolean)] [.ref a0] [(a0, .inr (4, [.null, .null, .null, .null, .null, .null, .null, .int 0, .int 0, .int 0]))] sz) (cQvu a0 (dC, dI) vwCl (fun u : Nat → Nat → Nat => [((u 0 0), .inr (4, [.ref (u 0 1), .ref (u 0 2), .ref (u 0 3), .ref (u 0 4), .ref (u 0 5), .ref (u 0 6), .ref (u 0 7), .int 0, .int 0, .int 0])), ((u 0 1), .inl (cI, 16, .inl (fun _ => 0))), ((u 0 2), .inl (cI, 30, .inl (fun _ => 0))), ((u 0 3), .inl (cI, 30, .inl (fun _ => 0))), ((u 0 4), .inl (cI, 30, .inl (fun _ => 0))), ((u 0 5), .inl (cI, 30, .inl (fun _ => 0))), ((u 0 6), .inl (cI, 30, .inl (fun _ => 0))), ((u 0 7), .inl (cJ, 270, .inr (.inl (fun _ => 0))))]) [(a0, .inr (4, [.null, .null, .null, .null, .null, .null, .null, .int 0, .int 0, .int 0]))] sz) 7 436 (va_A [(a0, .inr (4, [.null, .null, .null, .null, .null, .null, .null, .int 0, .int 0, .int 0]))] sz) := by
  refine cx_of (cc := cX4_init) (maxL := 1) (ret := none) (own := RX4) (by decide) rfl rfl (Nat.le_of_ble_eq_true rfl) ?_
  intro p e s m below meth c A C0 hinN hK hN hsz hAe hA hP hD hS ls hl
  obtain ⟨⟨hx, hb, hml, hown, hts⟩, hr, hlocks⟩ := id C0
  have hin : meth.name = "<init>" := hinN.2
  have hl : lv_has ls 1 [(0, .ref a0)] := hl
  have hP : va_P (dC, dI) vwCl [(a0, .inr (4, [.null, .null, .null, .null, .null, .null, .null, .int 0, .int 0, .int 0]))] s.heap := hP
  refine lv_aload_n hx hb dX4_init_0 rfl (lv_at hl 0 rfl) ?_
  refine W.objInit hx hb hown (hts (.methodLink RX4 3 objectInit) (by decide +kernel)) (hts (.instanceMethod objectInit) (by decide +kernel)) (hts (.code objectInit ⟨#[0xb1]⟩ 1 none) (by decide +kernel)) rfl (by rw [hml]; exact hl.1) rfl dX4_init_1 (Nat.le_of_ble_eq_true rfl) (Nat.le_of_ble_eq_true rfl) ?_
  refine W.eq (g2 := F0 m 4 ls []) rfl ?_
  refine lv_aload_n hx hb dX4_init_4 rfl (lv_at hl 0 rfl) ?_
  refine lv_bipush (v := 16) hx hb dX4_init_5 (by decide) ?_
  refine cx_newa (atype := .int) (cA := cI) (N' := 16) (a0 := (16, .inl (fun _ => 0))) hx hb (hts (.arrayClass .int) (by decide +kernel)) (ty := .int) rfl hK 0 rfl (fun _ _ h1 h2 => Option.some.inj (h1.symm.trans h2)) hP hD hS hA (fun _ => rfl) (by decide) (by decide) (by decide +kernel) (Nat.le_of_ble_eq_true rfl) (Nat.le_of_ble_eq_true rfl) dX4_init_7 (fun q_1 H hP hD hS => ?_)
  have hP : va_P (dC, dI) vwCl [(a0, .inr (4, [.null, .null, .null, .null, .null, .null, .null, .int 0, .int 0, .int 0])), (q_1, .inl (cI, 16, .inl (fun _ => 0)))] H := hP
  have hD : va_D A [(a0, .inr (4, [.null, .null, .null, .null, .null, .null, .null, .int 0, .int 0, .int 0])), (q_1, .inl (cI, 16, .inl (fun _ => 0)))] := hD
  refine va_putF (D := (dC, dI)) (ci := 4) (v := .ref q_1) (ty := .array .int) (C := RX4) (T := TX4) (N := 10) hx hb hts X4_init_inX4 tyX4 tyX4_ok nmX4 hown hK hP hD hS 0 rfl rfl 0 (by decide) (hts (.fieldLink RX4 9 "MixfixDesk$Rules" "tighter" "[I") (by decide +kernel)) (fun _ h9 => h9) rfl hin rfl (by decide +kernel) rfl rfl (Nat.le_of_ble_eq_true rfl) dX4_init_9 (fun H locs hP hD hS => ?_)
  have hP : va_P (dC, dI) vwCl [(a0, .inr (4, [.ref q_1, .null, .null, .null, .null, .null, .null, .int 0, .int 0, .int 0])), (q_1, .inl (cI, 16, .inl (fun _ => 0)))] H := hP
  have hD : va_D A [(a0, .inr (4, [.ref q_1, .null, .null, .null, .null, .null, .null, .int 0, .int 0, .int 0])), (q_1, .inl (cI, 16, .inl (fun _ => 0)))] := hD
  refine lv_aload_n hx hb dX4_init_12 rfl (lv_at hl 0 rfl) ?_
  refine lv_bipush (v := 30) hx hb dX4_init_13 (by decide) ?_
  refine cx_newa (atype := .int) (cA := cI) (N' := 30) (a0 := (30, .inl (fun _ => 0))) hx hb (hts (.arrayClass .int) (by decide +kernel)) (ty := .int) rfl hK 0 rfl (fun _ _ h1 h2 => Option.some.inj (h1.symm.trans h2)) hP hD hS hA (fun _ => rfl) (by decide) (by decide) (by decide +kernel) (Nat.le_of_ble_eq_true rfl) (Nat.le_of_ble_eq_true rfl) dX4_init_15 (fun q_2 H hP hD hS => ?_)
  have hP : va_P (dC, dI) vwCl [(a0, .inr (4, [.ref q_1, .null, .null, .null, .null, .null, .null, .int 0, .int 0, .int 0])), (q_1, .inl (cI, 16, .inl (fun _ => 0))), (q_2, .inl (cI, 30, .inl (fun _ => 0)))] H := hP
  have hD : va_D A [(a0, .inr (4, [.ref q_1, .null, .null, .null, .null, .null, .null, .int 0, .int 0, .int 0])), (q_1, .inl (cI, 16, .inl (fun _ => 0))), (q_2, .inl (cI, 30, .inl (fun _ => 0)))] := hD
  refine va_putF (D := (dC, dI)) (ci := 4) (v := .ref q_2) (ty := .array .int) (C := RX4) (T := TX4) (N := 10) hx hb hts X4_init_inX4 tyX4 tyX4_ok nmX4 hown hK hP hD hS 0 rfl rfl 1 (by decide) (hts (.fieldLink RX4 15 "MixfixDesk$Rules" "size" "[I") (by decide +kernel)) (fun _ h9 => h9) rfl hin rfl (by decide +kernel) rfl rfl (Nat.le_of_ble_eq_true rfl) dX4_init_17 (fun H locs hP hD hS => ?_)
  have hP : va_P (dC, dI) vwCl [(a0, .inr (4, [.ref q_1, .ref q_2, .null, .null, .null, .null, .null, .int 0, .int 0, .int 0])), (q_1, .inl (cI, 16, .inl (fun _ => 0))), (q_2, .inl (cI, 30, .inl (fun _ => 0)))] H := hP
  have hD : va_D A [(a0, .inr (4, [.ref q_1, .ref q_2, .null, .null, .null, .null, .null, .int 0, .int 0, .int 0])), (q_1, .inl (cI, 16, .inl (fun _ => 0))), (q_2, .inl (cI, 30, .inl (fun _ => 0)))] := hD
  refine lv_aload_n hx hb dX4_init_20 rfl (lv_at hl 0 rfl) ?_
  refine lv_bipush (v := 30) hx hb dX4_init_21 (by decide) ?_
  refine cx_newa (atype := .int) (cA := cI) (N' := 30) (a0 := (30, .inl (fun _ => 0))) hx hb (hts (.arrayClass .int) (by decide +kernel)) (ty := .int) rfl hK 0 rfl (fun _ _ h1 h2 => Option.some.inj (h1.symm.trans h2)) hP hD hS hA (fun _ => rfl) (by decide) (by decide) (by decide +kernel) (Nat.le_of_ble_eq_true rfl) (Nat.le_of_ble_eq_true rfl) dX4_init_23 (fun q_3 H hP hD hS => ?_)
  have hP : va_P (dC, dI) vwCl [(a0, .inr (4, [.ref q_1, .ref q_2, .null, .null, .null, .null, .null, .int 0, .int 0, .int 0])), (q_1, .inl (cI, 16, .inl (fun _ => 0))), (q_2, .inl (cI, 30, .inl (fun _ => 0))), (q_3, .inl (cI, 30, .inl (fun _ => 0)))] H := hP
  have hD : va_D A [(a0, .inr (4, [.ref q_1, .ref q_2, .null, .null, .null, .null, .null, .int 0, .int 0, .int 0])), (q_1, .inl (cI, 16, .inl (fun _ => 0))), (q_2, .inl (cI, 30, .inl (fun _ => 0))), (q_3, .inl (cI, 30, .inl (fun _ => 0)))] := hD
  refine va_putF (D := (dC, dI)) (ci := 4) (v := .ref q_3) (ty := .array .int) (C := RX4) (T := TX4) (N := 10) hx hb hts X4_init_inX4 tyX4 tyX4_ok nmX4 hown hK hP hD hS 0 rfl rfl 2 (by decide) (hts (.fieldLink RX4 18 "MixfixDesk$Rules" "home" "[I") (by decide +kernel)) (fun _ h9 => h9) rfl hin rfl (by decide +kernel) rfl rfl (Nat.le_of_ble_eq_true rfl) dX4_init_25 (fun H locs hP hD hS => ?_)
  have hP : va_P (dC, dI) vwCl [(a0, .inr (4, [.ref q_1, .ref q_2, .ref q_3, .null, .null, .null, .null, .int 0, .int 0, .int 0])), (q_1, .inl (cI, 16, .inl (fun _ => 0))), (q_2, .inl (cI, 30, .inl (fun _ => 0))), (q_3, .inl (cI, 30, .inl (fun _ => 0)))] H := hP
  have hD : va_D A [(a0, .inr (4, [.ref q_1, .ref q_2, .ref q_3, .null, .null, .null, .null, .int 0, .int 0, .int 0])), (q_1, .inl (cI, 16, .inl (fun _ => 0))), (q_2, .inl (cI, 30, .inl (fun _ => 0))), (q_3, .inl (cI, 30, .inl (fun _ => 0)))] := hD
  refine lv_aload_n hx hb dX4_init_28 rfl (lv_at hl 0 rfl) ?_
  refine lv_bipush (v := 30) hx hb dX4_init_29 (by decide) ?_
  refine cx_newa (atype := .int) (cA := cI) (N' := 30) (a0 := (30, .inl (fun _ => 0))) hx hb (hts (.arrayClass .int) (by decide +kernel)) (ty := .int) rfl hK 0 rfl (fun _ _ h1 h2 => Option.some.inj (h1.symm.trans h2)) hP hD hS hA (fun _ => rfl) (by decide) (by decide) (by decide +kernel) (Nat.le_of_ble_eq_true rfl) (Nat.le_of_ble_eq_true rfl) dX4_init_31 (fun q_4 H hP hD hS => ?_)
  have hP : va_P (dC, dI) vwCl [(a0, .inr (4, [.ref q_1, .ref q_2, .ref q_3, .null, .null, .null, .null, .int 0, .int 0, .int 0])), (q_1, .inl (cI, 16, .inl (fun _ => 0))), (q_2, .inl (cI, 30, .inl (fun _ => 0))), (q_3, .inl (cI, 30, .inl (fun _ => 0))), (q_4, .inl (cI, 30, .inl (fun _ => 0)))] H := hP
  have hD : va_D A [(a0, .inr (4, [.ref q_1, .ref q_2, .ref q_3, .null, .null, .null, .null, .int 0, .int 0, .int 0])), (q_1, .inl (cI, 16, .inl (fun _ => 0))), (q_2, .inl (cI, 30, .inl (fun _ => 0))), (q_3, .inl (cI, 30, .inl (fun _ => 0))), (q_4, .inl (cI, 30, .inl (fun _ => 0)))] := hD
  refine va_putF (D := (dC, dI)) (ci := 4) (v := .ref q_4) (ty := .array .int) (C := RX4) (T := TX4) (N := 10) hx hb hts X4_init_inX4 tyX4 tyX4_ok nmX4 hown hK hP hD hS 0 rfl rfl 3 (by decide) (hts (.fieldLink RX4 21 "MixfixDesk$Rules" "way" "[I") (by decide +kernel)) (fun _ h9 => h9) rfl hin rfl (by decide +kernel) rfl rfl (Nat.le_of_ble_eq_true rfl) dX4_init_33 (fun H locs hP hD hS => ?_)
  have hP : va_P (dC, dI) vwCl [(a0, .inr (4, [.ref q_1, .ref q_2, .ref q_3, .ref q_4, .null, .null, .null, .int 0, .int 0, .int 0])), (q_1, .inl (cI, 16, .inl (fun _ => 0))), (q_2, .inl (cI, 30, .inl (fun _ => 0))), (q_3, .inl (cI, 30, .inl (fun _ => 0))), (q_4, .inl (cI, 30, .inl (fun _ => 0)))] H := hP
  have hD : va_D A [(a0, .inr (4, [.ref q_1, .ref q_2, .ref q_3, .ref q_4, .null, .null, .null, .int 0, .int 0, .int 0])), (q_1, .inl (cI, 16, .inl (fun _ => 0))), (q_2, .inl (cI, 30, .inl (fun _ => 0))), (q_3, .inl (cI, 30, .inl (fun _ => 0))), (q_4, .inl (cI, 30, .inl (fun _ => 0)))] := hD
  refine lv_aload_n hx hb dX4_init_36 rfl (lv_at hl 0 rfl) ?_
  refine lv_bipush (v := 30) hx hb dX4_init_37 (by decide) ?_
  refine cx_newa (atype := .int) (cA := cI) (N' := 30) (a0 := (30, .inl (fun _ => 0))) hx hb (hts (.arrayClass .int) (by decide +kernel)) (ty := .int) rfl hK 0 rfl (fun _ _ h1 h2 => Option.some.inj (h1.symm.trans h2)) hP hD hS hA (fun _ => rfl) (by decide) (by decide) (by decide +kernel) (Nat.le_of_ble_eq_true rfl) (Nat.le_of_ble_eq_true rfl) dX4_init_39 (fun q_5 H hP hD hS => ?_)
  have hP : va_P (dC, dI) vwCl [(a0, .inr (4, [.ref q_1, .ref q_2, .ref q_3, .ref q_4, .null, .null, .null, .int 0, .int 0, .int 0])), (q_1, .inl (cI, 16, .inl (fun _ => 0))), (q_2, .inl (cI, 30, .inl (fun _ => 0))), (q_3, .inl (cI, 30, .inl (fun _ => 0))), (q_4, .inl (cI, 30, .inl (fun _ => 0))), (q_5, .inl (cI, 30, .inl (fun _ => 0)))] H := hP
  have hD : va_D A [(a0, .inr (4, [.ref q_1, .ref q_2, .ref q_3, .ref q_4, .null, .null, .null, .int 0, .int 0, .int 0])), (q_1, .inl (cI, 16, .inl (fun _ => 0))), (q_2, .inl (cI, 30, .inl (fun _ => 0))), (q_3, .inl (cI, 30, .inl (fun _ => 0))), (q_4, .inl (cI, 30, .inl (fun _ => 0))), (q_5, .inl (cI, 30, .inl (fun _ => 0)))] := hD
  refine va_putF (D := (dC, dI)) (ci := 4) (v := .ref q_5) (ty := .array .int) (C := RX4) (T := TX4) (N := 10) hx hb hts X4_init_inX4 tyX4 tyX4_ok nmX4 hown hK hP hD hS 0 rfl rfl 4 (by decide) (hts (.fieldLink RX4 24 "MixfixDesk$Rules" "firstTakes" "[I") (by decide +kernel)) (fun _ h9 => h9) rfl hin rfl (by decide +kernel) rfl rfl (Nat.le_of_ble_eq_true rfl) dX4_init_41 (fun H locs hP hD hS => ?_)
  have hP : va_P (dC, dI) vwCl [(a0, .inr (4, [.ref q_1, .ref q_2, .ref q_3, .ref q_4, .ref q_5, .null, .null, .int 0, .int 0, .int 0])), (q_1, .inl (cI, 16, .inl (fun _ => 0))), (q_2, .inl (cI, 30, .inl (fun _ => 0))), (q_3, .inl (cI, 30, .inl (fun _ => 0))), (q_4, .inl (cI, 30, .inl (fun _ => 0))), (q_5, .inl (cI, 30, .inl (fun _ => 0)))] H := hP
  have hD : va_D A [(a0, .inr (4, [.ref q_1, .ref q_2, .ref q_3, .ref q_4, .ref q_5, .null, .null, .int 0, .int 0, .int 0])), (q_1, .inl (cI, 16, .inl (fun _ => 0))), (q_2, .inl (cI, 30, .inl (fun _ => 0))), (q_3, .inl (cI, 30, .inl (fun _ => 0))), (q_4, .inl (cI, 30, .inl (fun _ => 0))), (q_5, .inl (cI, 30, .inl (fun _ => 0)))] := hD
  refine lv_aload_n hx hb dX4_init_44 rfl (lv_at hl 0 rfl) ?_
  refine lv_bipush (v := 30) hx hb dX4_init_45 (by decide) ?_
  refine cx_newa (atype := .int) (cA := cI) (N' := 30) (a0 := (30, .inl (fun _ => 0))) hx hb (hts (.arrayClass .int) (by decide +kernel)) (ty := .int) rfl hK 0 rfl (fun _ _ h1 h2 => Option.some.inj (h1.symm.trans h2)) hP hD hS hA (fun _ => rfl) (by decide) (by decide) (by decide +kernel) (Nat.le_of_ble_eq_true rfl) (Nat.le_of_ble_eq_true rfl) dX4_init_47 (fun q_6 H hP hD hS => ?_)
  have hP : va_P (dC, dI) vwCl [(a0, .inr (4, [.ref q_1, .ref q_2, .ref q_3, .ref q_4, .ref q_5, .null, .null, .int 0, .int 0, .int 0])), (q_1, .inl (cI, 16, .inl (fun _ => 0))), (q_2, .inl (cI, 30, .inl (fun _ => 0))), (q_3, .inl (cI, 30, .inl (fun _ => 0))), (q_4, .inl (cI, 30, .inl (fun _ => 0))), (q_5, .inl (cI, 30, .inl (fun _ => 0))), (q_6, .inl (cI, 30, .inl (fun _ => 0)))] H := hP
  have hD : va_D A [(a0, .inr (4, [.ref q_1, .ref q_2, .ref q_3, .ref q_4, .ref q_5, .null, .null, .int 0, .int 0, .int 0])), (q_1, .inl (cI, 16, .inl (fun _ => 0))), (q_2, .inl (cI, 30, .inl (fun _ => 0))), (q_3, .inl (cI, 30, .inl (fun _ => 0))), (q_4, .inl (cI, 30, .inl (fun _ => 0))), (q_5, .inl (cI, 30, .inl (fun _ => 0))), (q_6, .inl (cI, 30, .inl (fun _ => 0)))] := hD
  refine va_putF (D := (dC, dI)) (ci := 4) (v := .ref q_6) (ty := .array .int) (C := RX4) (T := TX4) (N := 10) hx hb hts X4_init_inX4 tyX4 tyX4_ok nmX4 hown hK hP hD hS 0 rfl rfl 5 (by decide) (hts (.fieldLink RX4 27 "MixfixDesk$Rules" "lastTakes" "[I") (by decide +kernel)) (fun _ h9 => h9) rfl hin rfl (by decide +kernel) rfl rfl (Nat.le_of_ble_eq_true rfl) dX4_init_49 (fun H locs hP hD hS => ?_)
  have hP : va_P (dC, dI) vwCl [(a0, .inr (4, [.ref q_1, .ref q_2, .ref q_3, .ref q_4, .ref q_5, .ref q_6, .null, .int 0, .int 0, .int 0])), (q_1, .inl (cI, 16, .inl (fun _ => 0))), (q_2, .inl (cI, 30, .inl (fun _ => 0))), (q_3, .inl (cI, 30, .inl (fun _ => 0))), (q_4, .inl (cI, 30, .inl (fun _ => 0))), (q_5, .inl (cI, 30, .inl (fun _ => 0))), (q_6, .inl (cI, 30, .inl (fun _ => 0)))] H := hP
  have hD : va_D A [(a0, .inr (4, [.ref q_1, .ref q_2, .ref q_3, .ref q_4, .ref q_5, .ref q_6, .null, .int 0, .int 0, .int 0])), (q_1, .inl (cI, 16, .inl (fun _ => 0))), (q_2, .inl (cI, 30, .inl (fun _ => 0))), (q_3, .inl (cI, 30, .inl (fun _ => 0))), (q_4, .inl (cI, 30, .inl (fun _ => 0))), (q_5, .inl (cI, 30, .inl (fun _ => 0))), (q_6, .inl (cI, 30, .inl (fun _ => 0)))] := hD
  refine lv_aload_n hx hb dX4_init_52 rfl (lv_at hl 0 rfl) ?_
  refine lv_sipush (v := 270) hx hb dX4_init_53 (by decide) ?_
  refine cx_newa (atype := .long) (cA := cJ) (N' := 270) (a0 := (270, .inr (.inl (fun _ => 0)))) hx hb (hts (.arrayClass .long) (by decide +kernel)) (ty := .long) rfl hK 1 rfl (fun _ _ h1 h2 => Option.some.inj (h1.symm.trans h2)) hP hD hS hA (fun _ => rfl) (by decide) (by decide) (by decide +kernel) (Nat.le_of_ble_eq_true rfl) (Nat.le_of_ble_eq_true rfl) dX4_init_56 (fun q_7 H hP hD hS => ?_)
  have hP : va_P (dC, dI) vwCl [(a0, .inr (4, [.ref q_1, .ref q_2, .ref q_3, .ref q_4, .ref q_5, .ref q_6, .null, .int 0, .int 0, .int 0])), (q_1, .inl (cI, 16, .inl (fun _ => 0))), (q_2, .inl (cI, 30, .inl (fun _ => 0))), (q_3, .inl (cI, 30, .inl (fun _ => 0))), (q_4, .inl (cI, 30, .inl (fun _ => 0))), (q_5, .inl (cI, 30, .inl (fun _ => 0))), (q_6, .inl (cI, 30, .inl (fun _ => 0))), (q_7, .inl (cJ, 270, .inr (.inl (fun _ => 0))))] H := hP
  have hD : va_D A [(a0, .inr (4, [.ref q_1, .ref q_2, .ref q_3, .ref q_4, .ref q_5, .ref q_6, .null, .int 0, .int 0, .int 0])), (q_1, .inl (cI, 16, .inl (fun _ => 0))), (q_2, .inl (cI, 30, .inl (fun _ => 0))), (q_3, .inl (cI, 30, .inl (fun _ => 0))), (q_4, .inl (cI, 30, .inl (fun _ => 0))), (q_5, .inl (cI, 30, .inl (fun _ => 0))), (q_6, .inl (cI, 30, .inl (fun _ => 0))), (q_7, .inl (cJ, 270, .inr (.inl (fun _ => 0))))] := hD
  refine va_putF (D := (dC, dI)) (ci := 4) (v := .ref q_7) (ty := .array .long) (C := RX4) (T := TX4) (N := 10) hx hb hts X4_init_inX4 tyX4 tyX4_ok nmX4 hown hK hP hD hS 0 rfl rfl 6 (by decide) (hts (.fieldLink RX4 30 "MixfixDesk$Rules" "elements" "[J") (by decide +kernel)) (fun _ h9 => h9) rfl hin rfl (by decide +kernel) rfl rfl (Nat.le_of_ble_eq_true rfl) dX4_init_58 (fun H locs hP hD hS => ?_)
  have hP : va_P (dC, dI) vwCl [(a0, .inr (4, [.ref q_1, .ref q_2, .ref q_3, .ref q_4, .ref q_5, .ref q_6, .ref q_7, .int 0, .int 0, .int 0])), (q_1, .inl (cI, 16, .inl (fun _ => 0))), (q_2, .inl (cI, 30, .inl (fun _ => 0))), (q_3, .inl (cI, 30, .inl (fun _ => 0))), (q_4, .inl (cI, 30, .inl (fun _ => 0))), (q_5, .inl (cI, 30, .inl (fun _ => 0))), (q_6, .inl (cI, 30, .inl (fun _ => 0))), (q_7, .inl (cJ, 270, .inr (.inl (fun _ => 0))))] H := hP
  have hD : va_D A [(a0, .inr (4, [.ref q_1, .ref q_2, .ref q_3, .ref q_4, .ref q_5, .ref q_6, .ref q_7, .int 0, .int 0, .int 0])), (q_1, .inl (cI, 16, .inl (fun _ => 0))), (q_2, .inl (cI, 30, .inl (fun _ => 0))), (q_3, .inl (cI, 30, .inl (fun _ => 0))), (q_4, .inl (cI, 30, .inl (fun _ => 0))), (q_5, .inl (cI, 30, .inl (fun _ => 0))), (q_6, .inl (cI, 30, .inl (fun _ => 0))), (q_7, .inl (cJ, 270, .inr (.inl (fun _ => 0))))] := hD
  refine lv_aload_n hx hb dX4_init_61 rfl (lv_at hl 0 rfl) ?_
  refine lv_iconst (v := 0) hx hb dX4_init_62 (by decide) ?_
  refine va_put (D := (dC, dI)) (ci := 4) (v := .int 0) (ty := .int) (C := RX4) (T := TX4) (N := 10) hx hb hts X4_init_inX4 tyX4 tyX4_ok nmX4 hown hK hP hD hS 0 rfl rfl 7 (by decide) (hts (.fieldLink RX4 34 "MixfixDesk$Rules" "nodes" "I") (by decide +kernel)) (fun _ h9 => h9) rfl (by decide +kernel) rfl rfl (Nat.le_of_ble_eq_true rfl) dX4_init_63 (fun H locs hP hD hS => ?_)
  have hP : va_P (dC, dI) vwCl [(a0, .inr (4, [.ref q_1, .ref q_2, .ref q_3, .ref q_4, .ref q_5, .ref q_6, .ref q_7, .int 0, .int 0, .int 0])), (q_1, .inl (cI, 16, .inl (fun _ => 0))), (q_2, .inl (cI, 30, .inl (fun _ => 0))), (q_3, .inl (cI, 30, .inl (fun _ => 0))), (q_4, .inl (cI, 30, .inl (fun _ => 0))), (q_5, .inl (cI, 30, .inl (fun _ => 0))), (q_6, .inl (cI, 30, .inl (fun _ => 0))), (q_7, .inl (cJ, 270, .inr (.inl (fun _ => 0))))] H := hP
  have hD : va_D A [(a0, .inr (4, [.ref q_1, .ref q_2, .ref q_3, .ref q_4, .ref q_5, .ref q_6, .ref q_7, .int 0, .int 0, .int 0])), (q_1, .inl (cI, 16, .inl (fun _ => 0))), (q_2, .inl (cI, 30, .inl (fun _ => 0))), (q_3, .inl (cI, 30, .inl (fun _ => 0))), (q_4, .inl (cI, 30, .inl (fun _ => 0))), (q_5, .inl (cI, 30, .inl (fun _ => 0))), (q_6, .inl (cI, 30, .inl (fun _ => 0))), (q_7, .inl (cJ, 270, .inr (.inl (fun _ => 0))))] := hD
  refine lv_aload_n hx hb dX4_init_66 rfl (lv_at hl 0 rfl) ?_
  refine lv_iconst (v := 0) hx hb dX4_init_67 (by decide) ?_
  refine va_put (D := (dC, dI)) (ci := 4) (v := .int 0) (ty := .int) (C := RX4) (T := TX4) (N := 10) hx hb hts X4_init_inX4 tyX4 tyX4_ok nmX4 hown hK hP hD hS 0 rfl rfl 8 (by decide) (hts (.fieldLink RX4 38 "MixfixDesk$Rules" "arrows" "I") (by decide +kernel)) (fun _ h9 => h9) rfl (by decide +kernel) rfl rfl (Nat.le_of_ble_eq_true rfl) dX4_init_68 (fun H locs hP hD hS => ?_)
  have hP : va_P (dC, dI) vwCl [(a0, .inr (4, [.ref q_1, .ref q_2, .ref q_3, .ref q_4, .ref q_5, .ref q_6, .ref q_7, .int 0, .int 0, .int 0])), (q_1, .inl (cI, 16, .inl (fun _ => 0))), (q_2, .inl (cI, 30, .inl (fun _ => 0))), (q_3, .inl (cI, 30, .inl (fun _ => 0))), (q_4, .inl (cI, 30, .inl (fun _ => 0))), (q_5, .inl (cI, 30, .inl (fun _ => 0))), (q_6, .inl (cI, 30, .inl (fun _ => 0))), (q_7, .inl (cJ, 270, .inr (.inl (fun _ => 0))))] H := hP
  have hD : va_D A [(a0, .inr (4, [.ref q_1, .ref q_2, .ref q_3, .ref q_4, .ref q_5, .ref q_6, .ref q_7, .int 0, .int 0, .int 0])), (q_1, .inl (cI, 16, .inl (fun _ => 0))), (q_2, .inl (cI, 30, .inl (fun _ => 0))), (q_3, .inl (cI, 30, .inl (fun _ => 0))), (q_4, .inl (cI, 30, .inl (fun _ => 0))), (q_5, .inl (cI, 30, .inl (fun _ => 0))), (q_6, .inl (cI, 30, .inl (fun _ => 0))), (q_7, .inl (cJ, 270, .inr (.inl (fun _ => 0))))] := hD
  refine lv_aload_n hx hb dX4_init_71 rfl (lv_at hl 0 rfl) ?_
  refine lv_iconst (v := 0) hx hb dX4_init_72 (by decide) ?_
  refine va_put (D := (dC, dI)) (ci := 4) (v := .int 0) (ty := .int) (C := RX4) (T := TX4) (N := 10) hx hb hts X4_init_inX4 tyX4 tyX4_ok nmX4 hown hK hP hD hS 0 rfl rfl 9 (by decide) (hts (.fieldLink RX4 41 "MixfixDesk$Rules" "operators" "I") (by decide +kernel)) (fun _ h9 => h9) rfl (by decide +kernel) rfl rfl (Nat.le_of_ble_eq_true rfl) dX4_init_73 (fun H locs hP hD hS => ?_)
  have hP : va_P (dC, dI) vwCl [(a0, .inr (4, [.ref q_1, .ref q_2, .ref q_3, .ref q_4, .ref q_5, .ref q_6, .ref q_7, .int 0, .int 0, .int 0])), (q_1, .inl (cI, 16, .inl (fun _ => 0))), (q_2, .inl (cI, 30, .inl (fun _ => 0))), (q_3, .inl (cI, 30, .inl (fun _ => 0))), (q_4, .inl (cI, 30, .inl (fun _ => 0))), (q_5, .inl (cI, 30, .inl (fun _ => 0))), (q_6, .inl (cI, 30, .inl (fun _ => 0))), (q_7, .inl (cJ, 270, .inr (.inl (fun _ => 0))))] H := hP
  have hD : va_D A [(a0, .inr (4, [.ref q_1, .ref q_2, .ref q_3, .ref q_4, .ref q_5, .ref q_6, .ref q_7, .int 0, .int 0, .int 0])), (q_1, .inl (cI, 16, .inl (fun _ => 0))), (q_2, .inl (cI, 30, .inl (fun _ => 0))), (q_3, .inl (cI, 30, .inl (fun _ => 0))), (q_4, .inl (cI, 30, .inl (fun _ => 0))), (q_5, .inl (cI, 30, .inl (fun _ => 0))), (q_6, .inl (cI, 30, .inl (fun _ => 0))), (q_7, .inl (cJ, 270, .inr (.inl (fun _ => 0))))] := hD
  refine W.widen (k := 7) (n := 436) (Nat.le_of_ble_eq_true rfl) (Nat.le_of_ble_eq_true rfl) ?_
  exact cx_retvu C0 (fun k => match k with | _ => (fun j => match j with | 0 => a0 | 1 => q_1 | 2 => q_2 | 3 => q_3 | 4 => q_4 | 5 => q_5 | 6 => q_6 | 7 => q_7 | _ => 0)) rfl hsz hAe dX4_init_76 hP hD hS

theorem dX0_init_0 : decode cX0_init 0 = .ok (.aload_n 0, 1) := by decide +kernel
theorem dX0_init_1 : decode cX0_init 1 = .ok (.invokespecial 3, 3) := by decide +kernel
theorem dX0_init_4 : decode cX0_init 4 = .ok (.aload_n 0, 1) := by decide +kernel
theorem dX0_init_5 : decode cX0_init 5 = .ok (.bipush 40, 2) := by decide +kernel
theorem dX0_init_7 : decode cX0_init 7 = .ok (.newarray .long, 2) := by decide +kernel
theorem dX0_init_9 : decode cX0_init 9 = .ok (.putfield 9, 3) := by decide +kernel
theorem dX0_init_12 : decode cX0_init 12 = .ok (.aload_n 0, 1) := by decide +kernel
theorem dX0_init_13 : decode cX0_init 13 = .ok (.bipush 40, 2) := by decide +kernel
theorem dX0_init_15 : decode cX0_init 15 = .ok (.newarray .int, 2) := by decide +kernel
theorem dX0_init_17 : decode cX0_init 17 = .ok (.putfield 15, 3) := by decide +kernel
theorem dX0_init_20 : decode cX0_init 20 = .ok (.aload_n 0, 1) := by decide +kernel
theorem dX0_init_21 : decode cX0_init 21 = .ok (.iconst 0, 1) := by decide +kernel
theorem dX0_init_22 : decode cX0_init 22 = .ok (.newarray .int, 2) := by decide +kernel
theorem dX0_init_24 : decode cX0_init 24 = .ok (.putfield 19, 3) := by decide +kernel
theorem dX0_init_27 : decode cX0_init 27 = .ok (.aload_n 0, 1) := by decide +kernel
theorem dX0_init_28 : decode cX0_init 28 = .ok (.iconst 0, 1) := by decide +kernel
theorem dX0_init_29 : decode cX0_init 29 = .ok (.newarray .int, 2) := by decide +kernel
theorem dX0_init_31 : decode cX0_init 31 = .ok (.putfield 22, 3) := by decide +kernel
theorem dX0_init_34 : decode cX0_init 34 = .ok (.aload_n 0, 1) := by decide +kernel
theorem dX0_init_35 : decode cX0_init 35 = .ok (.iconst 0, 1) := by decide +kernel
theorem dX0_init_36 : decode cX0_init 36 = .ok (.newarray .int, 2) := by decide +kernel
theorem dX0_init_38 : decode cX0_init 38 = .ok (.putfield 25, 3) := by decide +kernel
theorem dX0_init_41 : decode cX0_init 41 = .ok (.aload_n 0, 1) := by decide +kernel
theorem dX0_init_42 : decode cX0_init 42 = .ok (.iconst 0, 1) := by decide +kernel
theorem dX0_init_43 : decode cX0_init 43 = .ok (.newarray .int, 2) := by decide +kernel
theorem dX0_init_45 : decode cX0_init 45 = .ok (.putfield 28, 3) := by decide +kernel
theorem dX0_init_48 : decode cX0_init 48 = .ok (.aload_n 0, 1) := by decide +kernel
theorem dX0_init_49 : decode cX0_init 49 = .ok (.iconst 0, 1) := by decide +kernel
theorem dX0_init_50 : decode cX0_init 50 = .ok (.putfield 31, 3) := by decide +kernel
theorem dX0_init_53 : decode cX0_init 53 = .ok (.aload_n 0, 1) := by decide +kernel
theorem dX0_init_54 : decode cX0_init 54 = .ok (.iconst 0, 1) := by decide +kernel
theorem dX0_init_55 : decode cX0_init 55 = .ok (.putfield 35, 3) := by decide +kernel
theorem dX0_init_58 : decode cX0_init 58 = .ok (.aload_n 0, 1) := by decide +kernel
theorem dX0_init_59 : decode cX0_init 59 = .ok (.aload_n 1, 1) := by decide +kernel
theorem dX0_init_60 : decode cX0_init 60 = .ok (.putfield 38, 3) := by decide +kernel
theorem dX0_init_63 : decode cX0_init 63 = .ok (.return_, 1) := by decide +kernel
/-! the constructor of MixfixDesk$Chart -/
abbrev rm_X0_init : Room := { frames := 1, cells := 6, slots := 80, locals := 12 }
theorem X0_init_inX0 : ∀ w ∈ wsX00, w ∈ wsX0_init := by decide +kernel
set_option maxHeartbeats 4000000 in
set_option maxRecDepth 100000 in
theorem c_X0_init (l : Launch) (dC : Nat → ClassId) (dI : Nat → Nat → Nat) (cI cJ cB cZ : ClassId) (a0 sz : Nat) (x0 : Nat) : Met l yX0_init wsX0_init rm_X0_init (cP (dC, dI) vwCl [(cI, .int), (cJ, .long), (cB, .byte), (cZ, .boolean)] [.ref a0, .ref x0] [(a0, .inr (0, [.null, .null, .null, .null, .null, .null, .null, .int 0, .int 0]))] sz) (cQvu a0 (dC, dI) vwCl (fun u : Nat → Nat → Nat => [((u 0 0), .inr (0, [.ref x0, .ref (u 0 2), .ref (u 0 3), .ref (u 0 4), .ref (u 0 5), .ref (u 0 6), .ref (u 0 7), .int 0, .int 0])), ((u 0 2), .inl (cJ, 40, .inr (.inl (fun _ => 0)))), ((u 0 3), .inl (cI, 40, .inl (fun _ => 0))), ((u 0 4), .inl (cI, 0, .inl (fun _ => 0))), ((u 0 5), .inl (cI, 0, .inl (fun _ => 0))), ((u 0 6), .inl (cI, 0, .inl (fun _ => 0))), ((u 0 7), .inl (cI, 0, .inl (fun _ => 0)))]) [(a0, .inr (0, [.null, .null, .null, .null, .null, .null, .null, .int 0, .int 0]))] sz) 6 80 (va_A [(a0, .inr (0, [.null, .null, .null, .null, .null, .null, .null, .int 0, .int 0]))] sz) := by
  refine cx_of (cc := cX0_init) (maxL := 2) (ret := none) (own := RX0) (by decide) rfl rfl (Nat.le_of_ble_eq_true rfl) ?_
  intro p e s m below meth c A C0 hinN hK hN hsz hAe hA hP hD hS ls hl
  obtain ⟨⟨hx, hb, hml, hown, hts⟩, hr, hlocks⟩ := id C0
  have hin : meth.name = "<init>" := hinN.2
  have hl : lv_has ls 2 [(0, .ref a0), (1, .ref x0)] := hl
  have hP : va_P (dC, dI) vwCl [(a0, .inr (0, [.null, .null, .null, .null, .null, .null, .null, .int 0, .int 0]))] s.heap := hP
  refine lv_aload_n hx hb dX0_init_0 rfl (lv_at hl 0 rfl) ?_
  refine W.objInit hx hb hown (hts (.methodLink RX0 3 objectInit) (by decide +kernel)) (hts (.instanceMethod objectInit) (by decide +kernel)) (hts (.code objectInit ⟨#[0xb1]⟩ 1 none) (by decide +kernel)) rfl (by rw [hml]; exact hl.1) rfl dX0_init_1 (Nat.le_of_ble_eq_true rfl) (Nat.le_of_ble_eq_true rfl) ?_
  refine W.eq (g2 := F0 m 4 ls []) rfl ?_
  refine lv_aload_n hx hb dX0_init_4 rfl (lv_at hl 0 rfl) ?_
  refine lv_bipush (v := 40) hx hb dX0_init_5 (by decide) ?_
  refine cx_newa (atype := .long) (cA := cJ) (N' := 40) (a0 := (40, .inr (.inl (fun _ => 0)))) hx hb (hts (.arrayClass .long) (by decide +kernel)) (ty := .long) rfl hK 1 rfl (fun _ _ h1 h2 => Option.some.inj (h1.symm.trans h2)) hP hD hS hA (fun _ => rfl) (by decide) (by decide) (by decide +kernel) (Nat.le_of_ble_eq_true rfl) (Nat.le_of_ble_eq_true rfl) dX0_init_7 (fun q_1 H hP hD hS => ?_)
  have hP : va_P (dC, dI) vwCl [(a0, .inr (0, [.null, .null, .null, .null, .null, .null, .null, .int 0, .int 0])), (q_1, .inl (cJ, 40, .inr (.inl (fun _ => 0))))] H := hP
  have hD : va_D A [(a0, .inr (0, [.null, .null, .null, .null, .null, .null, .null, .int 0, .int 0])), (q_1, .inl (cJ, 40, .inr (.inl (fun _ => 0))))] := hD
  refine va_putF (D := (dC, dI)) (ci := 0) (v := .ref q_1) (ty := .array .long) (C := RX0) (T := TX0) (N := 9) hx hb hts X0_init_inX0 tyX0 tyX0_ok nmX0 hown hK hP hD hS 0 rfl rfl 1 (by decide) (hts (.fieldLink RX0 9 "MixfixDesk$Chart" "words" "[J") (by decide +kernel)) (fun _ h9 => h9) rfl hin rfl (by decide +kernel) rfl rfl (Nat.le_of_ble_eq_true rfl) dX0_init_9 (fun H locs hP hD hS => ?_)
  have hP : va_P (dC, dI) vwCl [(a0, .inr (0, [.null, .ref q_1, .null, .null, .null, .null, .null, .int 0, .int 0])), (q_1, .inl (cJ, 40, .inr (.inl (fun _ => 0))))] H := hP
  have hD : va_D A [(a0, .inr (0, [.null, .ref q_1, .null, .null, .null, .null, .null, .int 0, .int 0])), (q_1, .inl (cJ, 40, .inr (.inl (fun _ => 0))))] := hD
  refine lv_aload_n hx hb dX0_init_12 rfl (lv_at hl 0 rfl) ?_
  refine lv_bipush (v := 40) hx hb dX0_init_13 (by decide) ?_
  refine cx_newa (atype := .int) (cA := cI) (N' := 40) (a0 := (40, .inl (fun _ => 0))) hx hb (hts (.arrayClass .int) (by decide +kernel)) (ty := .int) rfl hK 0 rfl (fun _ _ h1 h2 => Option.some.inj (h1.symm.trans h2)) hP hD hS hA (fun _ => rfl) (by decide) (by decide) (by decide +kernel) (Nat.le_of_ble_eq_true rfl) (Nat.le_of_ble_eq_true rfl) dX0_init_15 (fun q_2 H hP hD hS => ?_)
  have hP : va_P (dC, dI) vwCl [(a0, .inr (0, [.null, .ref q_1, .null, .null, .null, .null, .null, .int 0, .int 0])), (q_1, .inl (cJ, 40, .inr (.inl (fun _ => 0)))), (q_2, .inl (cI, 40, .inl (fun _ => 0)))] H := hP
  have hD : va_D A [(a0, .inr (0, [.null, .ref q_1, .null, .null, .null, .null, .null, .int 0, .int 0])), (q_1, .inl (cJ, 40, .inr (.inl (fun _ => 0)))), (q_2, .inl (cI, 40, .inl (fun _ => 0)))] := hD
  refine va_putF (D := (dC, dI)) (ci := 0) (v := .ref q_2) (ty := .array .int) (C := RX0) (T := TX0) (N := 9) hx hb hts X0_init_inX0 tyX0 tyX0_ok nmX0 hown hK hP hD hS 0 rfl rfl 2 (by decide) (hts (.fieldLink RX0 15 "MixfixDesk$Chart" "atom" "[I") (by decide +kernel)) (fun _ h9 => h9) rfl hin rfl (by decide +kernel) rfl rfl (Nat.le_of_ble_eq_true rfl) dX0_init_17 (fun H locs hP hD hS => ?_)
  have hP : va_P (dC, dI) vwCl [(a0, .inr (0, [.null, .ref q_1, .ref q_2, .null, .null, .null, .null, .int 0, .int 0])), (q_1, .inl (cJ, 40, .inr (.inl (fun _ => 0)))), (q_2, .inl (cI, 40, .inl (fun _ => 0)))] H := hP
  have hD : va_D A [(a0, .inr (0, [.null, .ref q_1, .ref q_2, .null, .null, .null, .null, .int 0, .int 0])), (q_1, .inl (cJ, 40, .inr (.inl (fun _ => 0)))), (q_2, .inl (cI, 40, .inl (fun _ => 0)))] := hD
  refine lv_aload_n hx hb dX0_init_20 rfl (lv_at hl 0 rfl) ?_
  refine lv_iconst (v := 0) hx hb dX0_init_21 (by decide) ?_
  refine cx_newa (atype := .int) (cA := cI) (N' := 0) (a0 := (0, .inl (fun _ => 0))) hx hb (hts (.arrayClass .int) (by decide +kernel)) (ty := .int) rfl hK 0 rfl (fun _ _ h1 h2 => Option.some.inj (h1.symm.trans h2)) hP hD hS hA (fun _ => rfl) (by decide) (by decide) (by decide +kernel) (Nat.le_of_ble_eq_true rfl) (Nat.le_of_ble_eq_true rfl) dX0_init_22 (fun q_3 H hP hD hS => ?_)
  have hP : va_P (dC, dI) vwCl [(a0, .inr (0, [.null, .ref q_1, .ref q_2, .null, .null, .null, .null, .int 0, .int 0])), (q_1, .inl (cJ, 40, .inr (.inl (fun _ => 0)))), (q_2, .inl (cI, 40, .inl (fun _ => 0))), (q_3, .inl (cI, 0, .inl (fun _ => 0)))] H := hP
  have hD : va_D A [(a0, .inr (0, [.null, .ref q_1, .ref q_2, .null, .null, .null, .null, .int 0, .int 0])), (q_1, .inl (cJ, 40, .inr (.inl (fun _ => 0)))), (q_2, .inl (cI, 40, .inl (fun _ => 0))), (q_3, .inl (cI, 0, .inl (fun _ => 0)))] := hD
  refine va_put (D := (dC, dI)) (ci := 0) (v := .ref q_3) (ty := .array .int) (C := RX0) (T := TX0) (N := 9) hx hb hts X0_init_inX0 tyX0 tyX0_ok nmX0 hown hK hP hD hS 0 rfl rfl 3 (by decide) (hts (.fieldLink RX0 19 "MixfixDesk$Chart" "all" "[I") (by decide +kernel)) (fun _ h9 => h9) rfl (by decide +kernel) rfl rfl (Nat.le_of_ble_eq_true rfl) dX0_init_24 (fun H locs hP hD hS => ?_)
  have hP : va_P (dC, dI) vwCl [(a0, .inr (0, [.null, .ref q_1, .ref q_2, .ref q_3, .null, .null, .null, .int 0, .int 0])), (q_1, .inl (cJ, 40, .inr (.inl (fun _ => 0)))), (q_2, .inl (cI, 40, .inl (fun _ => 0))), (q_3, .inl (cI, 0, .inl (fun _ => 0)))] H := hP
  have hD : va_D A [(a0, .inr (0, [.null, .ref q_1, .ref q_2, .ref q_3, .null, .null, .null, .int 0, .int 0])), (q_1, .inl (cJ, 40, .inr (.inl (fun _ => 0)))), (q_2, .inl (cI, 40, .inl (fun _ => 0))), (q_3, .inl (cI, 0, .inl (fun _ => 0)))] := hD
  refine lv_aload_n hx hb dX0_init_27 rfl (lv_at hl 0 rfl) ?_
  refine lv_iconst (v := 0) hx hb dX0_init_28 (by decide) ?_
  refine cx_newa (atype := .int) (cA := cI) (N' := 0) (a0 := (0, .inl (fun _ => 0))) hx hb (hts (.arrayClass .int) (by decide +kernel)) (ty := .int) rfl hK 0 rfl (fun _ _ h1 h2 => Option.some.inj (h1.symm.trans h2)) hP hD hS hA (fun _ => rfl) (by decide) (by decide) (by decide +kernel) (Nat.le_of_ble_eq_true rfl) (Nat.le_of_ble_eq_true rfl) dX0_init_29 (fun q_4 H hP hD hS => ?_)
  have hP : va_P (dC, dI) vwCl [(a0, .inr (0, [.null, .ref q_1, .ref q_2, .ref q_3, .null, .null, .null, .int 0, .int 0])), (q_1, .inl (cJ, 40, .inr (.inl (fun _ => 0)))), (q_2, .inl (cI, 40, .inl (fun _ => 0))), (q_3, .inl (cI, 0, .inl (fun _ => 0))), (q_4, .inl (cI, 0, .inl (fun _ => 0)))] H := hP
  have hD : va_D A [(a0, .inr (0, [.null, .ref q_1, .ref q_2, .ref q_3, .null, .null, .null, .int 0, .int 0])), (q_1, .inl (cJ, 40, .inr (.inl (fun _ => 0)))), (q_2, .inl (cI, 40, .inl (fun _ => 0))), (q_3, .inl (cI, 0, .inl (fun _ => 0))), (q_4, .inl (cI, 0, .inl (fun _ => 0)))] := hD
  refine va_put (D := (dC, dI)) (ci := 0) (v := .ref q_4) (ty := .array .int) (C := RX0) (T := TX0) (N := 9) hx hb hts X0_init_inX0 tyX0 tyX0_ok nmX0 hown hK hP hD hS 0 rfl rfl 4 (by decide) (hts (.fieldLink RX0 22 "MixfixDesk$Chart" "topped" "[I") (by decide +kernel)) (fun _ h9 => h9) rfl (by decide +kernel) rfl rfl (Nat.le_of_ble_eq_true rfl) dX0_init_31 (fun H locs hP hD hS => ?_)
  have hP : va_P (dC, dI) vwCl [(a0, .inr (0, [.null, .ref q_1, .ref q_2, .ref q_3, .ref q_4, .null, .null, .int 0, .int 0])), (q_1, .inl (cJ, 40, .inr (.inl (fun _ => 0)))), (q_2, .inl (cI, 40, .inl (fun _ => 0))), (q_3, .inl (cI, 0, .inl (fun _ => 0))), (q_4, .inl (cI, 0, .inl (fun _ => 0)))] H := hP
  have hD : va_D A [(a0, .inr (0, [.null, .ref q_1, .ref q_2, .ref q_3, .ref q_4, .null, .null, .int 0, .int 0])), (q_1, .inl (cJ, 40, .inr (.inl (fun _ => 0)))), (q_2, .inl (cI, 40, .inl (fun _ => 0))), (q_3, .inl (cI, 0, .inl (fun _ => 0))), (q_4, .inl (cI, 0, .inl (fun _ => 0)))] := hD
  refine lv_aload_n hx hb dX0_init_34 rfl (lv_at hl 0 rfl) ?_
  refine lv_iconst (v := 0) hx hb dX0_init_35 (by decide) ?_
  refine cx_newa (atype := .int) (cA := cI) (N' := 0) (a0 := (0, .inl (fun _ => 0))) hx hb (hts (.arrayClass .int) (by decide +kernel)) (ty := .int) rfl hK 0 rfl (fun _ _ h1 h2 => Option.some.inj (h1.symm.trans h2)) hP hD hS hA (fun _ => rfl) (by decide) (by decide) (by decide +kernel) (Nat.le_of_ble_eq_true rfl) (Nat.le_of_ble_eq_true rfl) dX0_init_36 (fun q_5 H hP hD hS => ?_)
  have hP : va_P (dC, dI) vwCl [(a0, .inr (0, [.null, .ref q_1, .ref q_2, .ref q_3, .ref q_4, .null, .null, .int 0, .int 0])), (q_1, .inl (cJ, 40, .inr (.inl (fun _ => 0)))), (q_2, .inl (cI, 40, .inl (fun _ => 0))), (q_3, .inl (cI, 0, .inl (fun _ => 0))), (q_4, .inl (cI, 0, .inl (fun _ => 0))), (q_5, .inl (cI, 0, .inl (fun _ => 0)))] H := hP
  have hD : va_D A [(a0, .inr (0, [.null, .ref q_1, .ref q_2, .ref q_3, .ref q_4, .null, .null, .int 0, .int 0])), (q_1, .inl (cJ, 40, .inr (.inl (fun _ => 0)))), (q_2, .inl (cI, 40, .inl (fun _ => 0))), (q_3, .inl (cI, 0, .inl (fun _ => 0))), (q_4, .inl (cI, 0, .inl (fun _ => 0))), (q_5, .inl (cI, 0, .inl (fun _ => 0)))] := hD
  refine va_put (D := (dC, dI)) (ci := 0) (v := .ref q_5) (ty := .array .int) (C := RX0) (T := TX0) (N := 9) hx hb hts X0_init_inX0 tyX0 tyX0_ok nmX0 hown hK hP hD hS 0 rfl rfl 5 (by decide) (hts (.fieldLink RX0 25 "MixfixDesk$Chart" "firsts" "[I") (by decide +kernel)) (fun _ h9 => h9) rfl (by decide +kernel) rfl rfl (Nat.le_of_ble_eq_true rfl) dX0_init_38 (fun H locs hP hD hS => ?_)
  have hP : va_P (dC, dI) vwCl [(a0, .inr (0, [.null, .ref q_1, .ref q_2, .ref q_3, .ref q_4, .ref q_5, .null, .int 0, .int 0])), (q_1, .inl (cJ, 40, .inr (.inl (fun _ => 0)))), (q_2, .inl (cI, 40, .inl (fun _ => 0))), (q_3, .inl (cI, 0, .inl (fun _ => 0))), (q_4, .inl (cI, 0, .inl (fun _ => 0))), (q_5, .inl (cI, 0, .inl (fun _ => 0)))] H := hP
  have hD : va_D A [(a0, .inr (0, [.null, .ref q_1, .ref q_2, .ref q_3, .ref q_4, .ref q_5, .null, .int 0, .int 0])), (q_1, .inl (cJ, 40, .inr (.inl (fun _ => 0)))), (q_2, .inl (cI, 40, .inl (fun _ => 0))), (q_3, .inl (cI, 0, .inl (fun _ => 0))), (q_4, .inl (cI, 0, .inl (fun _ => 0))), (q_5, .inl (cI, 0, .inl (fun _ => 0)))] := hD
  refine lv_aload_n hx hb dX0_init_41 rfl (lv_at hl 0 rfl) ?_
  refine lv_iconst (v := 0) hx hb dX0_init_42 (by decide) ?_
  refine cx_newa (atype := .int) (cA := cI) (N' := 0) (a0 := (0, .inl (fun _ => 0))) hx hb (hts (.arrayClass .int) (by decide +kernel)) (ty := .int) rfl hK 0 rfl (fun _ _ h1 h2 => Option.some.inj (h1.symm.trans h2)) hP hD hS hA (fun _ => rfl) (by decide) (by decide) (by decide +kernel) (Nat.le_of_ble_eq_true rfl) (Nat.le_of_ble_eq_true rfl) dX0_init_43 (fun q_6 H hP hD hS => ?_)
  have hP : va_P (dC, dI) vwCl [(a0, .inr (0, [.null, .ref q_1, .ref q_2, .ref q_3, .ref q_4, .ref q_5, .null, .int 0, .int 0])), (q_1, .inl (cJ, 40, .inr (.inl (fun _ => 0)))), (q_2, .inl (cI, 40, .inl (fun _ => 0))), (q_3, .inl (cI, 0, .inl (fun _ => 0))), (q_4, .inl (cI, 0, .inl (fun _ => 0))), (q_5, .inl (cI, 0, .inl (fun _ => 0))), (q_6, .inl (cI, 0, .inl (fun _ => 0)))] H := hP
  have hD : va_D A [(a0, .inr (0, [.null, .ref q_1, .ref q_2, .ref q_3, .ref q_4, .ref q_5, .null, .int 0, .int 0])), (q_1, .inl (cJ, 40, .inr (.inl (fun _ => 0)))), (q_2, .inl (cI, 40, .inl (fun _ => 0))), (q_3, .inl (cI, 0, .inl (fun _ => 0))), (q_4, .inl (cI, 0, .inl (fun _ => 0))), (q_5, .inl (cI, 0, .inl (fun _ => 0))), (q_6, .inl (cI, 0, .inl (fun _ => 0)))] := hD
  refine va_put (D := (dC, dI)) (ci := 0) (v := .ref q_6) (ty := .array .int) (C := RX0) (T := TX0) (N := 9) hx hb hts X0_init_inX0 tyX0 tyX0_ok nmX0 hown hK hP hD hS 0 rfl rfl 6 (by decide) (hts (.fieldLink RX0 28 "MixfixDesk$Chart" "ways" "[I") (by decide +kernel)) (fun _ h9 => h9) rfl (by decide +kernel) rfl rfl (Nat.le_of_ble_eq_true rfl) dX0_init_45 (fun H locs hP hD hS => ?_)
  have hP : va_P (dC, dI) vwCl [(a0, .inr (0, [.null, .ref q_1, .ref q_2, .ref q_3, .ref q_4, .ref q_5, .ref q_6, .int 0, .int 0])), (q_1, .inl (cJ, 40, .inr (.inl (fun _ => 0)))), (q_2, .inl (cI, 40, .inl (fun _ => 0))), (q_3, .inl (cI, 0, .inl (fun _ => 0))), (q_4, .inl (cI, 0, .inl (fun _ => 0))), (q_5, .inl (cI, 0, .inl (fun _ => 0))), (q_6, .inl (cI, 0, .inl (fun _ => 0)))] H := hP
  have hD : va_D A [(a0, .inr (0, [.null, .ref q_1, .ref q_2, .ref q_3, .ref q_4, .ref q_5, .ref q_6, .int 0, .int 0])), (q_1, .inl (cJ, 40, .inr (.inl (fun _ => 0)))), (q_2, .inl (cI, 40, .inl (fun _ => 0))), (q_3, .inl (cI, 0, .inl (fun _ => 0))), (q_4, .inl (cI, 0, .inl (fun _ => 0))), (q_5, .inl (cI, 0, .inl (fun _ => 0))), (q_6, .inl (cI, 0, .inl (fun _ => 0)))] := hD
  refine lv_aload_n hx hb dX0_init_48 rfl (lv_at hl 0 rfl) ?_
  refine lv_iconst (v := 0) hx hb dX0_init_49 (by decide) ?_
  refine va_put (D := (dC, dI)) (ci := 0) (v := .int 0) (ty := .int) (C := RX0) (T := TX0) (N := 9) hx hb hts X0_init_inX0 tyX0 tyX0_ok nmX0 hown hK hP hD hS 0 rfl rfl 7 (by decide) (hts (.fieldLink RX0 31 "MixfixDesk$Chart" "size" "I") (by decide +kernel)) (fun _ h9 => h9) rfl (by decide +kernel) rfl rfl (Nat.le_of_ble_eq_true rfl) dX0_init_50 (fun H locs hP hD hS => ?_)
  have hP : va_P (dC, dI) vwCl [(a0, .inr (0, [.null, .ref q_1, .ref q_2, .ref q_3, .ref q_4, .ref q_5, .ref q_6, .int 0, .int 0])), (q_1, .inl (cJ, 40, .inr (.inl (fun _ => 0)))), (q_2, .inl (cI, 40, .inl (fun _ => 0))), (q_3, .inl (cI, 0, .inl (fun _ => 0))), (q_4, .inl (cI, 0, .inl (fun _ => 0))), (q_5, .inl (cI, 0, .inl (fun _ => 0))), (q_6, .inl (cI, 0, .inl (fun _ => 0)))] H := hP
  have hD : va_D A [(a0, .inr (0, [.null, .ref q_1, .ref q_2, .ref q_3, .ref q_4, .ref q_5, .ref q_6, .int 0, .int 0])), (q_1, .inl (cJ, 40, .inr (.inl (fun _ => 0)))), (q_2, .inl (cI, 40, .inl (fun _ => 0))), (q_3, .inl (cI, 0, .inl (fun _ => 0))), (q_4, .inl (cI, 0, .inl (fun _ => 0))), (q_5, .inl (cI, 0, .inl (fun _ => 0))), (q_6, .inl (cI, 0, .inl (fun _ => 0)))] := hD
  refine lv_aload_n hx hb dX0_init_53 rfl (lv_at hl 0 rfl) ?_
  refine lv_iconst (v := 0) hx hb dX0_init_54 (by decide) ?_
  refine va_put (D := (dC, dI)) (ci := 0) (v := .int 0) (ty := .int) (C := RX0) (T := TX0) (N := 9) hx hb hts X0_init_inX0 tyX0 tyX0_ok nmX0 hown hK hP hD hS 0 rfl rfl 8 (by decide) (hts (.fieldLink RX0 35 "MixfixDesk$Chart" "operators" "I") (by decide +kernel)) (fun _ h9 => h9) rfl (by decide +kernel) rfl rfl (Nat.le_of_ble_eq_true rfl) dX0_init_55 (fun H locs hP hD hS => ?_)
  have hP : va_P (dC, dI) vwCl [(a0, .inr (0, [.null, .ref q_1, .ref q_2, .ref q_3, .ref q_4, .ref q_5, .ref q_6, .int 0, .int 0])), (q_1, .inl (cJ, 40, .inr (.inl (fun _ => 0)))), (q_2, .inl (cI, 40, .inl (fun _ => 0))), (q_3, .inl (cI, 0, .inl (fun _ => 0))), (q_4, .inl (cI, 0, .inl (fun _ => 0))), (q_5, .inl (cI, 0, .inl (fun _ => 0))), (q_6, .inl (cI, 0, .inl (fun _ => 0)))] H := hP
  have hD : va_D A [(a0, .inr (0, [.null, .ref q_1, .ref q_2, .ref q_3, .ref q_4, .ref q_5, .ref q_6, .int 0, .int 0])), (q_1, .inl (cJ, 40, .inr (.inl (fun _ => 0)))), (q_2, .inl (cI, 40, .inl (fun _ => 0))), (q_3, .inl (cI, 0, .inl (fun _ => 0))), (q_4, .inl (cI, 0, .inl (fun _ => 0))), (q_5, .inl (cI, 0, .inl (fun _ => 0))), (q_6, .inl (cI, 0, .inl (fun _ => 0)))] := hD
  refine lv_aload_n hx hb dX0_init_58 rfl (lv_at hl 0 rfl) ?_
  refine lv_aload_n hx hb dX0_init_59 rfl (lv_at hl 1 rfl) ?_
  refine va_putF (D := (dC, dI)) (ci := 0) (v := .ref x0) (ty := .object "MixfixDesk$Rules") (C := RX0) (T := TX0) (N := 9) hx hb hts X0_init_inX0 tyX0 tyX0_ok nmX0 hown hK hP hD hS 0 rfl rfl 0 (by decide) (hts (.fieldLink RX0 38 "MixfixDesk$Chart" "rules" "LMixfixDesk$Rules;") (by decide +kernel)) (fun _ h9 => h9) rfl hin rfl (by decide +kernel) rfl rfl (Nat.le_of_ble_eq_true rfl) dX0_init_60 (fun H locs hP hD hS => ?_)
  have hP : va_P (dC, dI) vwCl [(a0, .inr (0, [.ref x0, .ref q_1, .ref q_2, .ref q_3, .ref q_4, .ref q_5, .ref q_6, .int 0, .int 0])), (q_1, .inl (cJ, 40, .inr (.inl (fun _ => 0)))), (q_2, .inl (cI, 40, .inl (fun _ => 0))), (q_3, .inl (cI, 0, .inl (fun _ => 0))), (q_4, .inl (cI, 0, .inl (fun _ => 0))), (q_5, .inl (cI, 0, .inl (fun _ => 0))), (q_6, .inl (cI, 0, .inl (fun _ => 0)))] H := hP
  have hD : va_D A [(a0, .inr (0, [.ref x0, .ref q_1, .ref q_2, .ref q_3, .ref q_4, .ref q_5, .ref q_6, .int 0, .int 0])), (q_1, .inl (cJ, 40, .inr (.inl (fun _ => 0)))), (q_2, .inl (cI, 40, .inl (fun _ => 0))), (q_3, .inl (cI, 0, .inl (fun _ => 0))), (q_4, .inl (cI, 0, .inl (fun _ => 0))), (q_5, .inl (cI, 0, .inl (fun _ => 0))), (q_6, .inl (cI, 0, .inl (fun _ => 0)))] := hD
  refine W.widen (k := 6) (n := 80) (Nat.le_of_ble_eq_true rfl) (Nat.le_of_ble_eq_true rfl) ?_
  exact cx_retvu C0 (fun k => match k with | _ => (fun j => match j with | 0 => a0 | 2 => q_1 | 3 => q_2 | 4 => q_3 | 5 => q_4 | 6 => q_5 | 7 => q_6 | _ => 0)) rfl hsz hAe dX0_init_63 hP hD hS

theorem dX7_init_0 : decode cX7_init 0 = .ok (.aload_n 0, 1) := by decide +kernel
theorem dX7_init_1 : decode cX7_init 1 = .ok (.invokespecial 3, 3) := by decide +kernel
theorem dX7_init_4 : decode cX7_init 4 = .ok (.aload_n 0, 1) := by decide +kernel
theorem dX7_init_5 : decode cX7_init 5 = .ok (.bipush 40, 2) := by decide +kernel
theorem dX7_init_7 : decode cX7_init 7 = .ok (.newarray .int, 2) := by decide +kernel
theorem dX7_init_9 : decode cX7_init 9 = .ok (.putfield 9, 3) := by decide +kernel
theorem dX7_init_12 : decode cX7_init 12 = .ok (.aload_n 0, 1) := by decide +kernel
theorem dX7_init_13 : decode cX7_init 13 = .ok (.bipush 40, 2) := by decide +kernel
theorem dX7_init_15 : decode cX7_init 15 = .ok (.newarray .int, 2) := by decide +kernel
theorem dX7_init_17 : decode cX7_init 17 = .ok (.putfield 15, 3) := by decide +kernel
theorem dX7_init_20 : decode cX7_init 20 = .ok (.aload_n 0, 1) := by decide +kernel
theorem dX7_init_21 : decode cX7_init 21 = .ok (.bipush 40, 2) := by decide +kernel
theorem dX7_init_23 : decode cX7_init 23 = .ok (.newarray .int, 2) := by decide +kernel
theorem dX7_init_25 : decode cX7_init 25 = .ok (.putfield 18, 3) := by decide +kernel
theorem dX7_init_28 : decode cX7_init 28 = .ok (.aload_n 0, 1) := by decide +kernel
theorem dX7_init_29 : decode cX7_init 29 = .ok (.bipush 40, 2) := by decide +kernel
theorem dX7_init_31 : decode cX7_init 31 = .ok (.newarray .int, 2) := by decide +kernel
theorem dX7_init_33 : decode cX7_init 33 = .ok (.putfield 21, 3) := by decide +kernel
theorem dX7_init_36 : decode cX7_init 36 = .ok (.aload_n 0, 1) := by decide +kernel
theorem dX7_init_37 : decode cX7_init 37 = .ok (.iconst 0, 1) := by decide +kernel
theorem dX7_init_38 : decode cX7_init 38 = .ok (.putfield 24, 3) := by decide +kernel
theorem dX7_init_41 : decode cX7_init 41 = .ok (.return_, 1) := by decide +kernel
/-! the constructor of MixfixDesk$Tree -/
abbrev rm_X7_init : Room := { frames := 1, cells := 4, slots := 160, locals := 12 }
theorem X7_init_inX7 : ∀ w ∈ wsX70, w ∈ wsX7_init := by decide +kernel
set_option maxHeartbeats 4000000 in
set_option maxRecDepth 100000 in
theorem c_X7_init (l : Launch) (dC : Nat → ClassId) (dI : Nat → Nat → Nat) (cI cJ cB cZ : ClassId) (a0 sz : Nat)  : Met l yX7_init wsX7_init rm_X7_init (cP (dC, dI) vwCl [(cI, .int), (cJ, .long), (cB, .byte), (cZ, .boolean)] [.ref a0] [(a0, .inr (7, [.null, .null, .null, .null, .int 0]))] sz) (cQvu a0 (dC, dI) vwCl (fun u : Nat → Nat → Nat => [((u 0 0), .inr (7, [.ref (u 0 1), .ref (u 0 2), .ref (u 0 3), .ref (u 0 4), .int 0])), ((u 0 1), .inl (cI, 40, .inl (fun _ => 0))), ((u 0 2), .inl (cI, 40, .inl (fun _ => 0))), ((u 0 3), .inl (cI, 40, .inl (fun _ => 0))), ((u 0 4), .inl (cI, 40, .inl (fun _ => 0)))]) [(a0, .inr (7, [.null, .null, .null, .null, .int 0]))] sz) 4 160 (va_A [(a0, .inr (7, [.null, .null, .null, .null, .int 0]))] sz) := by
  refine cx_of (cc := cX7_init) (maxL := 1) (ret := none) (own := RX7) (by decide) rfl rfl (Nat.le_of_ble_eq_true rfl) ?_
  intro p e s m below meth c A C0 hinN hK hN hsz hAe hA hP hD hS ls hl
  obtain ⟨⟨hx, hb, hml, hown, hts⟩, hr, hlocks⟩ := id C0
  have hin : meth.name = "<init>" := hinN.2
  have hl : lv_has ls 1 [(0, .ref a0)] := hl
  have hP : va_P (dC, dI) vwCl [(a0, .inr (7, [.null, .null, .null, .null, .int 0]))] s.heap := hP
  refine lv_aload_n hx hb dX7_init_0 rfl (lv_at hl 0 rfl) ?_
  refine W.objInit hx hb hown (hts (.methodLink RX7 3 objectInit) (by decide +kernel)) (hts (.instanceMethod objectInit) (by decide +kernel)) (hts (.code objectInit ⟨#[0xb1]⟩ 1 none) (by decide +kernel)) rfl (by rw [hml]; exact hl.1) rfl dX7_init_1 (Nat.le_of_ble_eq_true rfl) (Nat.le_of_ble_eq_true rfl) ?_
  refine W.eq (g2 := F0 m 4 ls []) rfl ?_
  refine lv_aload_n hx hb dX7_init_4 rfl (lv_at hl 0 rfl) ?_
  refine lv_bipush (v := 40) hx hb dX7_init_5 (by decide) ?_
  refine cx_newa (atype := .int) (cA := cI) (N' := 40) (a0 := (40, .inl (fun _ => 0))) hx hb (hts (.arrayClass .int) (by decide +kernel)) (ty := .int) rfl hK 0 rfl (fun _ _ h1 h2 => Option.some.inj (h1.symm.trans h2)) hP hD hS hA (fun _ => rfl) (by decide) (by decide) (by decide +kernel) (Nat.le_of_ble_eq_true rfl) (Nat.le_of_ble_eq_true rfl) dX7_init_7 (fun q_1 H hP hD hS => ?_)
  have hP : va_P (dC, dI) vwCl [(a0, .inr (7, [.null, .null, .null, .null, .int 0])), (q_1, .inl (cI, 40, .inl (fun _ => 0)))] H := hP
  have hD : va_D A [(a0, .inr (7, [.null, .null, .null, .null, .int 0])), (q_1, .inl (cI, 40, .inl (fun _ => 0)))] := hD
  refine va_putF (D := (dC, dI)) (ci := 7) (v := .ref q_1) (ty := .array .int) (C := RX7) (T := TX7) (N := 5) hx hb hts X7_init_inX7 tyX7 tyX7_ok nmX7 hown hK hP hD hS 0 rfl rfl 0 (by decide) (hts (.fieldLink RX7 9 "MixfixDesk$Tree" "top" "[I") (by decide +kernel)) (fun _ h9 => h9) rfl hin rfl (by decide +kernel) rfl rfl (Nat.le_of_ble_eq_true rfl) dX7_init_9 (fun H locs hP hD hS => ?_)
  have hP : va_P (dC, dI) vwCl [(a0, .inr (7, [.ref q_1, .null, .null, .null, .int 0])), (q_1, .inl (cI, 40, .inl (fun _ => 0)))] H := hP
  have hD : va_D A [(a0, .inr (7, [.ref q_1, .null, .null, .null, .int 0])), (q_1, .inl (cI, 40, .inl (fun _ => 0)))] := hD
  refine lv_aload_n hx hb dX7_init_12 rfl (lv_at hl 0 rfl) ?_
  refine lv_bipush (v := 40) hx hb dX7_init_13 (by decide) ?_
  refine cx_newa (atype := .int) (cA := cI) (N' := 40) (a0 := (40, .inl (fun _ => 0))) hx hb (hts (.arrayClass .int) (by decide +kernel)) (ty := .int) rfl hK 0 rfl (fun _ _ h1 h2 => Option.some.inj (h1.symm.trans h2)) hP hD hS hA (fun _ => rfl) (by decide) (by decide) (by decide +kernel) (Nat.le_of_ble_eq_true rfl) (Nat.le_of_ble_eq_true rfl) dX7_init_15 (fun q_2 H hP hD hS => ?_)
  have hP : va_P (dC, dI) vwCl [(a0, .inr (7, [.ref q_1, .null, .null, .null, .int 0])), (q_1, .inl (cI, 40, .inl (fun _ => 0))), (q_2, .inl (cI, 40, .inl (fun _ => 0)))] H := hP
  have hD : va_D A [(a0, .inr (7, [.ref q_1, .null, .null, .null, .int 0])), (q_1, .inl (cI, 40, .inl (fun _ => 0))), (q_2, .inl (cI, 40, .inl (fun _ => 0)))] := hD
  refine va_putF (D := (dC, dI)) (ci := 7) (v := .ref q_2) (ty := .array .int) (C := RX7) (T := TX7) (N := 5) hx hb hts X7_init_inX7 tyX7 tyX7_ok nmX7 hown hK hP hD hS 0 rfl rfl 1 (by decide) (hts (.fieldLink RX7 15 "MixfixDesk$Tree" "first" "[I") (by decide +kernel)) (fun _ h9 => h9) rfl hin rfl (by decide +kernel) rfl rfl (Nat.le_of_ble_eq_true rfl) dX7_init_17 (fun H locs hP hD hS => ?_)
  have hP : va_P (dC, dI) vwCl [(a0, .inr (7, [.ref q_1, .ref q_2, .null, .null, .int 0])), (q_1, .inl (cI, 40, .inl (fun _ => 0))), (q_2, .inl (cI, 40, .inl (fun _ => 0)))] H := hP
  have hD : va_D A [(a0, .inr (7, [.ref q_1, .ref q_2, .null, .null, .int 0])), (q_1, .inl (cI, 40, .inl (fun _ => 0))), (q_2, .inl (cI, 40, .inl (fun _ => 0)))] := hD
  refine lv_aload_n hx hb dX7_init_20 rfl (lv_at hl 0 rfl) ?_
  refine lv_bipush (v := 40) hx hb dX7_init_21 (by decide) ?_
  refine cx_newa (atype := .int) (cA := cI) (N' := 40) (a0 := (40, .inl (fun _ => 0))) hx hb (hts (.arrayClass .int) (by decide +kernel)) (ty := .int) rfl hK 0 rfl (fun _ _ h1 h2 => Option.some.inj (h1.symm.trans h2)) hP hD hS hA (fun _ => rfl) (by decide) (by decide) (by decide +kernel) (Nat.le_of_ble_eq_true rfl) (Nat.le_of_ble_eq_true rfl) dX7_init_23 (fun q_3 H hP hD hS => ?_)
  have hP : va_P (dC, dI) vwCl [(a0, .inr (7, [.ref q_1, .ref q_2, .null, .null, .int 0])), (q_1, .inl (cI, 40, .inl (fun _ => 0))), (q_2, .inl (cI, 40, .inl (fun _ => 0))), (q_3, .inl (cI, 40, .inl (fun _ => 0)))] H := hP
  have hD : va_D A [(a0, .inr (7, [.ref q_1, .ref q_2, .null, .null, .int 0])), (q_1, .inl (cI, 40, .inl (fun _ => 0))), (q_2, .inl (cI, 40, .inl (fun _ => 0))), (q_3, .inl (cI, 40, .inl (fun _ => 0)))] := hD
  refine va_putF (D := (dC, dI)) (ci := 7) (v := .ref q_3) (ty := .array .int) (C := RX7) (T := TX7) (N := 5) hx hb hts X7_init_inX7 tyX7 tyX7_ok nmX7 hown hK hP hD hS 0 rfl rfl 2 (by decide) (hts (.fieldLink RX7 18 "MixfixDesk$Tree" "end" "[I") (by decide +kernel)) (fun _ h9 => h9) rfl hin rfl (by decide +kernel) rfl rfl (Nat.le_of_ble_eq_true rfl) dX7_init_25 (fun H locs hP hD hS => ?_)
  have hP : va_P (dC, dI) vwCl [(a0, .inr (7, [.ref q_1, .ref q_2, .ref q_3, .null, .int 0])), (q_1, .inl (cI, 40, .inl (fun _ => 0))), (q_2, .inl (cI, 40, .inl (fun _ => 0))), (q_3, .inl (cI, 40, .inl (fun _ => 0)))] H := hP
  have hD : va_D A [(a0, .inr (7, [.ref q_1, .ref q_2, .ref q_3, .null, .int 0])), (q_1, .inl (cI, 40, .inl (fun _ => 0))), (q_2, .inl (cI, 40, .inl (fun _ => 0))), (q_3, .inl (cI, 40, .inl (fun _ => 0)))] := hD
  refine lv_aload_n hx hb dX7_init_28 rfl (lv_at hl 0 rfl) ?_
  refine lv_bipush (v := 40) hx hb dX7_init_29 (by decide) ?_
  refine cx_newa (atype := .int) (cA := cI) (N' := 40) (a0 := (40, .inl (fun _ => 0))) hx hb (hts (.arrayClass .int) (by decide +kernel)) (ty := .int) rfl hK 0 rfl (fun _ _ h1 h2 => Option.some.inj (h1.symm.trans h2)) hP hD hS hA (fun _ => rfl) (by decide) (by decide) (by decide +kernel) (Nat.le_of_ble_eq_true rfl) (Nat.le_of_ble_eq_true rfl) dX7_init_31 (fun q_4 H hP hD hS => ?_)
  have hP : va_P (dC, dI) vwCl [(a0, .inr (7, [.ref q_1, .ref q_2, .ref q_3, .null, .int 0])), (q_1, .inl (cI, 40, .inl (fun _ => 0))), (q_2, .inl (cI, 40, .inl (fun _ => 0))), (q_3, .inl (cI, 40, .inl (fun _ => 0))), (q_4, .inl (cI, 40, .inl (fun _ => 0)))] H := hP
  have hD : va_D A [(a0, .inr (7, [.ref q_1, .ref q_2, .ref q_3, .null, .int 0])), (q_1, .inl (cI, 40, .inl (fun _ => 0))), (q_2, .inl (cI, 40, .inl (fun _ => 0))), (q_3, .inl (cI, 40, .inl (fun _ => 0))), (q_4, .inl (cI, 40, .inl (fun _ => 0)))] := hD
  refine va_putF (D := (dC, dI)) (ci := 7) (v := .ref q_4) (ty := .array .int) (C := RX7) (T := TX7) (N := 5) hx hb hts X7_init_inX7 tyX7 tyX7_ok nmX7 hown hK hP hD hS 0 rfl rfl 3 (by decide) (hts (.fieldLink RX7 21 "MixfixDesk$Tree" "depth" "[I") (by decide +kernel)) (fun _ h9 => h9) rfl hin rfl (by decide +kernel) rfl rfl (Nat.le_of_ble_eq_true rfl) dX7_init_33 (fun H locs hP hD hS => ?_)
  have hP : va_P (dC, dI) vwCl [(a0, .inr (7, [.ref q_1, .ref q_2, .ref q_3, .ref q_4, .int 0])), (q_1, .inl (cI, 40, .inl (fun _ => 0))), (q_2, .inl (cI, 40, .inl (fun _ => 0))), (q_3, .inl (cI, 40, .inl (fun _ => 0))), (q_4, .inl (cI, 40, .inl (fun _ => 0)))] H := hP
  have hD : va_D A [(a0, .inr (7, [.ref q_1, .ref q_2, .ref q_3, .ref q_4, .int 0])), (q_1, .inl (cI, 40, .inl (fun _ => 0))), (q_2, .inl (cI, 40, .inl (fun _ => 0))), (q_3, .inl (cI, 40, .inl (fun _ => 0))), (q_4, .inl (cI, 40, .inl (fun _ => 0)))] := hD
  refine lv_aload_n hx hb dX7_init_36 rfl (lv_at hl 0 rfl) ?_
  refine lv_iconst (v := 0) hx hb dX7_init_37 (by decide) ?_
  refine va_put (D := (dC, dI)) (ci := 7) (v := .int 0) (ty := .int) (C := RX7) (T := TX7) (N := 5) hx hb hts X7_init_inX7 tyX7 tyX7_ok nmX7 hown hK hP hD hS 0 rfl rfl 4 (by decide) (hts (.fieldLink RX7 24 "MixfixDesk$Tree" "size" "I") (by decide +kernel)) (fun _ h9 => h9) rfl (by decide +kernel) rfl rfl (Nat.le_of_ble_eq_true rfl) dX7_init_38 (fun H locs hP hD hS => ?_)
  have hP : va_P (dC, dI) vwCl [(a0, .inr (7, [.ref q_1, .ref q_2, .ref q_3, .ref q_4, .int 0])), (q_1, .inl (cI, 40, .inl (fun _ => 0))), (q_2, .inl (cI, 40, .inl (fun _ => 0))), (q_3, .inl (cI, 40, .inl (fun _ => 0))), (q_4, .inl (cI, 40, .inl (fun _ => 0)))] H := hP
  have hD : va_D A [(a0, .inr (7, [.ref q_1, .ref q_2, .ref q_3, .ref q_4, .int 0])), (q_1, .inl (cI, 40, .inl (fun _ => 0))), (q_2, .inl (cI, 40, .inl (fun _ => 0))), (q_3, .inl (cI, 40, .inl (fun _ => 0))), (q_4, .inl (cI, 40, .inl (fun _ => 0)))] := hD
  refine W.widen (k := 4) (n := 160) (Nat.le_of_ble_eq_true rfl) (Nat.le_of_ble_eq_true rfl) ?_
  exact cx_retvu C0 (fun k => match k with | _ => (fun j => match j with | 0 => a0 | 1 => q_1 | 2 => q_2 | 3 => q_3 | 4 => q_4 | _ => 0)) rfl hsz hAe dX7_init_41 hP hD hS

theorem dX5_init_0 : decode cX5_init 0 = .ok (.aload_n 0, 1) := by decide +kernel
theorem dX5_init_1 : decode cX5_init 1 = .ok (.invokespecial 3, 3) := by decide +kernel
theorem dX5_init_4 : decode cX5_init 4 = .ok (.aload_n 0, 1) := by decide +kernel
theorem dX5_init_5 : decode cX5_init 5 = .ok (.bipush 40, 2) := by decide +kernel
theorem dX5_init_7 : decode cX5_init 7 = .ok (.newarray .int, 2) := by decide +kernel
theorem dX5_init_9 : decode cX5_init 9 = .ok (.putfield 9, 3) := by decide +kernel
theorem dX5_init_12 : decode cX5_init 12 = .ok (.aload_n 0, 1) := by decide +kernel
theorem dX5_init_13 : decode cX5_init 13 = .ok (.bipush 40, 2) := by decide +kernel
theorem dX5_init_15 : decode cX5_init 15 = .ok (.newarray .int, 2) := by decide +kernel
theorem dX5_init_17 : decode cX5_init 17 = .ok (.putfield 15, 3) := by decide +kernel
theorem dX5_init_20 : decode cX5_init 20 = .ok (.aload_n 0, 1) := by decide +kernel
theorem dX5_init_21 : decode cX5_init 21 = .ok (.bipush 40, 2) := by decide +kernel
theorem dX5_init_23 : decode cX5_init 23 = .ok (.newarray .int, 2) := by decide +kernel
theorem dX5_init_25 : decode cX5_init 25 = .ok (.putfield 18, 3) := by decide +kernel
theorem dX5_init_28 : decode cX5_init 28 = .ok (.aload_n 0, 1) := by decide +kernel
theorem dX5_init_29 : decode cX5_init 29 = .ok (.bipush 40, 2) := by decide +kernel
theorem dX5_init_31 : decode cX5_init 31 = .ok (.newarray .int, 2) := by decide +kernel
theorem dX5_init_33 : decode cX5_init 33 = .ok (.putfield 21, 3) := by decide +kernel
theorem dX5_init_36 : decode cX5_init 36 = .ok (.aload_n 0, 1) := by decide +kernel
theorem dX5_init_37 : decode cX5_init 37 = .ok (.bipush 40, 2) := by decide +kernel
theorem dX5_init_39 : decode cX5_init 39 = .ok (.newarray .int, 2) := by decide +kernel
theorem dX5_init_41 : decode cX5_init 41 = .ok (.putfield 24, 3) := by decide +kernel
theorem dX5_init_44 : decode cX5_init 44 = .ok (.aload_n 0, 1) := by decide +kernel
theorem dX5_init_45 : decode cX5_init 45 = .ok (.iconst 0, 1) := by decide +kernel
theorem dX5_init_46 : decode cX5_init 46 = .ok (.putfield 27, 3) := by decide +kernel
theorem dX5_init_49 : decode cX5_init 49 = .ok (.aload_n 0, 1) := by decide +kernel
theorem dX5_init_50 : decode cX5_init 50 = .ok (.aload_n 1, 1) := by decide +kernel
theorem dX5_init_51 : decode cX5_init 51 = .ok (.putfield 31, 3) := by decide +kernel
theorem dX5_init_54 : decode cX5_init 54 = .ok (.aload_n 0, 1) := by decide +kernel
theorem dX5_init_55 : decode cX5_init 55 = .ok (.aload_n 2, 1) := by decide +kernel
theorem dX5_init_56 : decode cX5_init 56 = .ok (.putfield 35, 3) := by decide +kernel
theorem dX5_init_59 : decode cX5_init 59 = .ok (.aload_n 0, 1) := by decide +kernel
theorem dX5_init_60 : decode cX5_init 60 = .ok (.aload_n 3, 1) := by decide +kernel
theorem dX5_init_61 : decode cX5_init 61 = .ok (.putfield 39, 3) := by decide +kernel
theorem dX5_init_64 : decode cX5_init 64 = .ok (.return_, 1) := by decide +kernel
/-! the constructor of MixfixDesk$Taker -/
abbrev rm_X5_init : Room := { frames := 1, cells := 5, slots := 200, locals := 12 }
theorem X5_init_inX5 : ∀ w ∈ wsX50, w ∈ wsX5_init := by decide +kernel
set_option maxHeartbeats 4000000 in
set_option maxRecDepth 100000 in
theorem c_X5_init (l : Launch) (dC : Nat → ClassId) (dI : Nat → Nat → Nat) (cI cJ cB cZ : ClassId) (a0 sz : Nat) (x0 : Nat) (x1 : Nat) (x2 : Nat) : Met l yX5_init wsX5_init rm_X5_init (cP (dC, dI) vwCl [(cI, .int), (cJ, .long), (cB, .byte), (cZ, .boolean)] [.ref a0, .ref x0, .ref x1, .ref x2] [(a0, .inr (5, [.null, .null, .null, .null, .null, .null, .null, .null, .int 0]))] sz) (cQvu a0 (dC, dI) vwCl (fun u : Nat → Nat → Nat => [((u 0 0), .inr (5, [.ref x0, .ref x1, .ref x2, .ref (u 0 4), .ref (u 0 5), .ref (u 0 6), .ref (u 0 7), .ref (u 0 8), .int 0])), ((u 0 4), .inl (cI, 40, .inl (fun _ => 0))), ((u 0 5), .inl (cI, 40, .inl (fun _ => 0))), ((u 0 6), .inl (cI, 40, .inl (fun _ => 0))), ((u 0 7), .inl (cI, 40, .inl (fun _ => 0))), ((u 0 8), .inl (cI, 40, .inl (fun _ => 0)))]) [(a0, .inr (5, [.null, .null, .null, .null, .null, .null, .null, .null, .int 0]))] sz) 5 200 (va_A [(a0, .inr (5, [.null, .null, .null, .null, .null, .null, .null, .null, .int 0]))] sz) := by
  refine cx_of (cc := cX5_init) (maxL := 4) (ret := none) (own := RX5) (by decide) rfl rfl (Nat.le_of_ble_eq_true rfl) ?_
  intro p e s m below meth c A C0 hinN hK hN hsz hAe hA hP hD hS ls hl
  obtain ⟨⟨hx, hb, hml, hown, hts⟩, hr, hlocks⟩ := id C0
  have hin : meth.name = "<init>" := hinN.2
  have hl : lv_has ls 4 [(0, .ref a0), (1, .ref x0), (2, .ref x1), (3, .ref x2)] := hl
  have hP : va_P (dC, dI) vwCl [(a0, .inr (5, [.null, .null, .null, .null, .null, .null, .null, .null, .int 0]))] s.heap := hP
  refine lv_aload_n hx hb dX5_init_0 rfl (lv_at hl 0 rfl) ?_
  refine W.objInit hx hb hown (hts (.methodLink RX5 3 objectInit) (by decide +kernel)) (hts (.instanceMethod objectInit) (by decide +kernel)) (hts (.code objectInit ⟨#[0xb1]⟩ 1 none) (by decide +kernel)) rfl (by rw [hml]; exact hl.1) rfl dX5_init_1 (Nat.le_of_ble_eq_true rfl) (Nat.le_of_ble_eq_true rfl) ?_
  refine W.eq (g2 := F0 m 4 ls []) rfl ?_
  refine lv_aload_n hx hb dX5_init_4 rfl (lv_at hl 0 rfl) ?_
  refine lv_bipush (v := 40) hx hb dX5_init_5 (by decide) ?_
  refine cx_newa (atype := .int) (cA := cI) (N' := 40) (a0 := (40, .inl (fun _ => 0))) hx hb (hts (.arrayClass .int) (by decide +kernel)) (ty := .int) rfl hK 0 rfl (fun _ _ h1 h2 => Option.some.inj (h1.symm.trans h2)) hP hD hS hA (fun _ => rfl) (by decide) (by decide) (by decide +kernel) (Nat.le_of_ble_eq_true rfl) (Nat.le_of_ble_eq_true rfl) dX5_init_7 (fun q_1 H hP hD hS => ?_)
  have hP : va_P (dC, dI) vwCl [(a0, .inr (5, [.null, .null, .null, .null, .null, .null, .null, .null, .int 0])), (q_1, .inl (cI, 40, .inl (fun _ => 0)))] H := hP
  have hD : va_D A [(a0, .inr (5, [.null, .null, .null, .null, .null, .null, .null, .null, .int 0])), (q_1, .inl (cI, 40, .inl (fun _ => 0)))] := hD
  refine va_putF (D := (dC, dI)) (ci := 5) (v := .ref q_1) (ty := .array .int) (C := RX5) (T := TX5) (N := 9) hx hb hts X5_init_inX5 tyX5 tyX5_ok nmX5 hown hK hP hD hS 0 rfl rfl 3 (by decide) (hts (.fieldLink RX5 9 "MixfixDesk$Taker" "start" "[I") (by decide +kernel)) (fun _ h9 => h9) rfl hin rfl (by decide +kernel) rfl rfl (Nat.le_of_ble_eq_true rfl) dX5_init_9 (fun H locs hP hD hS => ?_)
  have hP : va_P (dC, dI) vwCl [(a0, .inr (5, [.null, .null, .null, .ref q_1, .null, .null, .null, .null, .int 0])), (q_1, .inl (cI, 40, .inl (fun _ => 0)))] H := hP
  have hD : va_D A [(a0, .inr (5, [.null, .null, .null, .ref q_1, .null, .null, .null, .null, .int 0])), (q_1, .inl (cI, 40, .inl (fun _ => 0)))] := hD
  refine lv_aload_n hx hb dX5_init_12 rfl (lv_at hl 0 rfl) ?_
  refine lv_bipush (v := 40) hx hb dX5_init_13 (by decide) ?_
  refine cx_newa (atype := .int) (cA := cI) (N' := 40) (a0 := (40, .inl (fun _ => 0))) hx hb (hts (.arrayClass .int) (by decide +kernel)) (ty := .int) rfl hK 0 rfl (fun _ _ h1 h2 => Option.some.inj (h1.symm.trans h2)) hP hD hS hA (fun _ => rfl) (by decide) (by decide) (by decide +kernel) (Nat.le_of_ble_eq_true rfl) (Nat.le_of_ble_eq_true rfl) dX5_init_15 (fun q_2 H hP hD hS => ?_)
  have hP : va_P (dC, dI) vwCl [(a0, .inr (5, [.null, .null, .null, .ref q_1, .null, .null, .null, .null, .int 0])), (q_1, .inl (cI, 40, .inl (fun _ => 0))), (q_2, .inl (cI, 40, .inl (fun _ => 0)))] H := hP
  have hD : va_D A [(a0, .inr (5, [.null, .null, .null, .ref q_1, .null, .null, .null, .null, .int 0])), (q_1, .inl (cI, 40, .inl (fun _ => 0))), (q_2, .inl (cI, 40, .inl (fun _ => 0)))] := hD
  refine va_putF (D := (dC, dI)) (ci := 5) (v := .ref q_2) (ty := .array .int) (C := RX5) (T := TX5) (N := 9) hx hb hts X5_init_inX5 tyX5 tyX5_ok nmX5 hown hK hP hD hS 0 rfl rfl 4 (by decide) (hts (.fieldLink RX5 15 "MixfixDesk$Taker" "end" "[I") (by decide +kernel)) (fun _ h9 => h9) rfl hin rfl (by decide +kernel) rfl rfl (Nat.le_of_ble_eq_true rfl) dX5_init_17 (fun H locs hP hD hS => ?_)
  have hP : va_P (dC, dI) vwCl [(a0, .inr (5, [.null, .null, .null, .ref q_1, .ref q_2, .null, .null, .null, .int 0])), (q_1, .inl (cI, 40, .inl (fun _ => 0))), (q_2, .inl (cI, 40, .inl (fun _ => 0)))] H := hP
  have hD : va_D A [(a0, .inr (5, [.null, .null, .null, .ref q_1, .ref q_2, .null, .null, .null, .int 0])), (q_1, .inl (cI, 40, .inl (fun _ => 0))), (q_2, .inl (cI, 40, .inl (fun _ => 0)))] := hD
  refine lv_aload_n hx hb dX5_init_20 rfl (lv_at hl 0 rfl) ?_
  refine lv_bipush (v := 40) hx hb dX5_init_21 (by decide) ?_
  refine cx_newa (atype := .int) (cA := cI) (N' := 40) (a0 := (40, .inl (fun _ => 0))) hx hb (hts (.arrayClass .int) (by decide +kernel)) (ty := .int) rfl hK 0 rfl (fun _ _ h1 h2 => Option.some.inj (h1.symm.trans h2)) hP hD hS hA (fun _ => rfl) (by decide) (by decide) (by decide +kernel) (Nat.le_of_ble_eq_true rfl) (Nat.le_of_ble_eq_true rfl) dX5_init_23 (fun q_3 H hP hD hS => ?_)
  have hP : va_P (dC, dI) vwCl [(a0, .inr (5, [.null, .null, .null, .ref q_1, .ref q_2, .null, .null, .null, .int 0])), (q_1, .inl (cI, 40, .inl (fun _ => 0))), (q_2, .inl (cI, 40, .inl (fun _ => 0))), (q_3, .inl (cI, 40, .inl (fun _ => 0)))] H := hP
  have hD : va_D A [(a0, .inr (5, [.null, .null, .null, .ref q_1, .ref q_2, .null, .null, .null, .int 0])), (q_1, .inl (cI, 40, .inl (fun _ => 0))), (q_2, .inl (cI, 40, .inl (fun _ => 0))), (q_3, .inl (cI, 40, .inl (fun _ => 0)))] := hD
  refine va_putF (D := (dC, dI)) (ci := 5) (v := .ref q_3) (ty := .array .int) (C := RX5) (T := TX5) (N := 9) hx hb hts X5_init_inX5 tyX5 tyX5_ok nmX5 hown hK hP hD hS 0 rfl rfl 5 (by decide) (hts (.fieldLink RX5 18 "MixfixDesk$Taker" "mask" "[I") (by decide +kernel)) (fun _ h9 => h9) rfl hin rfl (by decide +kernel) rfl rfl (Nat.le_of_ble_eq_true rfl) dX5_init_25 (fun H locs hP hD hS => ?_)
  have hP : va_P (dC, dI) vwCl [(a0, .inr (5, [.null, .null, .null, .ref q_1, .ref q_2, .ref q_3, .null, .null, .int 0])), (q_1, .inl (cI, 40, .inl (fun _ => 0))), (q_2, .inl (cI, 40, .inl (fun _ => 0))), (q_3, .inl (cI, 40, .inl (fun _ => 0)))] H := hP
  have hD : va_D A [(a0, .inr (5, [.null, .null, .null, .ref q_1, .ref q_2, .ref q_3, .null, .null, .int 0])), (q_1, .inl (cI, 40, .inl (fun _ => 0))), (q_2, .inl (cI, 40, .inl (fun _ => 0))), (q_3, .inl (cI, 40, .inl (fun _ => 0)))] := hD
  refine lv_aload_n hx hb dX5_init_28 rfl (lv_at hl 0 rfl) ?_
  refine lv_bipush (v := 40) hx hb dX5_init_29 (by decide) ?_
  refine cx_newa (atype := .int) (cA := cI) (N' := 40) (a0 := (40, .inl (fun _ => 0))) hx hb (hts (.arrayClass .int) (by decide +kernel)) (ty := .int) rfl hK 0 rfl (fun _ _ h1 h2 => Option.some.inj (h1.symm.trans h2)) hP hD hS hA (fun _ => rfl) (by decide) (by decide) (by decide +kernel) (Nat.le_of_ble_eq_true rfl) (Nat.le_of_ble_eq_true rfl) dX5_init_31 (fun q_4 H hP hD hS => ?_)
  have hP : va_P (dC, dI) vwCl [(a0, .inr (5, [.null, .null, .null, .ref q_1, .ref q_2, .ref q_3, .null, .null, .int 0])), (q_1, .inl (cI, 40, .inl (fun _ => 0))), (q_2, .inl (cI, 40, .inl (fun _ => 0))), (q_3, .inl (cI, 40, .inl (fun _ => 0))), (q_4, .inl (cI, 40, .inl (fun _ => 0)))] H := hP
  have hD : va_D A [(a0, .inr (5, [.null, .null, .null, .ref q_1, .ref q_2, .ref q_3, .null, .null, .int 0])), (q_1, .inl (cI, 40, .inl (fun _ => 0))), (q_2, .inl (cI, 40, .inl (fun _ => 0))), (q_3, .inl (cI, 40, .inl (fun _ => 0))), (q_4, .inl (cI, 40, .inl (fun _ => 0)))] := hD
  refine va_putF (D := (dC, dI)) (ci := 5) (v := .ref q_4) (ty := .array .int) (C := RX5) (T := TX5) (N := 9) hx hb hts X5_init_inX5 tyX5 tyX5_ok nmX5 hown hK hP hD hS 0 rfl rfl 6 (by decide) (hts (.fieldLink RX5 21 "MixfixDesk$Taker" "rank" "[I") (by decide +kernel)) (fun _ h9 => h9) rfl hin rfl (by decide +kernel) rfl rfl (Nat.le_of_ble_eq_true rfl) dX5_init_33 (fun H locs hP hD hS => ?_)
  have hP : va_P (dC, dI) vwCl [(a0, .inr (5, [.null, .null, .null, .ref q_1, .ref q_2, .ref q_3, .ref q_4, .null, .int 0])), (q_1, .inl (cI, 40, .inl (fun _ => 0))), (q_2, .inl (cI, 40, .inl (fun _ => 0))), (q_3, .inl (cI, 40, .inl (fun _ => 0))), (q_4, .inl (cI, 40, .inl (fun _ => 0)))] H := hP
  have hD : va_D A [(a0, .inr (5, [.null, .null, .null, .ref q_1, .ref q_2, .ref q_3, .ref q_4, .null, .int 0])), (q_1, .inl (cI, 40, .inl (fun _ => 0))), (q_2, .inl (cI, 40, .inl (fun _ => 0))), (q_3, .inl (cI, 40, .inl (fun _ => 0))), (q_4, .inl (cI, 40, .inl (fun _ => 0)))] := hD
  refine lv_aload_n hx hb dX5_init_36 rfl (lv_at hl 0 rfl) ?_
  refine lv_bipush (v := 40) hx hb dX5_init_37 (by decide) ?_
  refine cx_newa (atype := .int) (cA := cI) (N' := 40) (a0 := (40, .inl (fun _ => 0))) hx hb (hts (.arrayClass .int) (by decide +kernel)) (ty := .int) rfl hK 0 rfl (fun _ _ h1 h2 => Option.some.inj (h1.symm.trans h2)) hP hD hS hA (fun _ => rfl) (by decide) (by decide) (by decide +kernel) (Nat.le_of_ble_eq_true rfl) (Nat.le_of_ble_eq_true rfl) dX5_init_39 (fun q_5 H hP hD hS => ?_)
  have hP : va_P (dC, dI) vwCl [(a0, .inr (5, [.null, .null, .null, .ref q_1, .ref q_2, .ref q_3, .ref q_4, .null, .int 0])), (q_1, .inl (cI, 40, .inl (fun _ => 0))), (q_2, .inl (cI, 40, .inl (fun _ => 0))), (q_3, .inl (cI, 40, .inl (fun _ => 0))), (q_4, .inl (cI, 40, .inl (fun _ => 0))), (q_5, .inl (cI, 40, .inl (fun _ => 0)))] H := hP
  have hD : va_D A [(a0, .inr (5, [.null, .null, .null, .ref q_1, .ref q_2, .ref q_3, .ref q_4, .null, .int 0])), (q_1, .inl (cI, 40, .inl (fun _ => 0))), (q_2, .inl (cI, 40, .inl (fun _ => 0))), (q_3, .inl (cI, 40, .inl (fun _ => 0))), (q_4, .inl (cI, 40, .inl (fun _ => 0))), (q_5, .inl (cI, 40, .inl (fun _ => 0)))] := hD
  refine va_putF (D := (dC, dI)) (ci := 5) (v := .ref q_5) (ty := .array .int) (C := RX5) (T := TX5) (N := 9) hx hb hts X5_init_inX5 tyX5 tyX5_ok nmX5 hown hK hP hD hS 0 rfl rfl 7 (by decide) (hts (.fieldLink RX5 24 "MixfixDesk$Taker" "depth" "[I") (by decide +kernel)) (fun _ h9 => h9) rfl hin rfl (by decide +kernel) rfl rfl (Nat.le_of_ble_eq_true rfl) dX5_init_41 (fun H locs hP hD hS => ?_)
  have hP : va_P (dC, dI) vwCl [(a0, .inr (5, [.null, .null, .null, .ref q_1, .ref q_2, .ref q_3, .ref q_4, .ref q_5, .int 0])), (q_1, .inl (cI, 40, .inl (fun _ => 0))), (q_2, .inl (cI, 40, .inl (fun _ => 0))), (q_3, .inl (cI, 40, .inl (fun _ => 0))), (q_4, .inl (cI, 40, .inl (fun _ => 0))), (q_5, .inl (cI, 40, .inl (fun _ => 0)))] H := hP
  have hD : va_D A [(a0, .inr (5, [.null, .null, .null, .ref q_1, .ref q_2, .ref q_3, .ref q_4, .ref q_5, .int 0])), (q_1, .inl (cI, 40, .inl (fun _ => 0))), (q_2, .inl (cI, 40, .inl (fun _ => 0))), (q_3, .inl (cI, 40, .inl (fun _ => 0))), (q_4, .inl (cI, 40, .inl (fun _ => 0))), (q_5, .inl (cI, 40, .inl (fun _ => 0)))] := hD
  refine lv_aload_n hx hb dX5_init_44 rfl (lv_at hl 0 rfl) ?_
  refine lv_iconst (v := 0) hx hb dX5_init_45 (by decide) ?_
  refine va_put (D := (dC, dI)) (ci := 5) (v := .int 0) (ty := .int) (C := RX5) (T := TX5) (N := 9) hx hb hts X5_init_inX5 tyX5 tyX5_ok nmX5 hown hK hP hD hS 0 rfl rfl 8 (by decide) (hts (.fieldLink RX5 27 "MixfixDesk$Taker" "height" "I") (by decide +kernel)) (fun _ h9 => h9) rfl (by decide +kernel) rfl rfl (Nat.le_of_ble_eq_true rfl) dX5_init_46 (fun H locs hP hD hS => ?_)
  have hP : va_P (dC, dI) vwCl [(a0, .inr (5, [.null, .null, .null, .ref q_1, .ref q_2, .ref q_3, .ref q_4, .ref q_5, .int 0])), (q_1, .inl (cI, 40, .inl (fun _ => 0))), (q_2, .inl (cI, 40, .inl (fun _ => 0))), (q_3, .inl (cI, 40, .inl (fun _ => 0))), (q_4, .inl (cI, 40, .inl (fun _ => 0))), (q_5, .inl (cI, 40, .inl (fun _ => 0)))] H := hP
  have hD : va_D A [(a0, .inr (5, [.null, .null, .null, .ref q_1, .ref q_2, .ref q_3, .ref q_4, .ref q_5, .int 0])), (q_1, .inl (cI, 40, .inl (fun _ => 0))), (q_2, .inl (cI, 40, .inl (fun _ => 0))), (q_3, .inl (cI, 40, .inl (fun _ => 0))), (q_4, .inl (cI, 40, .inl (fun _ => 0))), (q_5, .inl (cI, 40, .inl (fun _ => 0)))] := hD
  refine lv_aload_n hx hb dX5_init_49 rfl (lv_at hl 0 rfl) ?_
  refine lv_aload_n hx hb dX5_init_50 rfl (lv_at hl 1 rfl) ?_
  refine va_putF (D := (dC, dI)) (ci := 5) (v := .ref x0) (ty := .object "MixfixDesk$Rules") (C := RX5) (T := TX5) (N := 9) hx hb hts X5_init_inX5 tyX5 tyX5_ok nmX5 hown hK hP hD hS 0 rfl rfl 0 (by decide) (hts (.fieldLink RX5 31 "MixfixDesk$Taker" "rules" "LMixfixDesk$Rules;") (by decide +kernel)) (fun _ h9 => h9) rfl hin rfl (by decide +kernel) rfl rfl (Nat.le_of_ble_eq_true rfl) dX5_init_51 (fun H locs hP hD hS => ?_)
  have hP : va_P (dC, dI) vwCl [(a0, .inr (5, [.ref x0, .null, .null, .ref q_1, .ref q_2, .ref q_3, .ref q_4, .ref q_5, .int 0])), (q_1, .inl (cI, 40, .inl (fun _ => 0))), (q_2, .inl (cI, 40, .inl (fun _ => 0))), (q_3, .inl (cI, 40, .inl (fun _ => 0))), (q_4, .inl (cI, 40, .inl (fun _ => 0))), (q_5, .inl (cI, 40, .inl (fun _ => 0)))] H := hP
  have hD : va_D A [(a0, .inr (5, [.ref x0, .null, .null, .ref q_1, .ref q_2, .ref q_3, .ref q_4, .ref q_5, .int 0])), (q_1, .inl (cI, 40, .inl (fun _ => 0))), (q_2, .inl (cI, 40, .inl (fun _ => 0))), (q_3, .inl (cI, 40, .inl (fun _ => 0))), (q_4, .inl (cI, 40, .inl (fun _ => 0))), (q_5, .inl (cI, 40, .inl (fun _ => 0)))] := hD
  refine lv_aload_n hx hb dX5_init_54 rfl (lv_at hl 0 rfl) ?_
  refine lv_aload_n hx hb dX5_init_55 rfl (lv_at hl 2 rfl) ?_
  refine va_putF (D := (dC, dI)) (ci := 5) (v := .ref x1) (ty := .object "MixfixDesk$Chart") (C := RX5) (T := TX5) (N := 9) hx hb hts X5_init_inX5 tyX5 tyX5_ok nmX5 hown hK hP hD hS 0 rfl rfl 1 (by decide) (hts (.fieldLink RX5 35 "MixfixDesk$Taker" "chart" "LMixfixDesk$Chart;") (by decide +kernel)) (fun _ h9 => h9) rfl hin rfl (by decide +kernel) rfl rfl (Nat.le_of_ble_eq_true rfl) dX5_init_56 (fun H locs hP hD hS => ?_)
  have hP : va_P (dC, dI) vwCl [(a0, .inr (5, [.ref x0, .ref x1, .null, .ref q_1, .ref q_2, .ref q_3, .ref q_4, .ref q_5, .int 0])), (q_1, .inl (cI, 40, .inl (fun _ => 0))), (q_2, .inl (cI, 40, .inl (fun _ => 0))), (q_3, .inl (cI, 40, .inl (fun _ => 0))), (q_4, .inl (cI, 40, .inl (fun _ => 0))), (q_5, .inl (cI, 40, .inl (fun _ => 0)))] H := hP
  have hD : va_D A [(a0, .inr (5, [.ref x0, .ref x1, .null, .ref q_1, .ref q_2, .ref q_3, .ref q_4, .ref q_5, .int 0])), (q_1, .inl (cI, 40, .inl (fun _ => 0))), (q_2, .inl (cI, 40, .inl (fun _ => 0))), (q_3, .inl (cI, 40, .inl (fun _ => 0))), (q_4, .inl (cI, 40, .inl (fun _ => 0))), (q_5, .inl (cI, 40, .inl (fun _ => 0)))] := hD
  refine lv_aload_n hx hb dX5_init_59 rfl (lv_at hl 0 rfl) ?_
  refine lv_aload_n hx hb dX5_init_60 rfl (lv_at hl 3 rfl) ?_
  refine va_putF (D := (dC, dI)) (ci := 5) (v := .ref x2) (ty := .object "MixfixDesk$Tree") (C := RX5) (T := TX5) (N := 9) hx hb hts X5_init_inX5 tyX5 tyX5_ok nmX5 hown hK hP hD hS 0 rfl rfl 2 (by decide) (hts (.fieldLink RX5 39 "MixfixDesk$Taker" "tree" "LMixfixDesk$Tree;") (by decide +kernel)) (fun _ h9 => h9) rfl hin rfl (by decide +kernel) rfl rfl (Nat.le_of_ble_eq_true rfl) dX5_init_61 (fun H locs hP hD hS => ?_)
  have hP : va_P (dC, dI) vwCl [(a0, .inr (5, [.ref x0, .ref x1, .ref x2, .ref q_1, .ref q_2, .ref q_3, .ref q_4, .ref q_5, .int 0])), (q_1, .inl (cI, 40, .inl (fun _ => 0))), (q_2, .inl (cI, 40, .inl (fun _ => 0))), (q_3, .inl (cI, 40, .inl (fun _ => 0))), (q_4, .inl (cI, 40, .inl (fun _ => 0))), (q_5, .inl (cI, 40, .inl (fun _ => 0)))] H := hP
  have hD : va_D A [(a0, .inr (5, [.ref x0, .ref x1, .ref x2, .ref q_1, .ref q_2, .ref q_3, .ref q_4, .ref q_5, .int 0])), (q_1, .inl (cI, 40, .inl (fun _ => 0))), (q_2, .inl (cI, 40, .inl (fun _ => 0))), (q_3, .inl (cI, 40, .inl (fun _ => 0))), (q_4, .inl (cI, 40, .inl (fun _ => 0))), (q_5, .inl (cI, 40, .inl (fun _ => 0)))] := hD
  refine W.widen (k := 5) (n := 200) (Nat.le_of_ble_eq_true rfl) (Nat.le_of_ble_eq_true rfl) ?_
  exact cx_retvu C0 (fun k => match k with | _ => (fun j => match j with | 0 => a0 | 4 => q_1 | 5 => q_2 | 6 => q_3 | 7 => q_4 | 8 => q_5 | _ => 0)) rfl hsz hAe dX5_init_64 hP hD hS

set_option maxRecDepth 20000 in
theorem ggX3_init_X7_init : GoodIn wsX3_init wsX7_init := goodIn_r _ [19, 20, 2, 3, 11, 21, 22, 23, 24, 25, 26, 27, 28, 29, 30] (by decide +kernel) (by decide +kernel)
set_option maxRecDepth 20000 in
theorem gX3_init_X7_init_n11 : GoodIn wsX3_init (wsX7_init) := ggX3_init_X7_init
theorem dX3_init_0 : decode cX3_init 0 = .ok (.aload_n 0, 1) := by decide +kernel
theorem dX3_init_1 : decode cX3_init 1 = .ok (.invokespecial 3, 3) := by decide +kernel
theorem dX3_init_4 : decode cX3_init 4 = .ok (.aload_n 0, 1) := by decide +kernel
theorem dX3_init_5 : decode cX3_init 5 = .ok (.new 9, 3) := by decide +kernel
theorem dX3_init_8 : decode cX3_init 8 = .ok (.dup, 1) := by decide +kernel
theorem dX3_init_9 : decode cX3_init 9 = .ok (.invokespecial 11, 3) := by decide +kernel
theorem dX3_init_12 : decode cX3_init 12 = .ok (.putfield 12, 3) := by decide +kernel
theorem dX3_init_15 : decode cX3_init 15 = .ok (.aload_n 0, 1) := by decide +kernel
theorem dX3_init_16 : decode cX3_init 16 = .ok (.bipush 40, 2) := by decide +kernel
theorem dX3_init_18 : decode cX3_init 18 = .ok (.newarray .long, 2) := by decide +kernel
theorem dX3_init_20 : decode cX3_init 20 = .ok (.putfield 18, 3) := by decide +kernel
theorem dX3_init_23 : decode cX3_init 23 = .ok (.aload_n 0, 1) := by decide +kernel
theorem dX3_init_24 : decode cX3_init 24 = .ok (.sipush 750, 3) := by decide +kernel
theorem dX3_init_27 : decode cX3_init 27 = .ok (.newarray .long, 2) := by decide +kernel
theorem dX3_init_29 : decode cX3_init 29 = .ok (.putfield 22, 3) := by decide +kernel
theorem dX3_init_32 : decode cX3_init 32 = .ok (.aload_n 0, 1) := by decide +kernel
theorem dX3_init_33 : decode cX3_init 33 = .ok (.sipush 750, 3) := by decide +kernel
theorem dX3_init_36 : decode cX3_init 36 = .ok (.newarray .int, 2) := by decide +kernel
theorem dX3_init_38 : decode cX3_init 38 = .ok (.putfield 25, 3) := by decide +kernel
theorem dX3_init_41 : decode cX3_init 41 = .ok (.aload_n 0, 1) := by decide +kernel
theorem dX3_init_42 : decode cX3_init 42 = .ok (.iconst 0, 1) := by decide +kernel
theorem dX3_init_43 : decode cX3_init 43 = .ok (.putfield 29, 3) := by decide +kernel
theorem dX3_init_46 : decode cX3_init 46 = .ok (.aload_n 0, 1) := by decide +kernel
theorem dX3_init_47 : decode cX3_init 47 = .ok (.iconst 0, 1) := by decide +kernel
theorem dX3_init_48 : decode cX3_init 48 = .ok (.putfield 33, 3) := by decide +kernel
theorem dX3_init_51 : decode cX3_init 51 = .ok (.aload_n 0, 1) := by decide +kernel
theorem dX3_init_52 : decode cX3_init 52 = .ok (.iconst 0, 1) := by decide +kernel
theorem dX3_init_53 : decode cX3_init 53 = .ok (.putfield 36, 3) := by decide +kernel
theorem dX3_init_56 : decode cX3_init 56 = .ok (.aload_n 0, 1) := by decide +kernel
theorem dX3_init_57 : decode cX3_init 57 = .ok (.iconst 0, 1) := by decide +kernel
theorem dX3_init_58 : decode cX3_init 58 = .ok (.putfield 39, 3) := by decide +kernel
theorem dX3_init_61 : decode cX3_init 61 = .ok (.aload_n 0, 1) := by decide +kernel
theorem dX3_init_62 : decode cX3_init 62 = .ok (.aload_n 1, 1) := by decide +kernel
theorem dX3_init_63 : decode cX3_init 63 = .ok (.putfield 43, 3) := by decide +kernel
theorem dX3_init_66 : decode cX3_init 66 = .ok (.return_, 1) := by decide +kernel
/-! the constructor of MixfixDesk$Reader -/
abbrev rm_X3_init : Room := { frames := 2, cells := 8, slots := 1705, locals := 32 }
theorem X3_init_inX3 : ∀ w ∈ wsX30, w ∈ wsX3_init := by decide +kernel
theorem X3_init_inX7 : ∀ w ∈ wsX70, w ∈ wsX3_init := by decide +kernel
set_option maxHeartbeats 4000000 in
set_option maxRecDepth 100000 in
theorem c_X3_init (l : Launch) (dC : Nat → ClassId) (dI : Nat → Nat → Nat) (cI cJ cB cZ : ClassId) (a0 sz : Nat) (x0 : Nat) : Met l yX3_init wsX3_init rm_X3_init (cP (dC, dI) vwCl [(cI, .int), (cJ, .long), (cB, .byte), (cZ, .boolean)] [.ref a0, .ref x0] [(a0, .inr (3, [.null, .null, .null, .null, .null, .int 0, .int 0, .int 0, .int 0]))] sz) (cQvu a0 (dC, dI) vwCl (fun u : Nat → Nat → Nat => [((u 0 0), .inr (3, [.ref x0, .ref (u 1 0), .ref (u 0 3), .ref (u 0 4), .ref (u 0 5), .int 0, .int 0, .int 0, .int 0])), ((u 0 3), .inl (cJ, 40, .inr (.inl (fun _ => 0)))), ((u 0 4), .inl (cJ, 750, .inr (.inl (fun _ => 0)))), ((u 0 5), .inl (cI, 750, .inl (fun _ => 0))), ((u 1 0), .inr (7, [.ref (u 1 1), .ref (u 1 2), .ref (u 1 3), .ref (u 1 4), .int 0])), ((u 1 1), .inl (cI, 40, .inl (fun _ => 0))), ((u 1 2), .inl (cI, 40, .inl (fun _ => 0))), ((u 1 3), .inl (cI, 40, .inl (fun _ => 0))), ((u 1 4), .inl (cI, 40, .inl (fun _ => 0)))]) [(a0, .inr (3, [.null, .null, .null, .null, .null, .int 0, .int 0, .int 0, .int 0]))] sz) 8 1705 (va_A [(a0, .inr (3, [.null, .null, .null, .null, .null, .int 0, .int 0, .int 0, .int 0]))] sz) := by
  refine cx_of (cc := cX3_init) (maxL := 2) (ret := none) (own := RX3) (by decide) rfl rfl (Nat.le_of_ble_eq_true rfl) ?_
  intro p e s m below meth c A C0 hinN hK hN hsz hAe hA hP hD hS ls hl
  obtain ⟨⟨hx, hb, hml, hown, hts⟩, hr, hlocks⟩ := id C0
  have hin : meth.name = "<init>" := hinN.2
  have hl : lv_has ls 2 [(0, .ref a0), (1, .ref x0)] := hl
  have hP : va_P (dC, dI) vwCl [(a0, .inr (3, [.null, .null, .null, .null, .null, .int 0, .int 0, .int 0, .int 0]))] s.heap := hP
  refine lv_aload_n hx hb dX3_init_0 rfl (lv_at hl 0 rfl) ?_
  refine W.objInit hx hb hown (hts (.methodLink RX3 3 objectInit) (by decide +kernel)) (hts (.instanceMethod objectInit) (by decide +kernel)) (hts (.code objectInit ⟨#[0xb1]⟩ 1 none) (by decide +kernel)) rfl (by rw [hml]; exact hl.1) rfl dX3_init_1 (Nat.le_of_ble_eq_true rfl) (Nat.le_of_ble_eq_true rfl) ?_
  refine W.eq (g2 := F0 m 4 ls []) rfl ?_
  refine lv_aload_n hx hb dX3_init_4 rfl (lv_at hl 0 rfl) ?_
  refine va_new (ci := 7) (fs := [.null, .null, .null, .null, .int 0]) (C := RX7) (T := TX7) (N := 5) hx hb hts X3_init_inX7 tyX7 tyX7_ok hown (hts (.classLink RX3 9 RX7) (by decide +kernel)) (hts (.instantiable RX7 5) (by decide +kernel)) (hts (.initialized RX7) (by decide +kernel)) hK hP hD hS hA rfl (by intro j hj; rcases (show j = 0 ∨ j = 1 ∨ j = 2 ∨ j = 3 ∨ j = 4 by omega) with rfl | rfl | rfl | rfl | rfl <;> rfl) (Nat.le_of_ble_eq_true rfl) (Nat.le_of_ble_eq_true rfl) dX3_init_5 (fun q_1 H hP hD hS => ?_)
  have hP : va_P (dC, dI) vwCl [(a0, .inr (3, [.null, .null, .null, .null, .null, .int 0, .int 0, .int 0, .int 0])), (q_1, .inr (7, [.null, .null, .null, .null, .int 0]))] H := hP
  have hD : va_D A [(a0, .inr (3, [.null, .null, .null, .null, .null, .int 0, .int 0, .int 0, .int 0])), (q_1, .inr (7, [.null, .null, .null, .null, .int 0]))] := hD
  refine lv_dup hx hb dX3_init_8 rfl ?_
  refine cx_vu (wr := [(a0, .inr (3, [.null, .null, .null, .null, .null, .int 0, .int 0, .int 0, .int 0]))]) (va_runIN (As := []) (rest := [.ref q_1, .ref a0]) C0.1 (c_X7_init l dC dI cI cJ cB cZ q_1 H.size ) ⟨va_cnB 0 hts gX3_init_X7_init_n11 rfl rfl rfl (hN (RX3, 11, yX7_init, "MixfixDesk") (by decide +kernel)) (hts (.initialized RX7) (by decide +kernel)) (by decide +kernel) ⟨Nat.le_of_ble_eq_true rfl, Nat.le_of_ble_eq_true rfl⟩, rfl, (hts (.instanceMethod yX7_init) (by decide +kernel))⟩ (cP_S hK hN hP hD [1] (by decide) rfl) rfl rfl hl.1 rfl (lv_room (Nat.le_of_ble_eq_true rfl)) dX3_init_9 ⟨Nat.le_of_ble_eq_true rfl, Nat.le_of_ble_eq_true rfl⟩) hP hD hS hA [1] [0] rfl rfl (by decide) (by decide) (fun u_2 H1 locs1 hu_3 hP1 hD1 hS1 => ?_)
  subst hu_3
  generalize H1 = H at hP1 hS1 ⊢
  generalize locs1 = locs at hS1 ⊢
  have hP := hP1
  have hD := hD1
  have hS := hS1
  have hP : va_P (dC, dI) vwCl [(a0, .inr (3, [.null, .null, .null, .null, .null, .int 0, .int 0, .int 0, .int 0])), ((u_2 0 0), .inr (7, [.ref (u_2 0 1), .ref (u_2 0 2), .ref (u_2 0 3), .ref (u_2 0 4), .int 0])), ((u_2 0 1), .inl (cI, 40, .inl (fun _ => 0))), ((u_2 0 2), .inl (cI, 40, .inl (fun _ => 0))), ((u_2 0 3), .inl (cI, 40, .inl (fun _ => 0))), ((u_2 0 4), .inl (cI, 40, .inl (fun _ => 0)))] H := hP
  have hD : va_D A [(a0, .inr (3, [.null, .null, .null, .null, .null, .int 0, .int 0, .int 0, .int 0])), ((u_2 0 0), .inr (7, [.ref (u_2 0 1), .ref (u_2 0 2), .ref (u_2 0 3), .ref (u_2 0 4), .int 0])), ((u_2 0 1), .inl (cI, 40, .inl (fun _ => 0))), ((u_2 0 2), .inl (cI, 40, .inl (fun _ => 0))), ((u_2 0 3), .inl (cI, 40, .inl (fun _ => 0))), ((u_2 0 4), .inl (cI, 40, .inl (fun _ => 0)))] := hD
  refine va_putF (D := (dC, dI)) (ci := 3) (v := .ref (u_2 0 0)) (ty := .object "MixfixDesk$Tree") (C := RX3) (T := TX3) (N := 9) hx hb hts X3_init_inX3 tyX3 tyX3_ok nmX3 hown hK hP hD hS 0 rfl rfl 1 (by decide) (hts (.fieldLink RX3 12 "MixfixDesk$Reader" "tree" "LMixfixDesk$Tree;") (by decide +kernel)) (fun _ h9 => h9) rfl hin rfl (by decide +kernel) rfl rfl (Nat.le_of_ble_eq_true rfl) dX3_init_12 (fun H locs hP hD hS => ?_)
  have hP : va_P (dC, dI) vwCl [(a0, .inr (3, [.null, .ref (u_2 0 0), .null, .null, .null, .int 0, .int 0, .int 0, .int 0])), ((u_2 0 0), .inr (7, [.ref (u_2 0 1), .ref (u_2 0 2), .ref (u_2 0 3), .ref (u_2 0 4), .int 0])), ((u_2 0 1), .inl (cI, 40, .inl (fun _ => 0))), ((u_2 0 2), .inl (cI, 40, .inl (fun _ => 0))), ((u_2 0 3), .inl (cI, 40, .inl (fun _ => 0))), ((u_2 0 4), .inl (cI, 40, .inl (fun _ => 0)))] H := hP
  have hD : va_D A [(a0, .inr (3, [.null, .ref (u_2 0 0), .null, .null, .null, .int 0, .int 0, .int 0, .int 0])), ((u_2 0 0), .inr (7, [.ref (u_2 0 1), .ref (u_2 0 2), .ref (u_2 0 3), .ref (u_2 0 4), .int 0])), ((u_2 0 1), .inl (cI, 40, .inl (fun _ => 0))), ((u_2 0 2), .inl (cI, 40, .inl (fun _ => 0))), ((u_2 0 3), .inl (cI, 40, .inl (fun _ => 0))), ((u_2 0 4), .inl (cI, 40, .inl (fun _ => 0)))] := hD
  refine lv_aload_n hx hb dX3_init_15 rfl (lv_at hl 0 rfl) ?_
  refine lv_bipush (v := 40) hx hb dX3_init_16 (by decide) ?_
  refine cx_newa (atype := .long) (cA := cJ) (N' := 40) (a0 := (40, .inr (.inl (fun _ => 0)))) hx hb (hts (.arrayClass .long) (by decide +kernel)) (ty := .long) rfl hK 1 rfl (fun _ _ h1 h2 => Option.some.inj (h1.symm.trans h2)) hP hD hS hA (fun _ => rfl) (by decide) (by decide) (by decide +kernel) (Nat.le_of_ble_eq_true rfl) (Nat.le_of_ble_eq_true rfl) dX3_init_18 (fun q_4 H hP hD hS => ?_)
  have hP : va_P (dC, dI) vwCl [(a0, .inr (3, [.null, .ref (u_2 0 0), .null, .null, .null, .int 0, .int 0, .int 0, .int 0])), ((u_2 0 0), .inr (7, [.ref (u_2 0 1), .ref (u_2 0 2), .ref (u_2 0 3), .ref (u_2 0 4), .int 0])), ((u_2 0 1), .inl (cI, 40, .inl (fun _ => 0))), ((u_2 0 2), .inl (cI, 40, .inl (fun _ => 0))), ((u_2 0 3), .inl (cI, 40, .inl (fun _ => 0))), ((u_2 0 4), .inl (cI, 40, .inl (fun _ => 0))), (q_4, .inl (cJ, 40, .inr (.inl (fun _ => 0))))] H := hP
  have hD : va_D A [(a0, .inr (3, [.null, .ref (u_2 0 0), .null, .null, .null, .int 0, .int 0, .int 0, .int 0])), ((u_2 0 0), .inr (7, [.ref (u_2 0 1), .ref (u_2 0 2), .ref (u_2 0 3), .ref (u_2 0 4), .int 0])), ((u_2 0 1), .inl (cI, 40, .inl (fun _ => 0))), ((u_2 0 2), .inl (cI, 40, .inl (fun _ => 0))), ((u_2 0 3), .inl (cI, 40, .inl (fun _ => 0))), ((u_2 0 4), .inl (cI, 40, .inl (fun _ => 0))), (q_4, .inl (cJ, 40, .inr (.inl (fun _ => 0))))] := hD
  refine va_putF (D := (dC, dI)) (ci := 3) (v := .ref q_4) (ty := .array .long) (C := RX3) (T := TX3) (N := 9) hx hb hts X3_init_inX3 tyX3 tyX3_ok nmX3 hown hK hP hD hS 0 rfl rfl 2 (by decide) (hts (.fieldLink RX3 18 "MixfixDesk$Reader" "words" "[J") (by decide +kernel)) (fun _ h9 => h9) rfl hin rfl (by decide +kernel) rfl rfl (Nat.le_of_ble_eq_true rfl) dX3_init_20 (fun H locs hP hD hS => ?_)
  have hP : va_P (dC, dI) vwCl [(a0, .inr (3, [.null, .ref (u_2 0 0), .ref q_4, .null, .null, .int 0, .int 0, .int 0, .int 0])), ((u_2 0 0), .inr (7, [.ref (u_2 0 1), .ref (u_2 0 2), .ref (u_2 0 3), .ref (u_2 0 4), .int 0])), ((u_2 0 1), .inl (cI, 40, .inl (fun _ => 0))), ((u_2 0 2), .inl (cI, 40, .inl (fun _ => 0))), ((u_2 0 3), .inl (cI, 40, .inl (fun _ => 0))), ((u_2 0 4), .inl (cI, 40, .inl (fun _ => 0))), (q_4, .inl (cJ, 40, .inr (.inl (fun _ => 0))))] H := hP
  have hD : va_D A [(a0, .inr (3, [.null, .ref (u_2 0 0), .ref q_4, .null, .null, .int 0, .int 0, .int 0, .int 0])), ((u_2 0 0), .inr (7, [.ref (u_2 0 1), .ref (u_2 0 2), .ref (u_2 0 3), .ref (u_2 0 4), .int 0])), ((u_2 0 1), .inl (cI, 40, .inl (fun _ => 0))), ((u_2 0 2), .inl (cI, 40, .inl (fun _ => 0))), ((u_2 0 3), .inl (cI, 40, .inl (fun _ => 0))), ((u_2 0 4), .inl (cI, 40, .inl (fun _ => 0))), (q_4, .inl (cJ, 40, .inr (.inl (fun _ => 0))))] := hD
  refine lv_aload_n hx hb dX3_init_23 rfl (lv_at hl 0 rfl) ?_
  refine lv_sipush (v := 750) hx hb dX3_init_24 (by decide) ?_
  refine cx_newa (atype := .long) (cA := cJ) (N' := 750) (a0 := (750, .inr (.inl (fun _ => 0)))) hx hb (hts (.arrayClass .long) (by decide +kernel)) (ty := .long) rfl hK 1 rfl (fun _ _ h1 h2 => Option.some.inj (h1.symm.trans h2)) hP hD hS hA (fun _ => rfl) (by decide) (by decide) (by decide +kernel) (Nat.le_of_ble_eq_true rfl) (Nat.le_of_ble_eq_true rfl) dX3_init_27 (fun q_5 H hP hD hS => ?_)
  have hP : va_P (dC, dI) vwCl [(a0, .inr (3, [.null, .ref (u_2 0 0), .ref q_4, .null, .null, .int 0, .int 0, .int 0, .int 0])), ((u_2 0 0), .inr (7, [.ref (u_2 0 1), .ref (u_2 0 2), .ref (u_2 0 3), .ref (u_2 0 4), .int 0])), ((u_2 0 1), .inl (cI, 40, .inl (fun _ => 0))), ((u_2 0 2), .inl (cI, 40, .inl (fun _ => 0))), ((u_2 0 3), .inl (cI, 40, .inl (fun _ => 0))), ((u_2 0 4), .inl (cI, 40, .inl (fun _ => 0))), (q_4, .inl (cJ, 40, .inr (.inl (fun _ => 0)))), (q_5, .inl (cJ, 750, .inr (.inl (fun _ => 0))))] H := hP
  have hD : va_D A [(a0, .inr (3, [.null, .ref (u_2 0 0), .ref q_4, .null, .null, .int 0, .int 0, .int 0, .int 0])), ((u_2 0 0), .inr (7, [.ref (u_2 0 1), .ref (u_2 0 2), .ref (u_2 0 3), .ref (u_2 0 4), .int 0])), ((u_2 0 1), .inl (cI, 40, .inl (fun _ => 0))), ((u_2 0 2), .inl (cI, 40, .inl (fun _ => 0))), ((u_2 0 3), .inl (cI, 40, .inl (fun _ => 0))), ((u_2 0 4), .inl (cI, 40, .inl (fun _ => 0))), (q_4, .inl (cJ, 40, .inr (.inl (fun _ => 0)))), (q_5, .inl (cJ, 750, .inr (.inl (fun _ => 0))))] := hD
  refine va_putF (D := (dC, dI)) (ci := 3) (v := .ref q_5) (ty := .array .long) (C := RX3) (T := TX3) (N := 9) hx hb hts X3_init_inX3 tyX3 tyX3_ok nmX3 hown hK hP hD hS 0 rfl rfl 3 (by decide) (hts (.fieldLink RX3 22 "MixfixDesk$Reader" "sign" "[J") (by decide +kernel)) (fun _ h9 => h9) rfl hin rfl (by decide +kernel) rfl rfl (Nat.le_of_ble_eq_true rfl) dX3_init_29 (fun H locs hP hD hS => ?_)
  have hP : va_P (dC, dI) vwCl [(a0, .inr (3, [.null, .ref (u_2 0 0), .ref q_4, .ref q_5, .null, .int 0, .int 0, .int 0, .int 0])), ((u_2 0 0), .inr (7, [.ref (u_2 0 1), .ref (u_2 0 2), .ref (u_2 0 3), .ref (u_2 0 4), .int 0])), ((u_2 0 1), .inl (cI, 40, .inl (fun _ => 0))), ((u_2 0 2), .inl (cI, 40, .inl (fun _ => 0))), ((u_2 0 3), .inl (cI, 40, .inl (fun _ => 0))), ((u_2 0 4), .inl (cI, 40, .inl (fun _ => 0))), (q_4, .inl (cJ, 40, .inr (.inl (fun _ => 0)))), (q_5, .inl (cJ, 750, .inr (.inl (fun _ => 0))))] H := hP
  have hD : va_D A [(a0, .inr (3, [.null, .ref (u_2 0 0), .ref q_4, .ref q_5, .null, .int 0, .int 0, .int 0, .int 0])), ((u_2 0 0), .inr (7, [.ref (u_2 0 1), .ref (u_2 0 2), .ref (u_2 0 3), .ref (u_2 0 4), .int 0])), ((u_2 0 1), .inl (cI, 40, .inl (fun _ => 0))), ((u_2 0 2), .inl (cI, 40, .inl (fun _ => 0))), ((u_2 0 3), .inl (cI, 40, .inl (fun _ => 0))), ((u_2 0 4), .inl (cI, 40, .inl (fun _ => 0))), (q_4, .inl (cJ, 40, .inr (.inl (fun _ => 0)))), (q_5, .inl (cJ, 750, .inr (.inl (fun _ => 0))))] := hD
  refine lv_aload_n hx hb dX3_init_32 rfl (lv_at hl 0 rfl) ?_
  refine lv_sipush (v := 750) hx hb dX3_init_33 (by decide) ?_
  refine cx_newa (atype := .int) (cA := cI) (N' := 750) (a0 := (750, .inl (fun _ => 0))) hx hb (hts (.arrayClass .int) (by decide +kernel)) (ty := .int) rfl hK 0 rfl (fun _ _ h1 h2 => Option.some.inj (h1.symm.trans h2)) hP hD hS hA (fun _ => rfl) (by decide) (by decide) (by decide +kernel) (Nat.le_of_ble_eq_true rfl) (Nat.le_of_ble_eq_true rfl) dX3_init_36 (fun q_6 H hP hD hS => ?_)
  have hP : va_P (dC, dI) vwCl [(a0, .inr (3, [.null, .ref (u_2 0 0), .ref q_4, .ref q_5, .null, .int 0, .int 0, .int 0, .int 0])), ((u_2 0 0), .inr (7, [.ref (u_2 0 1), .ref (u_2 0 2), .ref (u_2 0 3), .ref (u_2 0 4), .int 0])), ((u_2 0 1), .inl (cI, 40, .inl (fun _ => 0))), ((u_2 0 2), .inl (cI, 40, .inl (fun _ => 0))), ((u_2 0 3), .inl (cI, 40, .inl (fun _ => 0))), ((u_2 0 4), .inl (cI, 40, .inl (fun _ => 0))), (q_4, .inl (cJ, 40, .inr (.inl (fun _ => 0)))), (q_5, .inl (cJ, 750, .inr (.inl (fun _ => 0)))), (q_6, .inl (cI, 750, .inl (fun _ => 0)))] H := hP
  have hD : va_D A [(a0, .inr (3, [.null, .ref (u_2 0 0), .ref q_4, .ref q_5, .null, .int 0, .int 0, .int 0, .int 0])), ((u_2 0 0), .inr (7, [.ref (u_2 0 1), .ref (u_2 0 2), .ref (u_2 0 3), .ref (u_2 0 4), .int 0])), ((u_2 0 1), .inl (cI, 40, .inl (fun _ => 0))), ((u_2 0 2), .inl (cI, 40, .inl (fun _ => 0))), ((u_2 0 3), .inl (cI, 40, .inl (fun _ => 0))), ((u_2 0 4), .inl (cI, 40, .inl (fun _ => 0))), (q_4, .inl (cJ, 40, .inr (.inl (fun _ => 0)))), (q_5, .inl (cJ, 750, .inr (.inl (fun _ => 0)))), (q_6, .inl (cI, 750, .inl (fun _ => 0)))] := hD
  refine va_putF (D := (dC, dI)) (ci := 3) (v := .ref q_6) (ty := .array .int) (C := RX3) (T := TX3) (N := 9) hx hb hts X3_init_inX3 tyX3 tyX3_ok nmX3 hown hK hP hD hS 0 rfl rfl 4 (by decide) (hts (.fieldLink RX3 25 "MixfixDesk$Reader" "mark" "[I") (by decide +kernel)) (fun _ h9 => h9) rfl hin rfl (by decide +kernel) rfl rfl (Nat.le_of_ble_eq_true rfl) dX3_init_38 (fun H locs hP hD hS => ?_)
  have hP : va_P (dC, dI) vwCl [(a0, .inr (3, [.null, .ref (u_2 0 0), .ref q_4, .ref q_5, .ref q_6, .int 0, .int 0, .int 0, .int 0])), ((u_2 0 0), .inr (7, [.ref (u_2 0 1), .ref (u_2 0 2), .ref (u_2 0 3), .ref (u_2 0 4), .int 0])), ((u_2 0 1), .inl (cI, 40, .inl (fun _ => 0))), ((u_2 0 2), .inl (cI, 40, .inl (fun _ => 0))), ((u_2 0 3), .inl (cI, 40, .inl (fun _ => 0))), ((u_2 0 4), .inl (cI, 40, .inl (fun _ => 0))), (q_4, .inl (cJ, 40, .inr (.inl (fun _ => 0)))), (q_5, .inl (cJ, 750, .inr (.inl (fun _ => 0)))), (q_6, .inl (cI, 750, .inl (fun _ => 0)))] H := hP
  have hD : va_D A [(a0, .inr (3, [.null, .ref (u_2 0 0), .ref q_4, .ref q_5, .ref q_6, .int 0, .int 0, .int 0, .int 0])), ((u_2 0 0), .inr (7, [.ref (u_2 0 1), .ref (u_2 0 2), .ref (u_2 0 3), .ref (u_2 0 4), .int 0])), ((u_2 0 1), .inl (cI, 40, .inl (fun _ => 0))), ((u_2 0 2), .inl (cI, 40, .inl (fun _ => 0))), ((u_2 0 3), .inl (cI, 40, .inl (fun _ => 0))), ((u_2 0 4), .inl (cI, 40, .inl (fun _ => 0))), (q_4, .inl (cJ, 40, .inr (.inl (fun _ => 0)))), (q_5, .inl (cJ, 750, .inr (.inl (fun _ => 0)))), (q_6, .inl (cI, 750, .inl (fun _ => 0)))] := hD
  refine lv_aload_n hx hb dX3_init_41 rfl (lv_at hl 0 rfl) ?_
  refine lv_iconst (v := 0) hx hb dX3_init_42 (by decide) ?_
  refine va_put (D := (dC, dI)) (ci := 3) (v := .int 0) (ty := .int) (C := RX3) (T := TX3) (N := 9) hx hb hts X3_init_inX3 tyX3 tyX3_ok nmX3 hown hK hP hD hS 0 rfl rfl 5 (by decide) (hts (.fieldLink RX3 29 "MixfixDesk$Reader" "size" "I") (by decide +kernel)) (fun _ h9 => h9) rfl (by decide +kernel) rfl rfl (Nat.le_of_ble_eq_true rfl) dX3_init_43 (fun H locs hP hD hS => ?_)
  have hP : va_P (dC, dI) vwCl [(a0, .inr (3, [.null, .ref (u_2 0 0), .ref q_4, .ref q_5, .ref q_6, .int 0, .int 0, .int 0, .int 0])), ((u_2 0 0), .inr (7, [.ref (u_2 0 1), .ref (u_2 0 2), .ref (u_2 0 3), .ref (u_2 0 4), .int 0])), ((u_2 0 1), .inl (cI, 40, .inl (fun _ => 0))), ((u_2 0 2), .inl (cI, 40, .inl (fun _ => 0))), ((u_2 0 3), .inl (cI, 40, .inl (fun _ => 0))), ((u_2 0 4), .inl (cI, 40, .inl (fun _ => 0))), (q_4, .inl (cJ, 40, .inr (.inl (fun _ => 0)))), (q_5, .inl (cJ, 750, .inr (.inl (fun _ => 0)))), (q_6, .inl (cI, 750, .inl (fun _ => 0)))] H := hP
  have hD : va_D A [(a0, .inr (3, [.null, .ref (u_2 0 0), .ref q_4, .ref q_5, .ref q_6, .int 0, .int 0, .int 0, .int 0])), ((u_2 0 0), .inr (7, [.ref (u_2 0 1), .ref (u_2 0 2), .ref (u_2 0 3), .ref (u_2 0 4), .int 0])), ((u_2 0 1), .inl (cI, 40, .inl (fun _ => 0))), ((u_2 0 2), .inl (cI, 40, .inl (fun _ => 0))), ((u_2 0 3), .inl (cI, 40, .inl (fun _ => 0))), ((u_2 0 4), .inl (cI, 40, .inl (fun _ => 0))), (q_4, .inl (cJ, 40, .inr (.inl (fun _ => 0)))), (q_5, .inl (cJ, 750, .inr (.inl (fun _ => 0)))), (q_6, .inl (cI, 750, .inl (fun _ => 0)))] := hD
  refine lv_aload_n hx hb dX3_init_46 rfl (lv_at hl 0 rfl) ?_
  refine lv_iconst (v := 0) hx hb dX3_init_47 (by decide) ?_
  refine va_put (D := (dC, dI)) (ci := 3) (v := .int 0) (ty := .int) (C := RX3) (T := TX3) (N := 9) hx hb hts X3_init_inX3 tyX3 tyX3_ok nmX3 hown hK hP hD hS 0 rfl rfl 6 (by decide) (hts (.fieldLink RX3 33 "MixfixDesk$Reader" "height" "I") (by decide +kernel)) (fun _ h9 => h9) rfl (by decide +kernel) rfl rfl (Nat.le_of_ble_eq_true rfl) dX3_init_48 (fun H locs hP hD hS => ?_)
  have hP : va_P (dC, dI) vwCl [(a0, .inr (3, [.null, .ref (u_2 0 0), .ref q_4, .ref q_5, .ref q_6, .int 0, .int 0, .int 0, .int 0])), ((u_2 0 0), .inr (7, [.ref (u_2 0 1), .ref (u_2 0 2), .ref (u_2 0 3), .ref (u_2 0 4), .int 0])), ((u_2 0 1), .inl (cI, 40, .inl (fun _ => 0))), ((u_2 0 2), .inl (cI, 40, .inl (fun _ => 0))), ((u_2 0 3), .inl (cI, 40, .inl (fun _ => 0))), ((u_2 0 4), .inl (cI, 40, .inl (fun _ => 0))), (q_4, .inl (cJ, 40, .inr (.inl (fun _ => 0)))), (q_5, .inl (cJ, 750, .inr (.inl (fun _ => 0)))), (q_6, .inl (cI, 750, .inl (fun _ => 0)))] H := hP
  have hD : va_D A [(a0, .inr (3, [.null, .ref (u_2 0 0), .ref q_4, .ref q_5, .ref q_6, .int 0, .int 0, .int 0, .int 0])), ((u_2 0 0), .inr (7, [.ref (u_2 0 1), .ref (u_2 0 2), .ref (u_2 0 3), .ref (u_2 0 4), .int 0])), ((u_2 0 1), .inl (cI, 40, .inl (fun _ => 0))), ((u_2 0 2), .inl (cI, 40, .inl (fun _ => 0))), ((u_2 0 3), .inl (cI, 40, .inl (fun _ => 0))), ((u_2 0 4), .inl (cI, 40, .inl (fun _ => 0))), (q_4, .inl (cJ, 40, .inr (.inl (fun _ => 0)))), (q_5, .inl (cJ, 750, .inr (.inl (fun _ => 0)))), (q_6, .inl (cI, 750, .inl (fun _ => 0)))] := hD
  refine lv_aload_n hx hb dX3_init_51 rfl (lv_at hl 0 rfl) ?_
  refine lv_iconst (v := 0) hx hb dX3_init_52 (by decide) ?_
  refine va_put (D := (dC, dI)) (ci := 3) (v := .int 0) (ty := .int) (C := RX3) (T := TX3) (N := 9) hx hb hts X3_init_inX3 tyX3 tyX3_ok nmX3 hown hK hP hD hS 0 rfl rfl 7 (by decide) (hts (.fieldLink RX3 36 "MixfixDesk$Reader" "depth" "I") (by decide +kernel)) (fun _ h9 => h9) rfl (by decide +kernel) rfl rfl (Nat.le_of_ble_eq_true rfl) dX3_init_53 (fun H locs hP hD hS => ?_)
  have hP : va_P (dC, dI) vwCl [(a0, .inr (3, [.null, .ref (u_2 0 0), .ref q_4, .ref q_5, .ref q_6, .int 0, .int 0, .int 0, .int 0])), ((u_2 0 0), .inr (7, [.ref (u_2 0 1), .ref (u_2 0 2), .ref (u_2 0 3), .ref (u_2 0 4), .int 0])), ((u_2 0 1), .inl (cI, 40, .inl (fun _ => 0))), ((u_2 0 2), .inl (cI, 40, .inl (fun _ => 0))), ((u_2 0 3), .inl (cI, 40, .inl (fun _ => 0))), ((u_2 0 4), .inl (cI, 40, .inl (fun _ => 0))), (q_4, .inl (cJ, 40, .inr (.inl (fun _ => 0)))), (q_5, .inl (cJ, 750, .inr (.inl (fun _ => 0)))), (q_6, .inl (cI, 750, .inl (fun _ => 0)))] H := hP
  have hD : va_D A [(a0, .inr (3, [.null, .ref (u_2 0 0), .ref q_4, .ref q_5, .ref q_6, .int 0, .int 0, .int 0, .int 0])), ((u_2 0 0), .inr (7, [.ref (u_2 0 1), .ref (u_2 0 2), .ref (u_2 0 3), .ref (u_2 0 4), .int 0])), ((u_2 0 1), .inl (cI, 40, .inl (fun _ => 0))), ((u_2 0 2), .inl (cI, 40, .inl (fun _ => 0))), ((u_2 0 3), .inl (cI, 40, .inl (fun _ => 0))), ((u_2 0 4), .inl (cI, 40, .inl (fun _ => 0))), (q_4, .inl (cJ, 40, .inr (.inl (fun _ => 0)))), (q_5, .inl (cJ, 750, .inr (.inl (fun _ => 0)))), (q_6, .inl (cI, 750, .inl (fun _ => 0)))] := hD
  refine lv_aload_n hx hb dX3_init_56 rfl (lv_at hl 0 rfl) ?_
  refine lv_iconst (v := 0) hx hb dX3_init_57 (by decide) ?_
  refine va_put (D := (dC, dI)) (ci := 3) (v := .int 0) (ty := .boolean) (C := RX3) (T := TX3) (N := 9) hx hb hts X3_init_inX3 tyX3 tyX3_ok nmX3 hown hK hP hD hS 0 rfl rfl 8 (by decide) (hts (.fieldLink RX3 39 "MixfixDesk$Reader" "misfit" "Z") (by decide +kernel)) (fun _ h9 => h9) rfl (by decide +kernel) rfl rfl (Nat.le_of_ble_eq_true rfl) dX3_init_58 (fun H locs hP hD hS => ?_)
  have hP : va_P (dC, dI) vwCl [(a0, .inr (3, [.null, .ref (u_2 0 0), .ref q_4, .ref q_5, .ref q_6, .int 0, .int 0, .int 0, .int 0])), ((u_2 0 0), .inr (7, [.ref (u_2 0 1), .ref (u_2 0 2), .ref (u_2 0 3), .ref (u_2 0 4), .int 0])), ((u_2 0 1), .inl (cI, 40, .inl (fun _ => 0))), ((u_2 0 2), .inl (cI, 40, .inl (fun _ => 0))), ((u_2 0 3), .inl (cI, 40, .inl (fun _ => 0))), ((u_2 0 4), .inl (cI, 40, .inl (fun _ => 0))), (q_4, .inl (cJ, 40, .inr (.inl (fun _ => 0)))), (q_5, .inl (cJ, 750, .inr (.inl (fun _ => 0)))), (q_6, .inl (cI, 750, .inl (fun _ => 0)))] H := hP
  have hD : va_D A [(a0, .inr (3, [.null, .ref (u_2 0 0), .ref q_4, .ref q_5, .ref q_6, .int 0, .int 0, .int 0, .int 0])), ((u_2 0 0), .inr (7, [.ref (u_2 0 1), .ref (u_2 0 2), .ref (u_2 0 3), .ref (u_2 0 4), .int 0])), ((u_2 0 1), .inl (cI, 40, .inl (fun _ => 0))), ((u_2 0 2), .inl (cI, 40, .inl (fun _ => 0))), ((u_2 0 3), .inl (cI, 40, .inl (fun _ => 0))), ((u_2 0 4), .inl (cI, 40, .inl (fun _ => 0))), (q_4, .inl (cJ, 40, .inr (.inl (fun _ => 0)))), (q_5, .inl (cJ, 750, .inr (.inl (fun _ => 0)))), (q_6, .inl (cI, 750, .inl (fun _ => 0)))] := hD
  refine lv_aload_n hx hb dX3_init_61 rfl (lv_at hl 0 rfl) ?_
  refine lv_aload_n hx hb dX3_init_62 rfl (lv_at hl 1 rfl) ?_
  refine va_putF (D := (dC, dI)) (ci := 3) (v := .ref x0) (ty := .object "MixfixDesk$Rules") (C := RX3) (T := TX3) (N := 9) hx hb hts X3_init_inX3 tyX3 tyX3_ok nmX3 hown hK hP hD hS 0 rfl rfl 0 (by decide) (hts (.fieldLink RX3 43 "MixfixDesk$Reader" "rules" "LMixfixDesk$Rules;") (by decide +kernel)) (fun _ h9 => h9) rfl hin rfl (by decide +kernel) rfl rfl (Nat.le_of_ble_eq_true rfl) dX3_init_63 (fun H locs hP hD hS => ?_)
  have hP : va_P (dC, dI) vwCl [(a0, .inr (3, [.ref x0, .ref (u_2 0 0), .ref q_4, .ref q_5, .ref q_6, .int 0, .int 0, .int 0, .int 0])), ((u_2 0 0), .inr (7, [.ref (u_2 0 1), .ref (u_2 0 2), .ref (u_2 0 3), .ref (u_2 0 4), .int 0])), ((u_2 0 1), .inl (cI, 40, .inl (fun _ => 0))), ((u_2 0 2), .inl (cI, 40, .inl (fun _ => 0))), ((u_2 0 3), .inl (cI, 40, .inl (fun _ => 0))), ((u_2 0 4), .inl (cI, 40, .inl (fun _ => 0))), (q_4, .inl (cJ, 40, .inr (.inl (fun _ => 0)))), (q_5, .inl (cJ, 750, .inr (.inl (fun _ => 0)))), (q_6, .inl (cI, 750, .inl (fun _ => 0)))] H := hP
  have hD : va_D A [(a0, .inr (3, [.ref x0, .ref (u_2 0 0), .ref q_4, .ref q_5, .ref q_6, .int 0, .int 0, .int 0, .int 0])), ((u_2 0 0), .inr (7, [.ref (u_2 0 1), .ref (u_2 0 2), .ref (u_2 0 3), .ref (u_2 0 4), .int 0])), ((u_2 0 1), .inl (cI, 40, .inl (fun _ => 0))), ((u_2 0 2), .inl (cI, 40, .inl (fun _ => 0))), ((u_2 0 3), .inl (cI, 40, .inl (fun _ => 0))), ((u_2 0 4), .inl (cI, 40, .inl (fun _ => 0))), (q_4, .inl (cJ, 40, .inr (.inl (fun _ => 0)))), (q_5, .inl (cJ, 750, .inr (.inl (fun _ => 0)))), (q_6, .inl (cI, 750, .inl (fun _ => 0)))] := hD
  refine W.widen (k := 8) (n := 1705) (Nat.le_of_ble_eq_true rfl) (Nat.le_of_ble_eq_true rfl) ?_
  exact cx_retvu C0 (fun k => match k with | 0 => (fun j => match j with | 0 => a0 | 3 => q_4 | 4 => q_5 | 5 => q_6 | _ => 0) | _ => (fun j => match j with | 0 => (u_2 0 0) | 1 => (u_2 0 1) | 2 => (u_2 0 2) | 3 => (u_2 0 3) | 4 => (u_2 0 4) | _ => 0)) rfl hsz hAe dX3_init_66 (P_sub' hP [0, 6, 7, 8, 1, 2, 3, 4, 5] rfl) (hD.sub [0, 6, 7, 8, 1, 2, 3, 4, 5] (by decide) rfl) hS

theorem dX2_init_0 : decode cX2_init 0 = .ok (.aload_n 0, 1) := by decide +kernel
theorem dX2_init_1 : decode cX2_init 1 = .ok (.invokespecial 3, 3) := by decide +kernel
theorem dX2_init_4 : decode cX2_init 4 = .ok (.aload_n 0, 1) := by decide +kernel
theorem dX2_init_5 : decode cX2_init 5 = .ok (.bipush 40, 2) := by decide +kernel
theorem dX2_init_7 : decode cX2_init 7 = .ok (.newarray .int, 2) := by decide +kernel
theorem dX2_init_9 : decode cX2_init 9 = .ok (.putfield 9, 3) := by decide +kernel
theorem dX2_init_12 : decode cX2_init 12 = .ok (.aload_n 0, 1) := by decide +kernel
theorem dX2_init_13 : decode cX2_init 13 = .ok (.bipush 40, 2) := by decide +kernel
theorem dX2_init_15 : decode cX2_init 15 = .ok (.newarray .int, 2) := by decide +kernel
theorem dX2_init_17 : decode cX2_init 17 = .ok (.putfield 15, 3) := by decide +kernel
theorem dX2_init_20 : decode cX2_init 20 = .ok (.aload_n 0, 1) := by decide +kernel
theorem dX2_init_21 : decode cX2_init 21 = .ok (.aload_n 1, 1) := by decide +kernel
theorem dX2_init_22 : decode cX2_init 22 = .ok (.putfield 18, 3) := by decide +kernel
theorem dX2_init_25 : decode cX2_init 25 = .ok (.aload_n 0, 1) := by decide +kernel
theorem dX2_init_26 : decode cX2_init 26 = .ok (.aload_n 2, 1) := by decide +kernel
theorem dX2_init_27 : decode cX2_init 27 = .ok (.putfield 22, 3) := by decide +kernel
theorem dX2_init_30 : decode cX2_init 30 = .ok (.return_, 1) := by decide +kernel
/-! the constructor of MixfixDesk$Ranker -/
abbrev rm_X2_init : Room := { frames := 1, cells := 2, slots := 80, locals := 12 }
theorem X2_init_inX2 : ∀ w ∈ wsX20, w ∈ wsX2_init := by decide +kernel
set_option maxHeartbeats 4000000 in
set_option maxRecDepth 100000 in
theorem c_X2_init (l : Launch) (dC : Nat → ClassId) (dI : Nat → Nat → Nat) (cI cJ cB cZ : ClassId) (a0 sz : Nat) (x0 : Nat) (x1 : Nat) : Met l yX2_init wsX2_init rm_X2_init (cP (dC, dI) vwCl [(cI, .int), (cJ, .long), (cB, .byte), (cZ, .boolean)] [.ref a0, .ref x0, .ref x1] [(a0, .inr (2, [.null, .null, .null, .null]))] sz) (cQvu a0 (dC, dI) vwCl (fun u : Nat → Nat → Nat => [((u 0 0), .inr (2, [.ref x0, .ref x1, .ref (u 0 3), .ref (u 0 4)])), ((u 0 3), .inl (cI, 40, .inl (fun _ => 0))), ((u 0 4), .inl (cI, 40, .inl (fun _ => 0)))]) [(a0, .inr (2, [.null, .null, .null, .null]))] sz) 2 80 (va_A [(a0, .inr (2, [.null, .null, .null, .null]))] sz) := by
  refine cx_of (cc := cX2_init) (maxL := 3) (ret := none) (own := RX2) (by decide) rfl rfl (Nat.le_of_ble_eq_true rfl) ?_
  intro p e s m below meth c A C0 hinN hK hN hsz hAe hA hP hD hS ls hl
  obtain ⟨⟨hx, hb, hml, hown, hts⟩, hr, hlocks⟩ := id C0
  have hin : meth.name = "<init>" := hinN.2
  have hl : lv_has ls 3 [(0, .ref a0), (1, .ref x0), (2, .ref x1)] := hl
  have hP : va_P (dC, dI) vwCl [(a0, .inr (2, [.null, .null, .null, .null]))] s.heap := hP
  refine lv_aload_n hx hb dX2_init_0 rfl (lv_at hl 0 rfl) ?_
  refine W.objInit hx hb hown (hts (.methodLink RX2 3 objectInit) (by decide +kernel)) (hts (.instanceMethod objectInit) (by decide +kernel)) (hts (.code objectInit ⟨#[0xb1]⟩ 1 none) (by decide +kernel)) rfl (by rw [hml]; exact hl.1) rfl dX2_init_1 (Nat.le_of_ble_eq_true rfl) (Nat.le_of_ble_eq_true rfl) ?_
  refine W.eq (g2 := F0 m 4 ls []) rfl ?_
  refine lv_aload_n hx hb dX2_init_4 rfl (lv_at hl 0 rfl) ?_
  refine lv_bipush (v := 40) hx hb dX2_init_5 (by decide) ?_
  refine cx_newa (atype := .int) (cA := cI) (N' := 40) (a0 := (40, .inl (fun _ => 0))) hx hb (hts (.arrayClass .int) (by decide +kernel)) (ty := .int) rfl hK 0 rfl (fun _ _ h1 h2 => Option.some.inj (h1.symm.trans h2)) hP hD hS hA (fun _ => rfl) (by decide) (by decide) (by decide +kernel) (Nat.le_of_ble_eq_true rfl) (Nat.le_of_ble_eq_true rfl) dX2_init_7 (fun q_1 H hP hD hS => ?_)
  have hP : va_P (dC, dI) vwCl [(a0, .inr (2, [.null, .null, .null, .null])), (q_1, .inl (cI, 40, .inl (fun _ => 0)))] H := hP
  have hD : va_D A [(a0, .inr (2, [.null, .null, .null, .null])), (q_1, .inl (cI, 40, .inl (fun _ => 0)))] := hD
  refine va_putF (D := (dC, dI)) (ci := 2) (v := .ref q_1) (ty := .array .int) (C := RX2) (T := TX2) (N := 4) hx hb hts X2_init_inX2 tyX2 tyX2_ok nmX2 hown hK hP hD hS 0 rfl rfl 2 (by decide) (hts (.fieldLink RX2 9 "MixfixDesk$Ranker" "weight" "[I") (by decide +kernel)) (fun _ h9 => h9) rfl hin rfl (by decide +kernel) rfl rfl (Nat.le_of_ble_eq_true rfl) dX2_init_9 (fun H locs hP hD hS => ?_)
  have hP : va_P (dC, dI) vwCl [(a0, .inr (2, [.null, .null, .ref q_1, .null])), (q_1, .inl (cI, 40, .inl (fun _ => 0)))] H := hP
  have hD : va_D A [(a0, .inr (2, [.null, .null, .ref q_1, .null])), (q_1, .inl (cI, 40, .inl (fun _ => 0)))] := hD
  refine lv_aload_n hx hb dX2_init_12 rfl (lv_at hl 0 rfl) ?_
  refine lv_bipush (v := 40) hx hb dX2_init_13 (by decide) ?_
  refine cx_newa (atype := .int) (cA := cI) (N' := 40) (a0 := (40, .inl (fun _ => 0))) hx hb (hts (.arrayClass .int) (by decide +kernel)) (ty := .int) rfl hK 0 rfl (fun _ _ h1 h2 => Option.some.inj (h1.symm.trans h2)) hP hD hS hA (fun _ => rfl) (by decide) (by decide) (by decide +kernel) (Nat.le_of_ble_eq_true rfl) (Nat.le_of_ble_eq_true rfl) dX2_init_15 (fun q_2 H hP hD hS => ?_)
  have hP : va_P (dC, dI) vwCl [(a0, .inr (2, [.null, .null, .ref q_1, .null])), (q_1, .inl (cI, 40, .inl (fun _ => 0))), (q_2, .inl (cI, 40, .inl (fun _ => 0)))] H := hP
  have hD : va_D A [(a0, .inr (2, [.null, .null, .ref q_1, .null])), (q_1, .inl (cI, 40, .inl (fun _ => 0))), (q_2, .inl (cI, 40, .inl (fun _ => 0)))] := hD
  refine va_putF (D := (dC, dI)) (ci := 2) (v := .ref q_2) (ty := .array .int) (C := RX2) (T := TX2) (N := 4) hx hb hts X2_init_inX2 tyX2 tyX2_ok nmX2 hown hK hP hD hS 0 rfl rfl 3 (by decide) (hts (.fieldLink RX2 15 "MixfixDesk$Ranker" "mask" "[I") (by decide +kernel)) (fun _ h9 => h9) rfl hin rfl (by decide +kernel) rfl rfl (Nat.le_of_ble_eq_true rfl) dX2_init_17 (fun H locs hP hD hS => ?_)
  have hP : va_P (dC, dI) vwCl [(a0, .inr (2, [.null, .null, .ref q_1, .ref q_2])), (q_1, .inl (cI, 40, .inl (fun _ => 0))), (q_2, .inl (cI, 40, .inl (fun _ => 0)))] H := hP
  have hD : va_D A [(a0, .inr (2, [.null, .null, .ref q_1, .ref q_2])), (q_1, .inl (cI, 40, .inl (fun _ => 0))), (q_2, .inl (cI, 40, .inl (fun _ => 0)))] := hD
  refine lv_aload_n hx hb dX2_init_20 rfl (lv_at hl 0 rfl) ?_
  refine lv_aload_n hx hb dX2_init_21 rfl (lv_at hl 1 rfl) ?_
  refine va_putF (D := (dC, dI)) (ci := 2) (v := .ref x0) (ty := .object "MixfixDesk$Rules") (C := RX2) (T := TX2) (N := 4) hx hb hts X2_init_inX2 tyX2 tyX2_ok nmX2 hown hK hP hD hS 0 rfl rfl 0 (by decide) (hts (.fieldLink RX2 18 "MixfixDesk$Ranker" "rules" "LMixfixDesk$Rules;") (by decide +kernel)) (fun _ h9 => h9) rfl hin rfl (by decide +kernel) rfl rfl (Nat.le_of_ble_eq_true rfl) dX2_init_22 (fun H locs hP hD hS => ?_)
  have hP : va_P (dC, dI) vwCl [(a0, .inr (2, [.ref x0, .null, .ref q_1, .ref q_2])), (q_1, .inl (cI, 40, .inl (fun _ => 0))), (q_2, .inl (cI, 40, .inl (fun _ => 0)))] H := hP
  have hD : va_D A [(a0, .inr (2, [.ref x0, .null, .ref q_1, .ref q_2])), (q_1, .inl (cI, 40, .inl (fun _ => 0))), (q_2, .inl (cI, 40, .inl (fun _ => 0)))] := hD
  refine lv_aload_n hx hb dX2_init_25 rfl (lv_at hl 0 rfl) ?_
  refine lv_aload_n hx hb dX2_init_26 rfl (lv_at hl 2 rfl) ?_
  refine va_putF (D := (dC, dI)) (ci := 2) (v := .ref x1) (ty := .object "MixfixDesk$Chart") (C := RX2) (T := TX2) (N := 4) hx hb hts X2_init_inX2 tyX2 tyX2_ok nmX2 hown hK hP hD hS 0 rfl rfl 1 (by decide) (hts (.fieldLink RX2 22 "MixfixDesk$Ranker" "chart" "LMixfixDesk$Chart;") (by decide +kernel)) (fun _ h9 => h9) rfl hin rfl (by decide +kernel) rfl rfl (Nat.le_of_ble_eq_true rfl) dX2_init_27 (fun H locs hP hD hS => ?_)
  have hP : va_P (dC, dI) vwCl [(a0, .inr (2, [.ref x0, .ref x1, .ref q_1, .ref q_2])), (q_1, .inl (cI, 40, .inl (fun _ => 0))), (q_2, .inl (cI, 40, .inl (fun _ => 0)))] H := hP
  have hD : va_D A [(a0, .inr (2, [.ref x0, .ref x1, .ref q_1, .ref q_2])), (q_1, .inl (cI, 40, .inl (fun _ => 0))), (q_2, .inl (cI, 40, .inl (fun _ => 0)))] := hD
  refine W.widen (k := 2) (n := 80) (Nat.le_of_ble_eq_true rfl) (Nat.le_of_ble_eq_true rfl) ?_
  exact cx_retvu C0 (fun k => match k with | _ => (fun j => match j with | 0 => a0 | 3 => q_1 | 4 => q_2 | _ => 0)) rfl hsz hAe dX2_init_30 hP hD hS

theorem dX1_init_0 : decode cX1_init 0 = .ok (.aload_n 0, 1) := by decide +kernel
theorem dX1_init_1 : decode cX1_init 1 = .ok (.invokespecial 3, 3) := by decide +kernel
theorem dX1_init_4 : decode cX1_init 4 = .ok (.aload_n 0, 1) := by decide +kernel
theorem dX1_init_5 : decode cX1_init 5 = .ok (.sipush 600, 3) := by decide +kernel
theorem dX1_init_8 : decode cX1_init 8 = .ok (.newarray .byte, 2) := by decide +kernel
theorem dX1_init_10 : decode cX1_init 10 = .ok (.putfield 9, 3) := by decide +kernel
theorem dX1_init_13 : decode cX1_init 13 = .ok (.aload_n 0, 1) := by decide +kernel
theorem dX1_init_14 : decode cX1_init 14 = .ok (.iconst 0, 1) := by decide +kernel
theorem dX1_init_15 : decode cX1_init 15 = .ok (.putfield 15, 3) := by decide +kernel
theorem dX1_init_18 : decode cX1_init 18 = .ok (.return_, 1) := by decide +kernel
/-! the constructor of MixfixDesk$Page -/
abbrev rm_X1_init : Room := { frames := 1, cells := 1, slots := 600, locals := 12 }
theorem X1_init_inX1 : ∀ w ∈ wsX10, w ∈ wsX1_init := by decide +kernel
set_option maxHeartbeats 4000000 in
set_option maxRecDepth 100000 in
theorem c_X1_init (l : Launch) (dC : Nat → ClassId) (dI : Nat → Nat → Nat) (cI cJ cB cZ : ClassId) (a0 sz : Nat)  : Met l yX1_init wsX1_init rm_X1_init (cP (dC, dI) vwCl [(cI, .int), (cJ, .long), (cB, .byte), (cZ, .boolean)] [.ref a0] [(a0, .inr (1, [.null, .int 0]))] sz) (cQvu a0 (dC, dI) vwCl (fun u : Nat → Nat → Nat => [((u 0 0), .inr (1, [.ref (u 0 1), .int 0])), ((u 0 1), .inl (cB, 600, .inl (fun _ => 0)))]) [(a0, .inr (1, [.null, .int 0]))] sz) 1 600 (va_A [(a0, .inr (1, [.null, .int 0]))] sz) := by
  refine cx_of (cc := cX1_init) (maxL := 1) (ret := none) (own := RX1) (by decide) rfl rfl (Nat.le_of_ble_eq_true rfl) ?_
  intro p e s m below meth c A C0 hinN hK hN hsz hAe hA hP hD hS ls hl
  obtain ⟨⟨hx, hb, hml, hown, hts⟩, hr, hlocks⟩ := id C0
  have hin : meth.name = "<init>" := hinN.2
  have hl : lv_has ls 1 [(0, .ref a0)] := hl
  have hP : va_P (dC, dI) vwCl [(a0, .inr (1, [.null, .int 0]))] s.heap := hP
  refine lv_aload_n hx hb dX1_init_0 rfl (lv_at hl 0 rfl) ?_
  refine W.objInit hx hb hown (hts (.methodLink RX1 3 objectInit) (by decide +kernel)) (hts (.instanceMethod objectInit) (by decide +kernel)) (hts (.code objectInit ⟨#[0xb1]⟩ 1 none) (by decide +kernel)) rfl (by rw [hml]; exact hl.1) rfl dX1_init_1 (Nat.le_of_ble_eq_true rfl) (Nat.le_of_ble_eq_true rfl) ?_
  refine W.eq (g2 := F0 m 4 ls []) rfl ?_
  refine lv_aload_n hx hb dX1_init_4 rfl (lv_at hl 0 rfl) ?_
  refine lv_sipush (v := 600) hx hb dX1_init_5 (by decide) ?_
  refine cx_newa (atype := .byte) (cA := cB) (N' := 600) (a0 := (600, .inl (fun _ => 0))) hx hb (hts (.arrayClass .byte) (by decide +kernel)) (ty := .byte) rfl hK 2 rfl (fun _ _ h1 h2 => Option.some.inj (h1.symm.trans h2)) hP hD hS hA (fun _ => rfl) (by decide) (by decide) (by decide +kernel) (Nat.le_of_ble_eq_true rfl) (Nat.le_of_ble_eq_true rfl) dX1_init_8 (fun q_1 H hP hD hS => ?_)
  have hP : va_P (dC, dI) vwCl [(a0, .inr (1, [.null, .int 0])), (q_1, .inl (cB, 600, .inl (fun _ => 0)))] H := hP
  have hD : va_D A [(a0, .inr (1, [.null, .int 0])), (q_1, .inl (cB, 600, .inl (fun _ => 0)))] := hD
  refine va_putF (D := (dC, dI)) (ci := 1) (v := .ref q_1) (ty := .array .byte) (C := RX1) (T := TX1) (N := 2) hx hb hts X1_init_inX1 tyX1 tyX1_ok nmX1 hown hK hP hD hS 0 rfl rfl 0 (by decide) (hts (.fieldLink RX1 9 "MixfixDesk$Page" "bytes" "[B") (by decide +kernel)) (fun _ h9 => h9) rfl hin rfl (by decide +kernel) rfl rfl (Nat.le_of_ble_eq_true rfl) dX1_init_10 (fun H locs hP hD hS => ?_)
  have hP : va_P (dC, dI) vwCl [(a0, .inr (1, [.ref q_1, .int 0])), (q_1, .inl (cB, 600, .inl (fun _ => 0)))] H := hP
  have hD : va_D A [(a0, .inr (1, [.ref q_1, .int 0])), (q_1, .inl (cB, 600, .inl (fun _ => 0)))] := hD
  refine lv_aload_n hx hb dX1_init_13 rfl (lv_at hl 0 rfl) ?_
  refine lv_iconst (v := 0) hx hb dX1_init_14 (by decide) ?_
  refine va_put (D := (dC, dI)) (ci := 1) (v := .int 0) (ty := .int) (C := RX1) (T := TX1) (N := 2) hx hb hts X1_init_inX1 tyX1 tyX1_ok nmX1 hown hK hP hD hS 0 rfl rfl 1 (by decide) (hts (.fieldLink RX1 15 "MixfixDesk$Page" "length" "I") (by decide +kernel)) (fun _ h9 => h9) rfl (by decide +kernel) rfl rfl (Nat.le_of_ble_eq_true rfl) dX1_init_15 (fun H locs hP hD hS => ?_)
  have hP : va_P (dC, dI) vwCl [(a0, .inr (1, [.ref q_1, .int 0])), (q_1, .inl (cB, 600, .inl (fun _ => 0)))] H := hP
  have hD : va_D A [(a0, .inr (1, [.ref q_1, .int 0])), (q_1, .inl (cB, 600, .inl (fun _ => 0)))] := hD
  refine W.widen (k := 1) (n := 600) (Nat.le_of_ble_eq_true rfl) (Nat.le_of_ble_eq_true rfl) ?_
  exact cx_retvu C0 (fun k => match k with | _ => (fun j => match j with | 0 => a0 | 1 => q_1 | _ => 0)) rfl hsz hAe dX1_init_18 hP hD hS

