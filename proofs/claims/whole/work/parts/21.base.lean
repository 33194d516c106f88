/-- the private members that a nest mate calls -/
def nestL : List (String × Nat × MethodName × String) := [("MixfixDesk", 9, ⟨"MixfixDesk$Text", "<init>", "()V"⟩, "MixfixDesk"), ("MixfixDesk", 18, ⟨"MixfixDesk$Rules", "<init>", "()V"⟩, "MixfixDesk"), ("MixfixDesk", 37, ⟨"MixfixDesk$Tree", "<init>", "()V"⟩, "MixfixDesk"), ("MixfixDesk$Reader", 11, ⟨"MixfixDesk$Tree", "<init>", "()V"⟩, "MixfixDesk"), ("MixfixDesk", 69, ⟨"MixfixDesk$Page", "<init>", "()V"⟩, "MixfixDesk"), ("MixfixDesk$Rules", 56, ⟨"MixfixDesk", "hasBit", "(II)Z"⟩, "MixfixDesk"), ("MixfixDesk$Chart", 120, ⟨"MixfixDesk", "times", "(II)I"⟩, "MixfixDesk"), ("MixfixDesk$Chart", 92, ⟨"MixfixDesk", "plus", "(II)I"⟩, "MixfixDesk"), ("MixfixDesk$Chart", 109, ⟨"MixfixDesk", "hasBit", "(II)Z"⟩, "MixfixDesk"), ("MixfixDesk$Taker", 79, ⟨"MixfixDesk", "hasBit", "(II)Z"⟩, "MixfixDesk"), ("MixfixDesk$Reader", 103, ⟨"MixfixDesk", "hasBit", "(II)Z"⟩, "MixfixDesk"), ("MixfixDesk$Ranker", 87, ⟨"MixfixDesk", "hasBit", "(II)Z"⟩, "MixfixDesk"), ("MixfixDesk$Ranker", 44, ⟨"MixfixDesk", "plus", "(II)I"⟩, "MixfixDesk"), ("MixfixDesk$Ranker", 40, ⟨"MixfixDesk", "times", "(II)I"⟩, "MixfixDesk")]
def NW (U : State) : Prop := ∀ q ∈ nestL, va_Nw (.methodLinkNest q.1 q.2.1 q.2.2.1 q.2.2.2) U
theorem NW.warm {s U : State} (h : NW s) (hW : s.WarmedH U.vm) : NW U := fun q hq => va_Nw.warmM hW (h q hq)
theorem NW.same {s U : State} (h : NW s) (hv : s.vm = U.vm) : NW U := fun q hq => va_Nw.same rfl hv (h q hq)
theorem sw_ne {x : Int32} {k : Int} (v : Int32) (hv : v.toInt = k) (h : ¬ x = v) : x.toInt ≠ k := fun q => h (Int32.toInt_inj.mp (q.trans hv.symm))
section BASE
variable {p : Program} {l : Launch} {e : Env} {R : Room} {s : State} {m : MethodId} {args : Array Value} {below : List Frame} {meth : Method} {c : Code} {H : Heap} {locs : List Loc} {cells slots : Nat} {Q : State → Prop}
variable {D : va_G} {cl : List vw_C} {tys : List (ClassId × FieldType)} {A : Nat → Prop} {ws wc wr w1 : va_W} {mc ms pc : Nat} {ls : Array Slot} {rest st0 : List Value} {a : Array Value}
/-- what a walk knows of its method -/
abbrev Cx (p : Program) (s : State) (m : MethodId) (meth : Method) (c : Code) (args : Array Value) (cc : ByteArray) (nL : Nat) (ret : Option FieldType) (Ts : List Cond) (own : String) : Prop :=
  CallFix p m c cc nL s args Ts own ∧ meth.sig.returnType = ret ∧ meth.locks = false
/-- a contract's start -/
abbrev cP (D : va_G) (cl : List vw_C) (tys : List (ClassId × FieldType)) (av : List Value) (wc : va_W) (sz : Nat) : Array Value → State → Prop :=
  va_Pc av (fun U => U.heap.size = sz ∧ va_P D cl wc U.heap ∧ va_K D cl tys U ∧ va_D (fun _ => True) wc ∧ NW U)
/-- a contract's ends -/
abbrev cQi (rv : Int32) (D : va_G) (cl : List vw_C) (w1 wc : va_W) (sz : Nat) : Array Value → State → Outcome → State → Prop :=
  va_Qi (S := Unit) (fun r _ => r = rv) (fun _ t => va_P D cl w1 t.heap ∧ va_D (va_A wc sz) w1) (va_A wc sz)
abbrev cQl (rv : Int64) (D : va_G) (cl : List vw_C) (w1 wc : va_W) (sz : Nat) : Array Value → State → Outcome → State → Prop :=
  va_Ql (S := Unit) (fun r _ => r = rv) (fun _ t => va_P D cl w1 t.heap ∧ va_D (va_A wc sz) w1) (va_A wc sz)
abbrev cQv (D : va_G) (cl : List vw_C) (w1 wc : va_W) (sz : Nat) : Array Value → State → Outcome → State → Prop :=
  va_Qv (S := Unit) (fun _ => True) (fun _ t => va_P D cl w1 t.heap ∧ va_D (va_A wc sz) w1) (va_A wc sz)
abbrev cQr (ra : Nat) (D : va_G) (cl : List vw_C) (w1 wc : va_W) (sz : Nat) : Array Value → State → Outcome → State → Prop :=
  va_Qr (S := Unit) (fun _ => True) (fun _ b t => b = ra ∧ va_P D cl w1 t.heap ∧ va_D (va_A wc sz) w1) (va_A wc sz)
theorem cP_blind {av : List Value} {sz : Nat} : FrameBlind (cP D cl tys av wc sz) := fun a U g mk q => by
  obtain ⟨q0, q1, qP, qK, qD, qN⟩ := q
  exact ⟨q0, q1, qP, va_K.moved (u := U) (U := U.calling g mk a) (Vm.Alike.refl U.vm) qK, qD, qN.same rfl⟩
theorem P_sub' (hP : va_P D cl ws H) (is : List Nat) (hC : is.map (fun i => ws[i]?) = wc.map some) : va_P D cl wc H := by
  intro k q hk
  have h1 : (is.map (fun i => ws[i]?))[k]? = some (some q) := by rw [hC, List.getElem?_map, hk]; rfl
  rw [List.getElem?_map] at h1
  cases hi : is[k]? with
  | none => rw [hi] at h1; cases h1
  | some i => rw [hi] at h1; exact hP i q (Option.some.inj h1)
theorem cP_S {As : List Value} (hK : va_K D cl tys s) (hN : NW s) (hP : va_P D cl ws H) (hD : va_D A ws) (is : List Nat) (hn : va_nd is = true) (hC : is.map (fun i => ws[i]?) = wc.map some) : PreS s H (cP D cl tys As wc H.size) As :=
  ⟨cP_blind, fun U hU hW => ⟨rfl, by rw [hU], by rw [hU]; exact P_sub' hP is hC, va_K.moved hW.alike hK, (hD.sub is hn hC).weaken (fun _ _ _ _ => trivial), hN.warm hW⟩⟩
theorem cP_V {As : List Value} {b ci q0 : Nat} {q : vw_C} {fs : List Value} (hK : va_K D cl tys s) (hN : NW s) (hP : va_P D cl ws H) (hD : va_D A ws) (hc : cl[ci]? = some q) (he : ws[q0]? = some (b, .inr (ci, fs))) (is : List Nat) (hn : va_nd is = true) (hC : is.map (fun i => ws[i]?) = wc.map some) : PreV s H q.1 b (cP D cl tys (.ref b :: As) wc H.size) As :=
  ⟨cP_blind, va_recv hK hP hc he, fun U hU hW => ⟨rfl, by rw [hU], by rw [hU]; exact P_sub' hP is hC, va_K.moved hW.alike hK, (hD.sub is hn hC).weaken (fun _ _ _ _ => trivial), hN.warm hW⟩⟩
theorem cx_i {rv : Int32} (hr : va_Run p l e R s m args below meth c H locs cells slots mc ms (F0 m pc ls st0) rest (cQi rv D cl w1 wc H.size a) (va_A wc H.size))
    (hP : va_P D cl ws H) (hD : va_D A ws) (hS : va_S A s.heap H locs) (hA : ∀ q, s.heap.size ≤ q → A q) (isC isR : List Nat) (hC : isC.map (fun i => ws[i]?) = wc.map some) (hR : isR.map (fun i => ws[i]?) = wr.map some) (hn : va_nd isR = true) (hdis : ∀ i ∈ isR, i ∉ isC)
    (kk : ∀ (H1 : Heap) (locs1 : List Loc), va_P D cl (wr ++ w1) H1 → va_D A (wr ++ w1) → va_S A s.heap H1 locs1 → W p l e R s m args below meth c H1 locs1 (cells + mc) (slots + ms) Q (F0 m (pc + 3) ls (.int rv :: rest))) :
    W p l e R s m args below meth c H locs cells slots Q (F0 m pc ls st0) := by
  have hF := va_free hD hS hA isC hC
  refine va_calli hr hS (fun q _ h => hF q h) hF (fun r u t H1 locs1 ht hvm hw hB hz hk hS1 => ?_)
  obtain ⟨hP1, hD1⟩ := hB
  have hw : r = rv := hw
  subst hw
  rw [ht] at hP1
  obtain ⟨hP2, hD2⟩ := va_join hP hD isC isR hC hR hn hdis hk hF hP1 hD1
  exact kk H1 locs1 hP2 hD2 hS1
theorem cx_l {rv : Int64} (hr : va_Run p l e R s m args below meth c H locs cells slots mc ms (F0 m pc ls st0) rest (cQl rv D cl w1 wc H.size a) (va_A wc H.size))
    (hP : va_P D cl ws H) (hD : va_D A ws) (hS : va_S A s.heap H locs) (hA : ∀ q, s.heap.size ≤ q → A q) (isC isR : List Nat) (hC : isC.map (fun i => ws[i]?) = wc.map some) (hR : isR.map (fun i => ws[i]?) = wr.map some) (hn : va_nd isR = true) (hdis : ∀ i ∈ isR, i ∉ isC)
    (kk : ∀ (H1 : Heap) (locs1 : List Loc), va_P D cl (wr ++ w1) H1 → va_D A (wr ++ w1) → va_S A s.heap H1 locs1 → W p l e R s m args below meth c H1 locs1 (cells + mc) (slots + ms) Q (F0 m (pc + 3) ls (.long rv :: rest))) :
    W p l e R s m args below meth c H locs cells slots Q (F0 m pc ls st0) := by
  have hF := va_free hD hS hA isC hC
  refine va_calll hr hS (fun q _ h => hF q h) hF (fun r u t H1 locs1 ht hvm hw hB hz hk hS1 => ?_)
  obtain ⟨hP1, hD1⟩ := hB
  have hw : r = rv := hw
  subst hw
  rw [ht] at hP1
  obtain ⟨hP2, hD2⟩ := va_join hP hD isC isR hC hR hn hdis hk hF hP1 hD1
  exact kk H1 locs1 hP2 hD2 hS1
theorem cx_v (hr : va_Run p l e R s m args below meth c H locs cells slots mc ms (F0 m pc ls st0) rest (cQv D cl w1 wc H.size a) (va_A wc H.size))
    (hP : va_P D cl ws H) (hD : va_D A ws) (hS : va_S A s.heap H locs) (hA : ∀ q, s.heap.size ≤ q → A q) (isC isR : List Nat) (hC : isC.map (fun i => ws[i]?) = wc.map some) (hR : isR.map (fun i => ws[i]?) = wr.map some) (hn : va_nd isR = true) (hdis : ∀ i ∈ isR, i ∉ isC)
    (kk : ∀ (H1 : Heap) (locs1 : List Loc), va_P D cl (wr ++ w1) H1 → va_D A (wr ++ w1) → va_S A s.heap H1 locs1 → W p l e R s m args below meth c H1 locs1 (cells + mc) (slots + ms) Q (F0 m (pc + 3) ls rest)) :
    W p l e R s m args below meth c H locs cells slots Q (F0 m pc ls st0) := by
  have hF := va_free hD hS hA isC hC
  refine va_callv hr hS (fun q _ h => hF q h) hF (fun u t H1 locs1 ht hvm hw hB hz hk hS1 => ?_)
  obtain ⟨hP1, hD1⟩ := hB
  rw [ht] at hP1
  obtain ⟨hP2, hD2⟩ := va_join hP hD isC isR hC hR hn hdis hk hF hP1 hD1
  exact kk H1 locs1 hP2 hD2 hS1
theorem cx_r {ra : Nat} (hr : va_Run p l e R s m args below meth c H locs cells slots mc ms (F0 m pc ls st0) rest (cQr ra D cl w1 wc H.size a) (va_A wc H.size))
    (hP : va_P D cl ws H) (hD : va_D A ws) (hS : va_S A s.heap H locs) (hA : ∀ q, s.heap.size ≤ q → A q) (isC isR : List Nat) (hC : isC.map (fun i => ws[i]?) = wc.map some) (hR : isR.map (fun i => ws[i]?) = wr.map some) (hn : va_nd isR = true) (hdis : ∀ i ∈ isR, i ∉ isC)
    (kk : ∀ (H1 : Heap) (locs1 : List Loc), va_P D cl (wr ++ w1) H1 → va_D A (wr ++ w1) → va_S A s.heap H1 locs1 → W p l e R s m args below meth c H1 locs1 (cells + mc) (slots + ms) Q (F0 m (pc + 3) ls (.ref ra :: rest))) :
    W p l e R s m args below meth c H locs cells slots Q (F0 m pc ls st0) := by
  have hF := va_free hD hS hA isC hC
  refine va_callr hr hS (fun q _ h => hF q h) hF (fun u r t H1 locs1 ht hvm hw hB hz hk hS1 => ?_)
  obtain ⟨hra, hP1, hD1⟩ := hB
  subst hra
  rw [ht] at hP1
  obtain ⟨hP2, hD2⟩ := va_join hP hD isC isR hC hR hn hdis hk hF hP1 hD1
  exact kk H1 locs1 hP2 hD2 hS1
/-- a contract out of a walk -/
theorem cx_of {y : MethodName} {wds wds' : List Cond} {rm : Room} {av : List Value} {sz : Nat} {Qc : Array Value → State → Outcome → State → Prop} {cc : ByteArray} {maxL : Nat} {ret : Option FieldType} {own : String}
    (hy : plainName y.cls = true) (hw : wds = Cond.code y cc maxL ret :: wds') (ho : y.cls = own) (hlen : (lg_sl av).length ≤ maxL)
    (body : ∀ (p : Program) (e : Env) (s : State) (m : MethodId) (below : List Frame) (meth : Method) (c : Code) (A : Nat → Prop), Cx p s m meth c av.toArray cc maxL ret wds own → (own = y.cls ∧ meth.name = y.name) → va_K D cl tys s → NW s → s.heap.size = sz → A = va_A wc sz → (∀ q, s.heap.size ≤ q → A q) → va_P D cl wc s.heap → va_D A wc → va_S A s.heap s.heap [] → ∀ ls, lv_has ls maxL (lv_args 0 av) →
      W p l e rm s m av.toArray below meth c s.heap [] 0 0 (MQ below Qc av.toArray s mc ms A) (F0 m 0 ls [])) : Met l y wds rm (cP D cl tys av wc sz) Qc mc ms (va_A wc sz) := by
  refine Met.ofW (cc := cc) (maxL := maxL) (ret := ret) hy hw ?_
  intro p e s m args below meth c s₁ B hml hv
  obtain ⟨rfl, hsz, hP, hK, hD0, hN⟩ := hv
  have hown : s.vm.findClass y.cls = some m.cls := findClass_of_methodNamed B.named
  have hl := lv_entry av (n := maxL) hlen
  rw [lg_entry_eq]
  subst hsz
  exact body p e s m below meth c _ ⟨⟨B.exec, B.bytes, hml, by rw [← ho]; exact hown, atoms_spec (ws := wds) B.pre⟩, B.returns, B.notSynchronized⟩ ⟨ho.symm, (name_of_methodNamed B.named B.method).1⟩ hK hN rfl rfl (fun q h => Or.inr h) hP hD0.self va_S.rf _ hl
theorem cx_reti {cc : ByteArray} {rv : Int32} {sz : Nat} {nL : Nat} {Ts : List Cond} {own : String} (C0 : Cx p s m meth c args cc nL (some .int) Ts own) (hsz : s.heap.size = sz) (hAe : A = va_A wc sz) (hdg : decode cc pc = .ok (.ireturn, 1)) (hP : va_P D cl w1 H) (hD : va_D A w1) (hS : va_S A s.heap H locs) :
    W p l e R s m args below meth c H locs mc ms (MQ below (cQi rv D cl w1 wc sz) args s mc ms A) (F0 m pc ls [.int rv]) := by
  subst hAe
  obtain ⟨⟨hx, hb, -, -, -⟩, hr, hlocks⟩ := C0
  exact W.iret (v := rv) hx hb hr (fun t ht hW => ⟨⟨rv, (), rfl, rfl, by rw [ht]; exact hP, hD⟩, hS.F ht⟩) hS.2.2 hdg
theorem cx_retz {cc : ByteArray} {rv : Int32} {sz : Nat} {nL : Nat} {Ts : List Cond} {own : String} (C0 : Cx p s m meth c args cc nL (some .boolean) Ts own) (hn : narrow .boolean (.int rv) = .int rv) (hsz : s.heap.size = sz) (hAe : A = va_A wc sz) (hdg : decode cc pc = .ok (.ireturn, 1)) (hP : va_P D cl w1 H) (hD : va_D A w1) (hS : va_S A s.heap H locs) :
    W p l e R s m args below meth c H locs mc ms (MQ below (cQi rv D cl w1 wc sz) args s mc ms A) (F0 m pc ls [.int rv]) := by
  subst hAe
  obtain ⟨⟨hx, hb, -, -, -⟩, hr, hlocks⟩ := C0
  exact W.zret (v := rv) hx hb hr hn (fun t ht hW => ⟨⟨rv, (), rfl, rfl, by rw [ht]; exact hP, hD⟩, hS.F ht⟩) hS.2.2 hdg
theorem cx_retl {cc : ByteArray} {rv : Int64} {sz : Nat} {nL : Nat} {Ts : List Cond} {own : String} (C0 : Cx p s m meth c args cc nL (some .long) Ts own) (hsz : s.heap.size = sz) (hAe : A = va_A wc sz) (hdg : decode cc pc = .ok (.lreturn, 1)) (hP : va_P D cl w1 H) (hD : va_D A w1) (hS : va_S A s.heap H locs) :
    W p l e R s m args below meth c H locs mc ms (MQ below (cQl rv D cl w1 wc sz) args s mc ms A) (F0 m pc ls [.long rv]) := by
  subst hAe
  obtain ⟨⟨hx, hb, -, -, -⟩, hr, hlocks⟩ := C0
  exact W.lret (v := rv) hx hb hr (fun t ht hW => ⟨⟨rv, (), rfl, rfl, by rw [ht]; exact hP, hD⟩, hS.F ht⟩) hS.2.2 hdg
theorem cx_retv {cc : ByteArray} {sz : Nat} {nL : Nat} {Ts : List Cond} {own : String} (C0 : Cx p s m meth c args cc nL none Ts own) (hsz : s.heap.size = sz) (hAe : A = va_A wc sz) (hdg : decode cc pc = .ok (.return_, 1)) (hP : va_P D cl w1 H) (hD : va_D A w1) (hS : va_S A s.heap H locs) :
    W p l e R s m args below meth c H locs mc ms (MQ below (cQv D cl w1 wc sz) args s mc ms A) (F0 m pc ls []) := by
  subst hAe
  obtain ⟨⟨hx, hb, -, -, -⟩, hr, hlocks⟩ := C0
  exact W.vret hx hb hr (fun t ht hW => ⟨⟨(), rfl, trivial, by rw [ht]; exact hP, hD⟩, hS.F ht⟩) hS.2.2 hdg
theorem cx_retr {cc : ByteArray} {ra : Nat} {sz : Nat} {nL : Nat} {Ts : List Cond} {own : String} {rt : FieldType} (C0 : Cx p s m meth c args cc nL (some rt) Ts own) (hrt : (∃ n, rt = .object n) ∨ ∃ t, rt = .array t) (hsz : s.heap.size = sz) (hAe : A = va_A wc sz) (hdg : decode cc pc = .ok (.areturn, 1)) (hP : va_P D cl w1 H) (hD : va_D A w1) (hS : va_S A s.heap H locs) :
    W p l e R s m args below meth c H locs mc ms (MQ below (cQr ra D cl w1 wc sz) args s mc ms A) (F0 m pc ls [.ref ra]) := by
  subst hAe
  obtain ⟨⟨hx, hb, -, -, -⟩, hr, hlocks⟩ := C0
  exact W.aret (v := .ref ra) hx hb hr hrt (Or.inr ⟨_, rfl⟩) (fun t ht hW => ⟨⟨(), ra, rfl, trivial, rfl, by rw [ht]; exact hP, hD⟩, hS.F ht⟩) hS.2.2 hdg
end BASE

