/-! the class takes a tree up -/
def topv (c : Nat) : Int32 := if c = 0 then -1 else nI (c - 1)
theorem topv_s (o : Nat) : topv (o + 1) = nI o := if_neg (by omega)
def jbAt (no : Nat) (Tk : Nat → Int32) (Ks Ke Km Kr Kd : Nat → Int32) (q : Nat) (J : Jb) : Prop := Ks q = nI J.1 ∧ Ke q = nI J.2.1 ∧ (∀ p, p < no → bt' (Km q) p = bt' (Tk J.2.2.1) p) ∧ Kr q = nI J.2.2.2.1 ∧ Kd q = nI J.2.2.2.2
def repK (no : Nat) (Tk : Nat → Int32) (Ks Ke Km Kr Kd : Nat → Int32) (b : Nat) : List Jb → Prop
  | [] => True
  | J :: L => jbAt no Tk Ks Ke Km Kr Kd (b + L.length) J ∧ repK no Tk Ks Ke Km Kr Kd b L
def itT (Tt Tf Te Td : Nat → Int32) (L : List It) : Prop := ∀ q it, L[q]? = some it → Tt q = topv it.1 ∧ Tf q = nI it.2.1 ∧ Te q = nI it.2.2.1 ∧ Td q = nI it.2.2.2
theorem itT_push {Tt Tf Te Td : Nat → Int32} {L : List It} (h : itT Tt Tf Te Td L) (it : It) : itT (upd Tt L.length (topv it.1)) (upd Tf L.length (nI it.2.1)) (upd Te L.length (nI it.2.2.1)) (upd Td L.length (nI it.2.2.2)) (L ++ [it]) := by
  intro q it' hq
  by_cases e : q = L.length
  · subst e
    rw [List.getElem?_append_right (Nat.le_refl _), Nat.sub_self] at hq
    have hq : it = it' := Option.some.inj hq
    subst hq
    exact ⟨pk_us, pk_us, pk_us, pk_us⟩
  · have hl : q < L.length := by
      have := List.getElem?_eq_some_iff.mp hq
      obtain ⟨h1, -⟩ := this
      simp at h1; omega
    rw [List.getElem?_append_left hl] at hq
    rw [pk_un e, pk_un e, pk_un e, pk_un e]
    exact h q it' hq
theorem sub_div_mod (x c : Nat) : x - x / c * c = x % c := by
  have := Nat.div_add_mod x c
  rw [Nat.mul_comm] at this
  omega
section REPK
variable {no : Nat} {Tk : Nat → Int32}
theorem repK_frame {Ks Ke Km Kr Kd Ks' Ke' Km' Kr' Kd' : Nat → Int32} {b : Nat} : ∀ {L : List Jb}, (∀ q, b ≤ q → q < b + L.length → Ks' q = Ks q ∧ Ke' q = Ke q ∧ Km' q = Km q ∧ Kr' q = Kr q ∧ Kd' q = Kd q) → repK no Tk Ks Ke Km Kr Kd b L → repK no Tk Ks' Ke' Km' Kr' Kd' b L := by
  intro L
  induction L with
  | nil => intro _ _; trivial
  | cons J L ih =>
    intro h ⟨h1, h2⟩
    refine ⟨?_, ih (fun q h3 h4 => h q h3 (by show q < b + (L.length + 1); omega)) h2⟩
    obtain ⟨a1, a2, a3, a4, a5⟩ := h (b + L.length) (by omega) (by show b + L.length < b + (L.length + 1); omega)
    unfold jbAt at h1 ⊢
    rw [a1, a2, a3, a4, a5]
    exact h1
theorem repK_app {Ks Ke Km Kr Kd : Nat → Int32} {b : Nat} {S : List Jb} : ∀ {L : List Jb}, repK no Tk Ks Ke Km Kr Kd (b + S.length) L → repK no Tk Ks Ke Km Kr Kd b S → repK no Tk Ks Ke Km Kr Kd b (L ++ S) := by
  intro L
  induction L with
  | nil => intro _ h; exact h
  | cons J L ih =>
    intro ⟨h1, h2⟩ h
    refine ⟨?_, ih h2 h⟩
    show jbAt no Tk Ks Ke Km Kr Kd (b + (L ++ S).length) J
    rw [List.length_append, show b + (L.length + S.length) = b + S.length + L.length by omega]
    exact h1
end REPK
section CTAKE
variable {R_size : Nat → Int32} {R_elements : Nat → Int64} {F Lt : Nat → Int32} {no : Nat} {sz : Nat → Nat} {el : Nat → Nat → Int64} {w : Nat → Int64} {at0 : Nat → Nat} {tk : Nat → Nat → Nat → Bool} {n : Nat} {C_words : Nat → Int64} {C_atom : Nat → Int32} {nA nT nF nW : Nat} {al tp fs : Nat → Int32} {Tk : Nat → Int32}
theorem topped_ok (hn : n ≤ 40) (hno : no ≤ 30) (hT : tri (n + 1) * no ≤ nT) (hTb : nT ≤ 65536) {o i j : Nat} (ho : o < no) (hij : i < j) (hj : j ≤ n) : m_X0_topped nT tp (nI no) (nI o) (nI i) (nI j) = some (tp (tpN no o i j)) := by
  have hlt := tpN_lt (n := n) hij hj ho
  have et : spN i j * no + o = tpN no o i j := rfl
  unfold m_X0_topped
  rw [span_ok (by omega) (by omega) (by omega), ob_i, pk_mul, nI_add, et, gd_nI (by omega) (by omega), nI_cl (by omega)]
theorem pick_ok (E : CEnv R_size R_elements F Lt no sz el w at0 tk n C_words C_atom nA nT nF nW) (H : chOK no sz el w at0 tk n al tp fs (fun _ _ => True)) {Kr : Nat → Int32} {h : Nat} {J : Jb} {x : Int32} (hh : h < 40) (hv : vJ no sz el w at0 tk Tk n J) (hx : ∀ p, p < no → bt' x p = bt' (Tk J.2.2.1) p) (hr : Kr h = nI J.2.2.2.1) :
    m_X5_pick Kr (nI h) (nI no) C_atom nT tp (nI no) (nI J.1) (nI J.2.1) x = if J.2.2.2.1 < at1 at0 J.1 J.2.1 then some (-1, Kr) else some (nI (topN no sz el w at0 tk Tk J.1 J.2.1 J.2.2.1 J.2.2.2.1).1, upd Kr h (nI (topN no sz el w at0 tk Tk J.1 J.2.1 J.2.2.1 J.2.2.2.1).2)) := by
  have E0 := E
  obtain ⟨G, hn, hw, ha, ha1, hA, hT, hF, hW, hp, hin, hmF, hmL⟩ := E
  have hno : no ≤ 30 := G.2.1
  obtain ⟨i, j, t, k, d⟩ := J
  obtain ⟨v1, v2, v3, v4⟩ := hv
  dsimp only at v1 v2 v3 v4 hx hr ⊢
  obtain ⟨u1, u2⟩ := hv_lt v4
  have hat := at1_le ha1 i j
  unfold m_X5_pick
  rw [gd_nI hh (by omega), atoms_ok hn ha v1 v2, ob_i, nI_cl (by omega), hr]
  by_cases q : k < at1 at0 i j
  · rw [if_pos q]
    have k0 : k = 0 := by omega
    have a1 : at1 at0 i j = 1 := by omega
    rw [k0, a1]
    show (Option.bind (m_X4_operators (nI no)) (fun r_3 => if r_3 ≤ 0 then (some ((-1), Kr)) else (if nI 0 - nI 1 < 0 then (some ((-1), Kr)) else _))) = _
    show (if nI no ≤ 0 then (some ((-1), Kr)) else (if nI 0 - nI 1 < 0 then (some ((-1), Kr)) else _)) = _
    rw [if_pos (show nI 0 - nI 1 < 0 by decide)]
    split <;> rfl
  · rw [if_neg q, pk_sub (by omega)]
    unfold topN
    generalize hf : (fun p => if bt' (Tk t) p = true then TT no sz el w at0 tk p i j else 0) = f at u2 ⊢
    have hfl : ∀ p, f p ≤ 1000000000 := by
      intro p
      rw [← hf]
      dsimp only
      split
      · exact TT_le
      · omega
    have loop : ∀ (dd p l fu : Nat), p + dd = no → dd < fu → l < 1000000000 → l < sm f p dd → m_X5_pick_24 (nI h) (nI no) (nI no) C_atom nT tp fu Kr (nI i) (nI j) x (nI l) (nI p) = some (nI (pkN f dd p l).1, upd Kr h (nI (pkN f dd p l).2)) := by
      intro dd
      induction dd with
      | zero => intro p l fu h1 h2 h3 h4; rw [sm_0] at h4; omega
      | succ dd ih =>
        intro p l fu h1 h2 h3 h4
        obtain ⟨fu, rfl⟩ : ∃ z, fu = z + 1 := ⟨fu - 1, by omega⟩
        rw [sm_s] at h4
        have hp0 : p < no := by omega
        have t65 : m_X5_pick_65 (nI h) (nI no) (nI no) C_atom nT tp (m_X5_pick_24 (nI h) (nI no) (nI no) C_atom nT tp fu) Kr (nI i) (nI j) x (nI l) (nI p) (nI (f p)) = some (nI (pkN f (dd + 1) p l).1, upd Kr h (nI (pkN f (dd + 1) p l).2)) := by
          have := hfl p
          unfold m_X5_pick_65 pkN
          by_cases z : l < f p
          · rw [if_neg (by rw [nI_le' (by omega) (by omega)]; omega), if_pos z, gd_nI hh (by omega), nI_cl (by omega)]
          · rw [if_pos (by rw [nI_le' (by omega) (by omega)]; omega), if_neg z, pk_sub (by omega), nI_1]
            exact ih (p + 1) (l - f p) fu (by omega) (by omega) (by omega) (by omega)
        rw [← t65]
        have e0 : m_X5_pick_24 (nI h) (nI no) (nI no) C_atom nT tp (fu + 1) Kr (nI i) (nI j) x (nI l) (nI p) = m_X5_pick_24 (nI h) (nI no) (nI no) C_atom nT tp (fu + 1) Kr (nI i) (nI j) x (nI l) (nI p) := rfl
        conv at e0 => rhs; unfold m_X5_pick_24
        unfold m_X4_operators at e0
        rw [ob_i, if_neg (by rw [nI_le' (by omega) (by omega)]; omega), if_neg (by rw [i_0, nI_lt' (by omega) (by omega)]; omega), hasBit_ok x (by omega), ob_i, hx p hp0] at e0
        have ef : f p = if bt' (Tk t) p = true then TT no sz el w at0 tk p i j else 0 := by rw [← hf]
        by_cases z : bt' (Tk t) p = true
        · rw [if_neg (by rw [bi_eq0]; simpa using z), topped_ok hn hno hT.1 hT.2 hp0 v1 v2, ob_i, ((H i j v1 v2 trivial).2 p hp0).1] at e0
          rw [if_pos z] at ef
          rw [ef]; exact e0
        · rw [if_pos (by rw [bi_eq0]; exact z)] at e0
          rw [if_neg z] at ef
          rw [ef]; exact e0
    exact loop no 0 (k - at1 at0 i j) FU (by omega) (by rw [FU_v]; omega) (by omega) (by omega)
theorem takes_bits (E : CEnv R_size R_elements F Lt no sz el w at0 tk n C_words C_atom nA nT nF nW) (K : TKOK no sz tk Tk) {o e : Nat} (ho : o < no) (he : e < sz o) : ∃ x, m_X4_takes R_size F Lt (nI o) (nI e) = some x ∧ ∀ p, p < no → bt' x p = bt' (Tk (tyN sz o e)) p := by
  obtain ⟨G, hn, hw, ha, ha1, hA, hT, hF, hW, hp, hin, hmF, hmL⟩ := E
  have hno : no ≤ 30 := G.2.1
  rw [takes_ok G ho he]
  refine ⟨_, rfl, fun p hp0 => ?_⟩
  rw [K.2 o e p ho he hp0]
  by_cases q : e = 0
  · subst q
    rw [if_pos rfl, hmF o ho p (by omega)]; simp [hp0]
  · rw [if_neg q]
    by_cases q2 : e + 1 = sz o
    · rw [if_pos q2, hmL o ho (by omega) p (by omega), show sz o - 1 = e by omega]; simp [hp0]
    · rw [if_neg q2, bt_m1 (by omega), hin o ho e he q q2 p hp0]
/-- how many holes -/
theorem chil_len {o j dp : Nat} : ∀ {d a l : Nat}, (chil no sz el w at0 tk o j dp d a l).length + prt sz el o d = d := by
  intro d
  induction d with
  | zero => intro a l; rfl
  | succ d ih =>
    intro a l
    unfold chil prt
    by_cases q : el o (sz o - (d + 1)) = 95
    · rw [if_pos q, if_pos q, List.length_cons]
      have := @ih (hk no sz el w at0 tk o j d a l).1 ((hk no sz el w at0 tk o j d a l).2 % cap (Wx no sz el w at0 tk (TT no sz el w at0 tk) o d (hk no sz el w at0 tk o j d a l).1 j))
      omega
    · rw [if_neg q, if_neg q]
      have := @ih (a + 1) l
      omega
theorem holes_prt {o : Nat} : ∀ {d : Nat}, d ≤ sz o → ((List.range (sz o - d)).filter (fun e => el o e == 95)).length + d = ((List.range (sz o)).filter (fun e => el o e == 95)).length + prt sz el o d := by
  intro d
  induction d with
  | zero => intro _; simp [prt]
  | succ d ih =>
    intro hd
    have h := ih (by omega)
    have e : sz o - d = (sz o - (d + 1)) + 1 := by omega
    rw [e, List.range_succ, List.filter_append, List.length_append] at h
    unfold prt
    by_cases q : el o (sz o - (d + 1)) = 95
    · rw [if_pos q]
      simp [q] at h
      omega
    · rw [if_neg q]
      simp [q] at h
      omega
set_option maxHeartbeats 2000000 in
theorem spread_ok (E : CEnv R_size R_elements F Lt no sz el w at0 tk n C_words C_atom nA nT nF nW) (H : chOK no sz el w at0 tk n al tp fs (fun _ _ => True)) (K : TKOK no sz tk Tk) {Ks Ke Km Kr Kd W : Nat → Int32} {h o i j dp r : Nat} (ho : o < no) (hij : i < j) (hj : j ≤ n) (hM : r < 1000000000) (hrW : r < Wx no sz el w at0 tk (TT no sz el w at0 tk) o (sz o) i j) (hh : h < 40) (hr : Kr h = nI r) (hlen : h + (chil no sz el w at0 tk o j dp (sz o) i r).length ≤ 40) :
    ∃ Ks' Ke' Km' Kr' Kd' W', m_X5_spread Ks Ke Km Kr Kd (nI h) R_size F Lt R_elements C_words C_atom nA al nT tp nF fs nW W (nI n) (nI no) (nI o) (nI i) (nI j) (nI dp) = some (Ks', Ke', Km', Kr', Kd', nI (h + (chil no sz el w at0 tk o j dp (sz o) i r).length), W') ∧ repK no Tk Ks' Ke' Km' Kr' Kd' h (chil no sz el w at0 tk o j dp (sz o) i r) ∧ ∀ q, q < h → Ks' q = Ks q ∧ Ke' q = Ke q ∧ Km' q = Km q ∧ Kr' q = Kr q ∧ Kd' q = Kd q := by
  have E0 := E
  obtain ⟨G, hn, hw, ha, ha1, hA, hT, hF, hW, hp, hin, hmF, hmL⟩ := E
  have hno : no ≤ 30 := G.2.1
  obtain ⟨g1, g2, g3, g4⟩ := G.2.2 o ho
  obtain ⟨c, c1, c2, c3⟩ := holes_ok G ho
  have hc : c = (chil no sz el w at0 tk o j dp (sz o) i r).length := by
    have h1 := @chil_len no sz el w at0 tk o j dp (sz o) i r
    have h2 := @holes_prt sz el o (sz o) (Nat.le_refl _)
    rw [Nat.sub_self] at h2
    simp at h2
    rw [c3]; omega
  obtain ⟨V, v1, v2⟩ := recall_ok E0 H ho hij hj W
  unfold m_X5_spread
  rw [gd_nI hh (by omega), c2, ob_i, nI_add, if_pos (by rw [i_40, nI_le' (by omega) (by omega)]; omega), v1, ob_i, nI_cl (by omega), hr, hc]
  -- the end of a hole
  have L110 : ∀ (k56 : (Nat → Int32) → (Nat → Int32) → (Nat → Int32) → (Nat → Int32) → (Nat → Int32) → Int32 → (Nat → Int32) → Int32 → Int32 → Int32 → Int32 → Int32 → Int32 → Int32 → Option ((Nat → Int32) × (Nat → Int32) × (Nat → Int32) × (Nat → Int32) × (Nat → Int32) × Int32 × (Nat → Int32))) (A B Cc D EE : Nat → Int32) (x6 : Int32) (d a : Nat) (xh : Int32), d < sz o → el o (sz o - (d + 1)) = 95 → i ≤ a → ∀ (dd m l fu : Nat), a < m → m + dd = j + 1 → dd < fu → l < 1000000000 → l < sm (fun m => HV no at0 tk (TT no sz el w at0 tk) o (sz o - (d + 1)) a m * Wx no sz el w at0 tk (TT no sz el w at0 tk) o d m j) m dd → m_X5_spread_110 (nI n) (nI no) R_size F Lt R_elements C_words C_atom nA al nT tp nF fs nW k56 fu A B Cc D EE xh V (nI o) (nI j) (nI dp) (nI l) x6 (nI a) (nI (sz o - (d + 1))) (nI m) (nI (cap (HV no at0 tk (TT no sz el w at0 tk) o (sz o - (d + 1)) a m * Wx no sz el w at0 tk (TT no sz el w at0 tk) o d m j))) = m_X5_spread_152 (nI n) (nI no) R_size F Lt R_elements C_words C_atom nA al nT tp nF fs nW k56 A B Cc D EE xh V (nI o) (nI j) (nI dp) (nI (pkN (fun m => HV no at0 tk (TT no sz el w at0 tk) o (sz o - (d + 1)) a m * Wx no sz el w at0 tk (TT no sz el w at0 tk) o d m j) dd m l).2) x6 (nI a) (nI (sz o - (d + 1))) (nI (pkN (fun m => HV no at0 tk (TT no sz el w at0 tk) o (sz o - (d + 1)) a m * Wx no sz el w at0 tk (TT no sz el w at0 tk) o d m j) dd m l).1) := by
    intro k56 A B Cc D EE x6 d a xh hd hhole hia dd
    induction dd with
    | zero => intro m l fu h1 h2 h3 h4 h5; rw [sm_0] at h5; omega
    | succ dd ih =>
      intro m l fu h1 h2 h3 h4 h5
      obtain ⟨fu, rfl⟩ : ∃ z, fu = z + 1 := ⟨fu - 1, by omega⟩
      rw [sm_s] at h5
      have hcb := cap_le (HV no at0 tk (TT no sz el w at0 tk) o (sz o - (d + 1)) a m * Wx no sz el w at0 tk (TT no sz el w at0 tk) o d m j)
      have hcl : l < cap (HV no at0 tk (TT no sz el w at0 tk) o (sz o - (d + 1)) a m * Wx no sz el w at0 tk (TT no sz el w at0 tk) o d m j) ↔ l < HV no at0 tk (TT no sz el w at0 tk) o (sz o - (d + 1)) a m * Wx no sz el w at0 tk (TT no sz el w at0 tk) o d m j := by unfold cap; omega
      have e0 : m_X5_spread_110 (nI n) (nI no) R_size F Lt R_elements C_words C_atom nA al nT tp nF fs nW k56 (fu + 1) A B Cc D EE xh V (nI o) (nI j) (nI dp) (nI l) x6 (nI a) (nI (sz o - (d + 1))) (nI m) (nI (cap (HV no at0 tk (TT no sz el w at0 tk) o (sz o - (d + 1)) a m * Wx no sz el w at0 tk (TT no sz el w at0 tk) o d m j))) = m_X5_spread_110 (nI n) (nI no) R_size F Lt R_elements C_words C_atom nA al nT tp nF fs nW k56 (fu + 1) A B Cc D EE xh V (nI o) (nI j) (nI dp) (nI l) x6 (nI a) (nI (sz o - (d + 1))) (nI m) (nI (cap (HV no at0 tk (TT no sz el w at0 tk) o (sz o - (d + 1)) a m * Wx no sz el w at0 tk (TT no sz el w at0 tk) o d m j))) := rfl
      conv at e0 => rhs; unfold m_X5_spread_110
      unfold pkN
      by_cases z : l < HV no at0 tk (TT no sz el w at0 tk) o (sz o - (d + 1)) a m * Wx no sz el w at0 tk (TT no sz el w at0 tk) o d m j
      · rw [if_pos (by rw [nI_lt' (by omega) (by omega)]; exact hcl.mpr z)] at e0
        rw [if_pos z]; exact e0
      · have hdd : dd ≠ 0 := by
          intro z2
          subst z2
          rw [sm_0] at h5; omega
        have hx : cap (HV no at0 tk (TT no sz el w at0 tk) o (sz o - (d + 1)) a m * Wx no sz el w at0 tk (TT no sz el w at0 tk) o d m j) = HV no at0 tk (TT no sz el w at0 tk) o (sz o - (d + 1)) a m * Wx no sz el w at0 tk (TT no sz el w at0 tk) o d m j := cap_id (by omega)
        have hwt := waysThrough_ok E0 H (W := V) (i := i) (a := a) (m := m + 1) ho (show sz o - (d + 1) < sz o by omega) hhole hj hia (by omega) (by omega) v2
        rw [show sz o - (sz o - (d + 1) + 1) = d by omega] at hwt
        rw [if_neg (by rw [nI_lt' (by omega) (by omega)]; exact fun y => z (hcl.mp y)), if_neg (by rw [nI_le' (by omega) (by omega)]; omega), nI_1, hwt, ob_i, hx, pk_sub (by omega)] at e0
        rw [if_neg z, hx]
        refine e0.trans ?_
        exact ih (m + 1) (l - HV no at0 tk (TT no sz el w at0 tk) o (sz o - (d + 1)) a m * Wx no sz el w at0 tk (TT no sz el w at0 tk) o d m j) fu (by omega) (by omega) (by omega) (by omega) (by omega)
  -- the elements
  have loop : ∀ (d a l fu : Nat) (A B Cc D EE : Nat → Int32) (xh : Int32), d ≤ sz o → d < fu → i ≤ a → l < 1000000000 → l < Wx no sz el w at0 tk (TT no sz el w at0 tk) o d a j → h + (chil no sz el w at0 tk o j dp d a l).length ≤ 40 → ∃ Ks' Ke' Km' Kr' Kd', m_X5_spread_56 (nI n) (nI no) R_size F Lt R_elements C_words C_atom nA al nT tp nF fs nW fu A B Cc D EE xh V (nI o) (nI j) (nI dp) (nI l) (nI (h + (chil no sz el w at0 tk o j dp d a l).length)) (nI a) (nI (sz o - d)) = some (Ks', Ke', Km', Kr', Kd', xh, V) ∧ repK no Tk Ks' Ke' Km' Kr' Kd' h (chil no sz el w at0 tk o j dp d a l) ∧ ∀ q, (q < h ∨ h + (chil no sz el w at0 tk o j dp d a l).length ≤ q) → Ks' q = A q ∧ Ke' q = B q ∧ Km' q = Cc q ∧ Kr' q = D q ∧ Kd' q = EE q := by
    intro d
    induction d with
    | zero =>
      intro a l fu A B Cc D EE xh hd hf hia hM hl hln
      obtain ⟨fu, rfl⟩ : ∃ z, fu = z + 1 := ⟨fu - 1, by omega⟩
      refine ⟨A, B, Cc, D, EE, ?_, trivial, fun _ _ => ⟨rfl, rfl, rfl, rfl, rfl⟩⟩
      show Option.bind (m_X4_size R_size (nI o)) (fun r_13 => if r_13 ≤ nI (sz o - 0) then _ else _) = _
      rw [size_ok (by omega), ob_i, g1, Nat.sub_zero, if_pos (by rw [nI_le' (by omega) (by omega)]; omega)]
    | succ d ih =>
      intro a l fu A B Cc D EE xh hd hf hia hM hl hln
      obtain ⟨fu, rfl⟩ : ∃ z, fu = z + 1 := ⟨fu - 1, by omega⟩
      have e0 : ∀ s : Nat, m_X5_spread_56 (nI n) (nI no) R_size F Lt R_elements C_words C_atom nA al nT tp nF fs nW (fu + 1) A B Cc D EE xh V (nI o) (nI j) (nI dp) (nI l) (nI s) (nI a) (nI (sz o - (d + 1))) = m_X5_spread_56 (nI n) (nI no) R_size F Lt R_elements C_words C_atom nA al nT tp nF fs nW (fu + 1) A B Cc D EE xh V (nI o) (nI j) (nI dp) (nI l) (nI s) (nI a) (nI (sz o - (d + 1))) := fun _ => rfl
      conv at e0 => intro s; rhs; unfold m_X5_spread_56
      have t213 : ∀ (A B Cc D EE : Nat → Int32) (l s a : Nat), m_X5_spread_213 (nI n) (nI no) R_size F Lt R_elements C_words C_atom nA al nT tp nF fs nW (m_X5_spread_56 (nI n) (nI no) R_size F Lt R_elements C_words C_atom nA al nT tp nF fs nW fu) A B Cc D EE xh V (nI o) (nI j) (nI dp) (nI l) (nI s) (nI a) (nI (sz o - (d + 1))) = m_X5_spread_56 (nI n) (nI no) R_size F Lt R_elements C_words C_atom nA al nT tp nF fs nW fu A B Cc D EE xh V (nI o) (nI j) (nI dp) (nI l) (nI s) (nI a) (nI (sz o - d)) := by
        intro A B Cc D EE l s a
        unfold m_X5_spread_213
        rw [nI_1, show sz o - (d + 1) + 1 = sz o - d by omega]
      have e1 : sz o - (d + 1) + 1 = sz o - d := by omega
      by_cases hhole : el o (sz o - (d + 1)) = 95
      · have hchil : chil no sz el w at0 tk o j dp (d + 1) a l = (a, (hk no sz el w at0 tk o j d a l).1, tyN sz o (sz o - (d + 1)), (hk no sz el w at0 tk o j d a l).2 / cap (Wx no sz el w at0 tk (TT no sz el w at0 tk) o d (hk no sz el w at0 tk o j d a l).1 j), dp) :: chil no sz el w at0 tk o j dp d (hk no sz el w at0 tk o j d a l).1 ((hk no sz el w at0 tk o j d a l).2 % cap (Wx no sz el w at0 tk (TT no sz el w at0 tk) o d (hk no sz el w at0 tk o j d a l).1 j)) := by
          show (if el o (sz o - (d + 1)) = 95 then _ else _) = _
          rw [if_pos hhole]
        cases hkr : hk no sz el w at0 tk o j d a l with
        | mk m x =>
          obtain ⟨h1, h2, h3, h4, h5, h6, h7, h8⟩ := hole_pk hM hhole hl hkr
          rw [hkr] at hchil
          dsimp only at hchil
          rw [hchil] at hln ⊢
          rw [List.length_cons] at hln ⊢
          generalize hL : chil no sz el w at0 tk o j dp d m (x % cap (Wx no sz el w at0 tk (TT no sz el w at0 tk) o d m j)) = L at hln ⊢
          have hwt := waysThrough_ok E0 H (W := V) (i := i) (a := a) (m := a + 1) ho (show sz o - (d + 1) < sz o by omega) hhole hj hia (by omega) (by omega) v2
          rw [show sz o - (sz o - (d + 1) + 1) = d by omega] at hwt
          have eW : Wx no sz el w at0 tk (TT no sz el w at0 tk) o (d + 1) a j = sm (fun m => HV no at0 tk (TT no sz el w at0 tk) o (sz o - (d + 1)) a m * Wx no sz el w at0 tk (TT no sz el w at0 tk) o d m j) (a + 1) (j - a) := by
            show (if el o (sz o - (d + 1)) = 95 then _ else _) = _
            rw [if_pos hhole]
          obtain ⟨tx, tx1, tx2⟩ := takes_bits (Tk := Tk) E0 K ho (show sz o - (d + 1) < sz o by omega)
          have hcb := cap_le (Wx no sz el w at0 tk (TT no sz el w at0 tk) o d m j)
          have hwf := waysFrom_ok (W := V) (n := n) (nW := nW) (e := sz o - d) (t := m) G hn hW.1 hW.2 ho (by omega) (by omega)
          rw [v2 m (by omega) h2 (sz o - d) (by omega), show sz o - (sz o - d) = d by omega] at hwf
          have emax : (if 1 < nI (cap (Wx no sz el w at0 tk (TT no sz el w at0 tk) o d m j)) then nI (cap (Wx no sz el w at0 tk (TT no sz el w at0 tk) o d m j)) else 1) = nI (cap (Wx no sz el w at0 tk (TT no sz el w at0 tk) o d m j)) := by
            by_cases z : 1 < cap (Wx no sz el w at0 tk (TT no sz el w at0 tk) o d m j)
            · rw [if_pos (by rw [i_1, nI_lt' (by omega) (by omega)]; exact z)]
            · rw [if_neg (by rw [i_1, nI_lt' (by omega) (by omega)]; exact z), show cap (Wx no sz el w at0 tk (TT no sz el w at0 tk) o d m j) = 1 by omega]; rfl
          have enz : ¬ nI (cap (Wx no sz el w at0 tk (TT no sz el w at0 tk) o d m j)) = 0 := by rw [nI_eq0' (by omega)]; omega
          obtain ⟨Ks', Ke', Km', Kr', Kd', i1, i2, i3⟩ := ih m (x % cap (Wx no sz el w at0 tk (TT no sz el w at0 tk) o d m j)) fu (upd A (h + L.length) (nI a)) (upd B (h + L.length) (nI m)) (upd Cc (h + L.length) tx) (upd D (h + L.length) (nI (x / cap (Wx no sz el w at0 tk (TT no sz el w at0 tk) o d m j)))) (upd EE (h + L.length) (nI dp)) xh (by omega) (by omega) (by omega) h8 h7 (by rw [hL]; omega)
          rw [hL] at i1 i2 i3
          refine ⟨Ks', Ke', Km', Kr', Kd', ?_, ⟨?_, i2⟩, ?_⟩
          · rw [e0, size_ok (by omega), ob_i, g1, if_neg (by rw [nI_le' (by omega) (by omega)]; omega), isHole_ok' G ho (by omega), ob_i, if_neg (by rw [bi_eq0]; simpa using hhole), nI_1, hwt, ob_i]
            rw [L110 (m_X5_spread_56 (nI n) (nI no) R_size F Lt R_elements C_words C_atom nA al nT tp nF fs nW fu) A B Cc D EE (nI (h + (L.length + 1))) d a xh (by omega) hhole hia (j - a) (a + 1) l FU (by omega) (by omega) (by rw [FU_v]; omega) hM (by rw [← eW]; exact hl)]
            have hkr' : pkN (fun m => HV no at0 tk (TT no sz el w at0 tk) o (sz o - (d + 1)) a m * Wx no sz el w at0 tk (TT no sz el w at0 tk) o d m j) (j - a) (a + 1) l = (m, x) := hkr
            rw [hkr']
            unfold m_X5_spread_152
            rw [nI_1, e1, hwf, ob_i, tx1, ob_i, emax, gz_ok enz]
            unfold m_X5_put
            rw [show h + (L.length + 1) = (h + L.length) + 1 by omega, i_m1]
            simp (disch := omega) only [gd_nI, nI_cl]
            rw [ob_i, gz_ok enz, pk_div (by omega) (by omega) (by omega), pk_mul, pk_sub (Nat.div_mul_le_self _ _), sub_div_mod]
            rw [t213]
            exact i1
          · obtain ⟨b1, b2, b3, b4, b5⟩ := i3 (h + L.length) (Or.inr (Nat.le_refl _))
            refine ⟨by rw [b1, pk_us], by rw [b2, pk_us], fun p hp0 => ?_, by rw [b4, pk_us], by rw [b5, pk_us]⟩
            rw [b3, pk_us]
            exact tx2 p hp0
          · intro q hq
            obtain ⟨b1, b2, b3, b4, b5⟩ := i3 q (by omega)
            have hne : q ≠ h + L.length := by omega
            rw [b1, b2, b3, b4, b5, pk_un hne, pk_un hne, pk_un hne, pk_un hne, pk_un hne]
            exact ⟨rfl, rfl, rfl, rfl, rfl⟩
      · have hchil : chil no sz el w at0 tk o j dp (d + 1) a l = chil no sz el w at0 tk o j dp d (a + 1) l := by
          show (if el o (sz o - (d + 1)) = 95 then _ else _) = _
          rw [if_neg hhole]
        rw [hchil] at hln ⊢
        obtain ⟨p1, p2, p3⟩ := part_pk hhole hl
        obtain ⟨Ks', Ke', Km', Kr', Kd', i1, i2, i3⟩ := ih (a + 1) l fu A B Cc D EE xh (by omega) (by omega) (by omega) hM p3 hln
        refine ⟨Ks', Ke', Km', Kr', Kd', ?_, i2, i3⟩
        rw [e0, size_ok (by omega), ob_i, g1, if_neg (by rw [nI_le' (by omega) (by omega)]; omega), isHole_ok' G ho (by omega), ob_i, if_pos (by rw [bi_eq0]; exact hhole), nI_1, t213]
        exact i1
  obtain ⟨Ks', Ke', Km', Kr', Kd', i1, i2, i3⟩ := loop (sz o) i r FU Ks Ke Km Kr Kd (nI (h + (chil no sz el w at0 tk o j dp (sz o) i r).length)) (Nat.le_refl _) (by rw [FU_v]; omega) (Nat.le_refl _) hM hrW hlen
  rw [Nat.sub_self] at i1
  exact ⟨Ks', Ke', Km', Kr', Kd', V, i1, i2, fun q hq => i3 q (Or.inl hq)⟩
theorem len_sumw : ∀ {S : List Jb}, (∀ J, J ∈ S → vJ no sz el w at0 tk Tk n J) → S.length ≤ sumw S := by
  intro S
  induction S with
  | nil => intro _; exact Nat.le_refl _
  | cons J S ih =>
    intro h
    have h1 := ih (fun J' h' => h J' (List.mem_cons_of_mem _ h'))
    have h2 := (h J (List.mem_cons_self ..)).1
    show S.length + 1 ≤ (J.2.1 - J.1) + sumw S
    omega
set_option maxHeartbeats 2000000 in
theorem unfold_ok (E : CEnv R_size R_elements F Lt no sz el w at0 tk n C_words C_atom nA nT nF nW) (H : chOK no sz el w at0 tk n al tp fs (fun _ _ => True)) (K : TKOK no sz tk Tk) (hpt : ∀ o, o < no → ∃ e, e < sz o ∧ ¬ el o e = 95) : ∀ (f fu : Nat) (S : List Jb) (acc : List It) (Ks Ke Km Kr Kd W Tt Tf Te Td : Nat → Int32), repK no Tk Ks Ke Km Kr Kd 0 S → (∀ J, J ∈ S → vJ no sz el w at0 tk Tk n J) → acc.length + sumw S ≤ 40 → sumw S ≤ f → sumw S < fu → itT Tt Tf Te Td acc →
    ∃ Ks' Ke' Km' Kr' Kd' W' Tt' Tf' Te' Td', m_X5_unfold_30 (nI no) (nI n) (nI no) R_size F Lt R_elements C_words C_atom nA al nT tp nF fs nW fu Ks Ke Km Kr Kd (nI S.length) W Tt Tf Te Td (nI acc.length) (nI acc.length) = some (Ks', Ke', Km', Kr', Kd', nI 0, W', Tt', Tf', Te', Td', nI (acc ++ run no sz el w at0 tk Tk f S).length) ∧ itT Tt' Tf' Te' Td' (acc ++ run no sz el w at0 tk Tk f S) ∧ (acc ++ run no sz el w at0 tk Tk f S).length ≤ 40 := by
  have E0 := E
  obtain ⟨G, hn, hw, ha, ha1, hA, hT, hF, hW, hp, hin, hmF, hmL⟩ := E
  have hno : no ≤ 30 := G.2.1
  intro f
  induction f with
  | zero =>
    intro fu S acc Ks Ke Km Kr Kd W Tt Tf Te Td hK hv h1 h2 h3 hT0
    obtain ⟨fu, rfl⟩ : ∃ z, fu = z + 1 := ⟨fu - 1, by omega⟩
    have hlen := len_sumw hv
    have : S = [] := by
      cases S with
      | nil => rfl
      | cons J S => rw [List.length_cons] at hlen; omega
    subst this
    refine ⟨Ks, Ke, Km, Kr, Kd, W, Tt, Tf, Te, Td, ?_, by simpa [run] using hT0, by simp [run]; omega⟩
    show (if 40 ≤ nI acc.length then _ else (if nI 0 ≤ 0 then _ else _)) = _
    rw [if_pos (show nI 0 ≤ 0 by decide)]
    have : (acc ++ run no sz el w at0 tk Tk 0 []).length = acc.length := by simp [run]
    rw [this]
    split <;> rfl
  | succ f ih =>
    intro fu S acc Ks Ke Km Kr Kd W Tt Tf Te Td hK hv h1 h2 h3 hT0
    obtain ⟨fu, rfl⟩ : ∃ z, fu = z + 1 := ⟨fu - 1, by omega⟩
    cases S with
    | nil =>
      refine ⟨Ks, Ke, Km, Kr, Kd, W, Tt, Tf, Te, Td, ?_, by simpa [run] using hT0, by simp [run]; omega⟩
      show (if 40 ≤ nI acc.length then _ else (if nI 0 ≤ 0 then _ else _)) = _
      rw [if_pos (show nI 0 ≤ 0 by decide)]
      have : (acc ++ run no sz el w at0 tk Tk (f + 1) []).length = acc.length := by simp [run]
      rw [this]
      split <;> rfl
    | cons J S =>
      obtain ⟨hJ, hS⟩ := hK
      rw [Nat.zero_add] at hJ
      obtain ⟨j1, j2, j3, j4, j5⟩ := hJ
      have hvJ := hv J (List.mem_cons_self ..)
      have hvS : ∀ J', J' ∈ S → vJ no sz el w at0 tk Tk n J' := fun J' h => hv J' (List.mem_cons_of_mem _ h)
      have hsum : sumw (J :: S) = (J.2.1 - J.1) + sumw S := rfl
      have hJ1 := hvJ.1
      have hJ2 := hvJ.2.1
      have hlS := len_sumw hvS
      have hpick := pick_ok (Tk := Tk) (x := Km S.length) E0 H (Kr := Kr) (h := S.length) (by omega) hvJ j3 j4
      have e0 : m_X5_unfold_30 (nI no) (nI n) (nI no) R_size F Lt R_elements C_words C_atom nA al nT tp nF fs nW (fu + 1) Ks Ke Km Kr Kd (nI (S.length + 1)) W Tt Tf Te Td (nI acc.length) (nI acc.length) = m_X5_unfold_30 (nI no) (nI n) (nI no) R_size F Lt R_elements C_words C_atom nA al nT tp nF fs nW (fu + 1) Ks Ke Km Kr Kd (nI (S.length + 1)) W Tt Tf Te Td (nI acc.length) (nI acc.length) := rfl
      conv at e0 => rhs; unfold m_X5_unfold_30
      rw [if_neg (by rw [i_40, nI_le' (by omega) (by omega)]; omega), if_neg (by rw [i_0, nI_le' (by omega) (by omega)]; omega), nI_pred, nI_cl (by omega), gd_nI (by omega) (by omega), gd_nI (by omega) (by omega), gd_nI (by omega) (by omega), j1, j2, hpick] at e0
      have hadd : ∀ v : Int32, m_X7_add Tt Tf Te Td (nI acc.length) v (nI J.1) (nI J.2.1) (nI J.2.2.2.2) = some (nI acc.length, upd Tt acc.length v, upd Tf acc.length (nI J.1), upd Te acc.length (nI J.2.1), upd Td acc.length (nI J.2.2.2.2), nI (acc.length + 1)) := by
        intro v
        unfold m_X7_add
        rw [if_pos (by rw [i_40, nI_lt' (by omega) (by omega)]; omega), nI_1, nI_pred]
        simp (disch := omega) only [gd_nI, nI_cl]
      show ∃ Ks' Ke' Km' Kr' Kd' W' Tt' Tf' Te' Td', m_X5_unfold_30 (nI no) (nI n) (nI no) R_size F Lt R_elements C_words C_atom nA al nT tp nF fs nW (fu + 1) Ks Ke Km Kr Kd (nI (S.length + 1)) W Tt Tf Te Td (nI acc.length) (nI acc.length) = _ ∧ _
      rw [e0]
      unfold run
      by_cases q : J.2.2.2.1 < at1 at0 J.1 J.2.1
      · rw [if_pos q, if_pos q, ob_i]
        dsimp only
        simp (disch := omega) only [gd_nI]
        rw [j5, hadd, ob_i]
        dsimp only
        rw [if_pos trivial]
        unfold m_X5_unfold_160
        rw [nI_1]
        have hT1 := itT_push hT0 (0, J.1, J.2.1, J.2.2.2.2)
        obtain ⟨Ks', Ke', Km', Kr', Kd', W', Tt', Tf', Te', Td', k1, k2, k3⟩ := ih fu S (acc ++ [(0, J.1, J.2.1, J.2.2.2.2)]) Ks Ke Km Kr Kd W _ _ _ _ hS hvS (by rw [List.length_append]; show acc.length + 1 + _ ≤ _; omega) (by omega) (by omega) hT1
        rw [List.append_assoc] at k1 k2 k3
        refine ⟨Ks', Ke', Km', Kr', Kd', W', Tt', Tf', Te', Td', ?_, k2, k3⟩
        rw [List.length_append] at k1
        exact k1
      · rw [if_neg q, if_neg q, ob_i]
        cases hr : topN no sz el w at0 tk Tk J.1 J.2.1 J.2.2.1 J.2.2.2.1 with
        | mk o r =>
          obtain ⟨ho, r1, r2, r3, r4⟩ := top_ok E0.hs hvJ q hr
          obtain ⟨c1, c2⟩ := chil_ok (dp := J.2.2.2.2 + 1) K hno ho hJ2 (Nat.le_refl (sz o)) r1 r3
          obtain ⟨e1, he1, he2⟩ := hpt o ho
          have hpp : 1 ≤ prt sz el o (sz o) := prt_pos (Nat.le_refl _) (by omega) he1 he2
          have hcv : ∀ J', J' ∈ chil no sz el w at0 tk o J.2.1 (J.2.2.2.2 + 1) (sz o) J.1 r → vJ no sz el w at0 tk Tk n J' := fun J' h => (c1 J' h).1
          have hcl := len_sumw hcv
          obtain ⟨Ks', Ke', Km', Kr', Kd', W', s1, s2, s3⟩ := spread_ok (Ks := Ks) (Ke := Ke) (Km := Km) (Kr := upd Kr S.length (nI r)) (Kd := Kd) (W := W) (h := S.length) (dp := J.2.2.2.2 + 1) E0 H K ho hJ1 hJ2 r1 r3 (by omega) pk_us (by omega)
          dsimp only
          simp (disch := omega) only [gd_nI]
          rw [j5, hadd, ob_i]
          dsimp only
          rw [if_neg (show ¬ nI o = -1 by
            intro z
            have : nI o < 0 := by rw [z]; decide
            rw [i_0, nI_lt' (by omega) (by omega)] at this
            omega), nI_1, s1, ob_i]
          dsimp only
          unfold m_X5_unfold_160
          rw [nI_1]
          have hT1 := itT_push hT0 (o + 1, J.1, J.2.1, J.2.2.2.2)
          have hK2 : repK no Tk Ks' Ke' Km' Kr' Kd' 0 S := repK_frame (fun q' _ h5 => by
            obtain ⟨b1, b2, b3, b4, b5⟩ := s3 q' (by omega)
            rw [pk_un (by omega)] at b4
            exact ⟨b1, b2, b3, b4, b5⟩) hS
          obtain ⟨Ks2, Ke2, Km2, Kr2, Kd2, W2, Tt2, Tf2, Te2, Td2, k1, k2, k3⟩ := ih fu (chil no sz el w at0 tk o J.2.1 (J.2.2.2.2 + 1) (sz o) J.1 r ++ S) (acc ++ [(o + 1, J.1, J.2.1, J.2.2.2.2)]) Ks' Ke' Km' Kr' Kd' W' _ _ _ _ (repK_app (by rw [Nat.zero_add]; exact s2) hK2) (fun J' h => by
            rcases List.mem_append.mp h with h | h
            · exact hcv J' h
            · exact hvS J' h) (by rw [List.length_append, sumw_app]; show acc.length + 1 + _ ≤ _; omega) (by rw [sumw_app]; omega) (by rw [sumw_app]; omega) hT1
          rw [List.append_assoc] at k1 k2 k3
          refine ⟨Ks2, Ke2, Km2, Kr2, Kd2, W2, Tt2, Tf2, Te2, Td2, ?_, k2, k3⟩
          rw [List.length_append, List.length_append, Nat.add_comm (chil no sz el w at0 tk o J.2.1 (J.2.2.2.2 + 1) (sz o) J.1 r).length] at k1
          rw [topv_s] at k1
          exact k1
end CTAKE
