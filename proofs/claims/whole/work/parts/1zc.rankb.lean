section RANKB
variable {R_size : Nat → Int32} {R_elements : Nat → Int64} {F Lt : Nat → Int32} {no : Nat} {sz : Nat → Nat} {el : Nat → Nat → Int64} {w : Nat → Int64} {at0 : Nat → Nat} {tk : Nat → Nat → Nat → Bool} {n : Nat} {C_words : Nat → Int64} {C_atom : Nat → Int32} {nA nT nF nW : Nat} {al tp fs : Nat → Int32} {Tk : Nat → Int32} {Tt Tf Te Td : Nat → Int32} {n0 : Nat} {its0 : List It}
theorem mid_ok (Ev : CEnv R_size R_elements F Lt no sz el w at0 tk n C_words C_atom nA nT nF nW) (H : chOK no sz el w at0 tk n al tp fs (fun _ _ => True)) (k57 : (Nat → Int32) → (Nat → Int32) → (Nat → Int32) → Int32 → Int32 → Int32 → Int32 → Int32 → Int32 → Option (Int32 × (Nat → Int32) × (Nat → Int32) × (Nat → Int32))) {Wt Mk Cy : Nat → Int32} {p e a i j st : Nat} {x2 x7 : Int32} (hp : p < no) (he : e < sz p) (hh : el p e = 95) (hj : j ≤ n) (hia : i ≤ a) (hst : st ≤ j) (hW' : ∀ t, i ≤ t → t ≤ j → wyOK no sz el w at0 tk (TT no sz el w at0 tk) n Cy p t j) : ∀ (r m fu s : Nat), m + r = st → a < m → r < fu → s ≤ 1000000000 → ∃ fu', m_X2_before_112 (nI n) (nI no) (nI n0) R_size F Lt R_elements C_words C_atom nA al nT tp nF fs nW Tt Tf Te Td k57 fu Wt Mk Cy x2 (nI p) (nI a) (nI s) x7 (nI e) (nI st) (nI m) = m_X2_before_112 (nI n) (nI no) (nI n0) R_size F Lt R_elements C_words C_atom nA al nT tp nF fs nW Tt Tf Te Td k57 (fu' + 1) Wt Mk Cy x2 (nI p) (nI a) (nI (cap (s + sm (fun k => HV no at0 tk (TT no sz el w at0 tk) p e a k * Wx no sz el w at0 tk (TT no sz el w at0 tk) p (sz p - (e + 1)) k j) m r))) x7 (nI e) (nI st) (nI st) := by
  have hn : n ≤ 40 := Ev.2.1
  intro r
  induction r with
  | zero =>
    intro m fu s h1 h2 h3 h4
    obtain ⟨fu, rfl⟩ : ∃ z, fu = z + 1 := ⟨fu - 1, by omega⟩
    have h1 : m = st := by omega
    subst h1
    exact ⟨fu, by rw [sm_0, show s + 0 = s from rfl, cap_id h4]⟩
  | succ r ih =>
    intro m fu s h1 h2 h3 h4
    obtain ⟨fu, rfl⟩ : ∃ z, fu = z + 1 := ⟨fu - 1, by omega⟩
    have e0 : m_X2_before_112 (nI n) (nI no) (nI n0) R_size F Lt R_elements C_words C_atom nA al nT tp nF fs nW Tt Tf Te Td k57 (fu + 1) Wt Mk Cy x2 (nI p) (nI a) (nI s) x7 (nI e) (nI st) (nI m) = m_X2_before_112 (nI n) (nI no) (nI n0) R_size F Lt R_elements C_words C_atom nA al nT tp nF fs nW Tt Tf Te Td k57 (fu + 1) Wt Mk Cy x2 (nI p) (nI a) (nI s) x7 (nI e) (nI st) (nI m) := rfl
    conv at e0 => rhs; unfold m_X2_before_112
    rw [if_neg (by rw [nI_le' (by omega) (by omega)]; omega), waysThrough_ok Ev H hp he hh hj hia h2 (by omega) hW', ob_i, plus_ok h4 (cap_le _), ob_i, cap_addr, nI_1] at e0
    obtain ⟨fu', z⟩ := ih (m + 1) fu (cap (s + HV no at0 tk (TT no sz el w at0 tk) p e a m * Wx no sz el w at0 tk (TT no sz el w at0 tk) p (sz p - (e + 1)) m j)) (by omega) (by omega) (by omega) (cap_le _)
    refine ⟨fu', (e0.trans z).trans ?_⟩
    rw [cap_addl, sm_s, Nat.add_assoc]
/-- the weights and the masks of the trees in the holes -/
def wtC (no : Nat) (sz : Nat → Nat) (el : Nat → Nat → Int64) (w : Nat → Int64) (at0 : Nat → Nat) (tk : Nat → Nat → Nat → Bool) (Tk : Nat → Int32) (Wt Mk : Nat → Int32) (p j W : Nat) (c : Cd) (q : Nat) : Prop := Wt q = nI (cap (W * Wx no sz el w at0 tk (TT no sz el w at0 tk) p (sz p - (c.2.2.1 + 1)) c.2.1 j)) ∧ ∀ o, o < no → bt' (Mk q) o = bt' (Tk (tyN sz p c.2.2.1)) o
set_option maxHeartbeats 1000000 in
theorem before57_ok (Ev : CEnv R_size R_elements F Lt no sz el w at0 tk n C_words C_atom nA nT nF nW) (H : chOK no sz el w at0 tk n al tp fs (fun _ _ => True)) (K : TKOK no sz tk Tk) (hn0 : its0.length = n0) (h40 : n0 ≤ 40) (hT : itT Tt Tf Te Td its0) (hdep : ∀ x, x ∈ its0 → x.2.2.2 < 2 ^ 30) {Cy : Nat → Int32} {p i0 j b dd W : Nat} (hp : p < no) (hj : j ≤ n) (hb : b < n0) (hWM : W ≤ 1000000000) (hW' : ∀ t, i0 ≤ t → t ≤ j → wyOK no sz el w at0 tk (TT no sz el w at0 tk) n Cy p t j) : ∀ (d i : Nat) (L : List Cd) (bc fu s : Nat) (Wt Mk : Nat → Int32) (x7 : Int32), d ≤ sz p → d < fu → s ≤ 1000000000 → i0 ≤ i → chs sz el w p j d i L → (¬ L = [] → x7 = nI bc) → b < bc → plc its0 bc (flat L) → bc + (flat L).length ≤ n0 → (∀ c, c ∈ L → hdC dd c.1 c.2.1 c.2.2.2.2.2 no) → Wt b = nI W →
    ∃ Wt' Mk', m_X2_before_57 (nI n) (nI no) (nI n0) R_size F Lt R_elements C_words C_atom nA al nT tp nF fs nW Tt Tf Te Td fu Wt Mk Cy (nI b) (nI p) (nI i) (nI s) x7 (nI (sz p - d)) = some (nI (cap (s + chO no sz el w at0 tk p j d i L)), Wt', Mk', Cy) ∧ chA (wtC no sz el w at0 tk Tk Wt' Mk' p j W) bc L ∧ ∀ q, (q < bc ∨ bc + (flat L).length ≤ q) → Wt' q = Wt q ∧ Mk' q = Mk q := by
  have Ev0 := Ev
  obtain ⟨G, hn, hw, ha, ha1, hA, hTT, hF, hW, hpp, hin, hmF, hmL⟩ := Ev
  have hno : no ≤ 30 := G.2.1
  obtain ⟨g1, g2, g3, g4⟩ := G.2.2 p hp
  intro d
  induction d with
  | zero =>
    intro i L bc fu s Wt Mk x7 hd hf hs hi hc hx hbb hpl hle hh hwt
    obtain ⟨fu, rfl⟩ : ∃ z, fu = z + 1 := ⟨fu - 1, by omega⟩
    obtain ⟨_, rfl⟩ := hc
    have e0 : m_X2_before_57 (nI n) (nI no) (nI n0) R_size F Lt R_elements C_words C_atom nA al nT tp nF fs nW Tt Tf Te Td (fu + 1) Wt Mk Cy (nI b) (nI p) (nI i) (nI s) x7 (nI (sz p - 0)) = m_X2_before_57 (nI n) (nI no) (nI n0) R_size F Lt R_elements C_words C_atom nA al nT tp nF fs nW Tt Tf Te Td (fu + 1) Wt Mk Cy (nI b) (nI p) (nI i) (nI s) x7 (nI (sz p - 0)) := rfl
    conv at e0 => rhs; unfold m_X2_before_57
    rw [size_ok (by omega), ob_i, g1, if_pos (by rw [nI_le' (by omega) (by omega)]; omega)] at e0
    refine ⟨Wt, Mk, e0.trans ?_, trivial, fun _ _ => ⟨rfl, rfl⟩⟩
    show _ = some (nI (cap (s + 0)), _)
    rw [Nat.add_zero, cap_id hs]
  | succ d ih =>
    intro i L bc fu s Wt Mk x7 hd hf hs hi hc hx hbb hpl hle hh hwt
    obtain ⟨fu, rfl⟩ : ∃ z, fu = z + 1 := ⟨fu - 1, by omega⟩
    have e0 : m_X2_before_57 (nI n) (nI no) (nI n0) R_size F Lt R_elements C_words C_atom nA al nT tp nF fs nW Tt Tf Te Td (fu + 1) Wt Mk Cy (nI b) (nI p) (nI i) (nI s) x7 (nI (sz p - (d + 1))) = m_X2_before_57 (nI n) (nI no) (nI n0) R_size F Lt R_elements C_words C_atom nA al nT tp nF fs nW Tt Tf Te Td (fu + 1) Wt Mk Cy (nI b) (nI p) (nI i) (nI s) x7 (nI (sz p - (d + 1))) := rfl
    conv at e0 => rhs; unfold m_X2_before_57
    rw [size_ok (by omega), ob_i, g1, if_neg (by rw [nI_le' (by omega) (by omega)]; omega), isHole_ok' G hp (by omega), ob_i] at e0
    unfold chs at hc
    have ed : sz p - (d + 1) + 1 = sz p - d := by omega
    by_cases q : el p (sz p - (d + 1)) = 95
    · rw [if_pos q] at hc
      obtain ⟨c, L', rfl, c1, c2, c3, c4, c5⟩ := hc
      have hx := hx (by simp)
      have efl : (flat (c :: L')).length = c.2.2.2.2.2.length + (flat L').length := by
        show (c.2.2.2.2.2 ++ flat L').length = _
        rw [List.length_append]
      have hcc := hh c (List.mem_cons_self ..)
      have hcc0 := hcc
      obtain ⟨cc, l, hcl, hc0, hlt⟩ := hcc
      have hlen : 1 ≤ c.2.2.2.2.2.length := by rw [hcl, List.length_cons]; omega
      have hpl0 : plc its0 bc (c.2.2.2.2.2 ++ flat L') := hpl
      obtain ⟨pl1, pl2⟩ := plc_app hpl0
      have hitem : its0[bc]? = some (cc, c.1, c.2.1, dd) := by
        rw [hcl] at pl1
        exact (plc_cons pl1).1
      have hend : Te bc = nI c.2.1 := (hT bc _ hitem).2.2.1
      rw [if_neg (by rw [bi_eq0]; simpa using q)] at e0
      unfold m_X7_size m_X7_end at e0
      rw [ob_i, hx, if_pos (by rw [nI_lt' (by omega) (by omega)]; omega), gd_nI (by omega) (by omega), nI_cl (by omega), ob_i, hend, nI_1] at e0
      obtain ⟨fu', z⟩ := mid_ok Ev0 H (Tt := Tt) (Tf := Tf) (Te := Te) (Td := Td) (n0 := n0) (m_X2_before_57 (nI n) (nI no) (nI n0) R_size F Lt R_elements C_words C_atom nA al nT tp nF fs nW Tt Tf Te Td fu) (Wt := Wt) (Mk := Mk) (x2 := nI b) (x7 := nI bc) (st := c.2.1) hp (show sz p - (d + 1) < sz p by omega) q hj hi c3 hW' (c.2.1 - (i + 1)) (i + 1) FU s (by omega) (by omega) (by rw [FU_v]; omega) hs
      have e1 := e0.trans z
      -- the end of the middles
      obtain ⟨tx, t1, t2⟩ := takes_bits Ev0 K hp (show sz p - (d + 1) < sz p by omega)
      obtain ⟨br, b1, b2⟩ := beside_ok (no := no) hn0 h40 hT hdep hcc0 hpl0 (fun x l' hx' => by
        cases L' with
        | nil => cases hx'
        | cons c' L'' =>
          obtain ⟨cc', l'', hcl', -, -⟩ := hh c' (List.mem_cons_of_mem _ (List.mem_cons_self ..))
          have hx' : c'.2.2.2.2.2 ++ flat L'' = x :: l' := hx'
          rw [hcl'] at hx'
          have := (List.cons.inj hx').1
          rw [← this]) (by
        have : (c.2.2.2.2.2 ++ flat L').length = (flat (c :: L')).length := rfl
        omega)
      have hwy := hW' c.2.1 (by omega) c3 (sz p - d) (by omega)
      rw [show sz p - (sz p - d) = d by omega] at hwy
      have e2 : m_X2_before_112 (nI n) (nI no) (nI n0) R_size F Lt R_elements C_words C_atom nA al nT tp nF fs nW Tt Tf Te Td (m_X2_before_57 (nI n) (nI no) (nI n0) R_size F Lt R_elements C_words C_atom nA al nT tp nF fs nW Tt Tf Te Td fu) (fu' + 1) Wt Mk Cy (nI b) (nI p) (nI i) (nI (cap (s + sm (fun k => HV no at0 tk (TT no sz el w at0 tk) p (sz p - (d + 1)) i k * Wx no sz el w at0 tk (TT no sz el w at0 tk) p (sz p - (sz p - (d + 1) + 1)) k j) (i + 1) (c.2.1 - (i + 1))))) (nI bc) (nI (sz p - (d + 1))) (nI c.2.1) (nI c.2.1) = m_X2_before_57 (nI n) (nI no) (nI n0) R_size F Lt R_elements C_words C_atom nA al nT tp nF fs nW Tt Tf Te Td fu (upd Wt bc (nI (cap (W * Wx no sz el w at0 tk (TT no sz el w at0 tk) p d c.2.1 j)))) (upd Mk bc tx) Cy (nI b) (nI p) (nI c.2.1) (nI (cap (s + sm (fun k => HV no at0 tk (TT no sz el w at0 tk) p (sz p - (d + 1)) i k * Wx no sz el w at0 tk (TT no sz el w at0 tk) p d k j) (i + 1) (c.2.1 - (i + 1))))) br (nI (sz p - d)) := by
        rw [show sz p - (sz p - (d + 1) + 1) = d by omega]
        generalize nI (cap (s + sm (fun k => HV no at0 tk (TT no sz el w at0 tk) p (sz p - (d + 1)) i k * Wx no sz el w at0 tk (TT no sz el w at0 tk) p d k j) (i + 1) (c.2.1 - (i + 1)))) = s6
        have y0 : m_X2_before_112 (nI n) (nI no) (nI n0) R_size F Lt R_elements C_words C_atom nA al nT tp nF fs nW Tt Tf Te Td (m_X2_before_57 (nI n) (nI no) (nI n0) R_size F Lt R_elements C_words C_atom nA al nT tp nF fs nW Tt Tf Te Td fu) (fu' + 1) Wt Mk Cy (nI b) (nI p) (nI i) s6 (nI bc) (nI (sz p - (d + 1))) (nI c.2.1) (nI c.2.1) = m_X2_before_112 (nI n) (nI no) (nI n0) R_size F Lt R_elements C_words C_atom nA al nT tp nF fs nW Tt Tf Te Td (m_X2_before_57 (nI n) (nI no) (nI n0) R_size F Lt R_elements C_words C_atom nA al nT tp nF fs nW Tt Tf Te Td fu) (fu' + 1) Wt Mk Cy (nI b) (nI p) (nI i) s6 (nI bc) (nI (sz p - (d + 1))) (nI c.2.1) (nI c.2.1) := rfl
        conv at y0 => rhs; unfold m_X2_before_112
        rw [if_pos (by rw [nI_le' (by omega) (by omega)]; omega), gd_nI (by omega) (by omega), nI_1, ed, waysFrom_ok G hn hW.1 hW.2 hp (by omega) (by omega), ob_i, hwy, nI_cl (by omega), hwt, times_ok hWM (cap_le _), ob_i, cap_mulr, gd_nI (by omega) (by omega), t1, ob_i, gd_nI (by omega) (by omega), b1, ob_i, nI_cl (by omega)] at y0
        refine y0.trans ?_
        unfold m_X2_before_205
        rw [nI_1, ed]
      have e3 := e1.trans e2
      obtain ⟨Wt', Mk', z1, z2, z3⟩ := ih c.2.1 L' (bc + c.2.2.2.2.2.length) fu _ (upd Wt bc (nI (cap (W * Wx no sz el w at0 tk (TT no sz el w at0 tk) p d c.2.1 j)))) (upd Mk bc tx) br (by omega) (by omega) (cap_le _) (by omega) c5 (fun hL => b2 (by
        intro z
        apply hL
        cases L' with
        | nil => rfl
        | cons c' L'' =>
          obtain ⟨cc', l'', hcl', -, -⟩ := hh c' (List.mem_cons_of_mem _ (List.mem_cons_self ..))
          have z : c'.2.2.2.2.2 ++ flat L'' = [] := z
          rw [hcl'] at z
          cases z)) (by omega) pl2 (by omega) (fun c' hc' => hh c' (List.mem_cons_of_mem _ hc')) (by rw [pk_un (by omega)]; exact hwt)
      rw [hx]
      refine ⟨Wt', Mk', (e3.trans z1).trans ?_, ⟨⟨?_, ?_⟩, z2⟩, fun q' hq' => ?_⟩
      · have : chO no sz el w at0 tk p j (d + 1) i (c :: L') = sm (fun k => HV no at0 tk (TT no sz el w at0 tk) p (sz p - (d + 1)) i k * Wx no sz el w at0 tk (TT no sz el w at0 tk) p d k j) (i + 1) (c.2.1 - (i + 1)) + chO no sz el w at0 tk p j d c.2.1 L' := by
          conv => lhs; unfold chO
          rw [if_pos q]
        rw [this, cap_addl, Nat.add_assoc]
      · rw [(z3 bc (Or.inl (by omega))).1, pk_us, c4, show sz p - (sz p - (d + 1) + 1) = d by omega]
      · intro o ho
        rw [(z3 bc (Or.inl (by omega))).2, pk_us, c4]
        exact t2 o ho
      · obtain ⟨y1, y2⟩ := z3 q' (by omega)
        rw [y1, y2, pk_un (by omega), pk_un (by omega)]
        exact ⟨rfl, rfl⟩
    · rw [if_neg q] at hc
      obtain ⟨c1, c2, c3⟩ := hc
      rw [if_pos (by rw [bi_eq0]; exact q)] at e0
      unfold m_X2_before_92 m_X2_before_205 at e0
      rw [nI_1, nI_1, ed] at e0
      obtain ⟨Wt', Mk', z1, z2, z3⟩ := ih (i + 1) L bc fu s Wt Mk x7 (by omega) (by omega) hs (by omega) c3 hx hbb hpl hle hh hwt
      refine ⟨Wt', Mk', (e0.trans z1).trans ?_, z2, z3⟩
      have : chO no sz el w at0 tk p j (d + 1) i L = chO no sz el w at0 tk p j d (i + 1) L := by
        cases L with
        | nil => unfold chO; rw [if_neg q]; cases d <;> rfl
        | cons c L => conv => lhs; unfold chO
                      rw [if_neg q]
      rw [this]
set_option maxHeartbeats 1000000 in
/-- one that stands over others -/
theorem before_ok (Ev : CEnv R_size R_elements F Lt no sz el w at0 tk n C_words C_atom nA nT nF nW) (H : chOK no sz el w at0 tk n al tp fs (fun _ _ => True)) (K : TKOK no sz tk Tk) (hn0 : its0.length = n0) (h40 : n0 ≤ 40) (hT : itT Tt Tf Te Td its0) (hdep : ∀ x, x ∈ its0 → x.2.2.2 < 2 ^ 30) {Cy Wt Mk : Nat → Int32} {p i j b t d dd W : Nat} {L : List Cd} (hp : p < no) (hij : i < j) (hj : j ≤ n) (hWM : W ≤ 1000000000) (hit : its0[b]? = some (p + 1, i, j, d)) (hc : chs sz el w p j (sz p) i L) (hpl : plc its0 (b + 1) (flat L)) (hle : b + 1 + (flat L).length ≤ n0) (hh : ∀ c, c ∈ L → hdC dd c.1 c.2.1 c.2.2.2.2.2 no) (hwt : Wt b = nI W) (hm : ∀ q, q < no → bt' (Mk b) q = bt' (Tk t) q) :
    ∃ Wt' Mk' Cy', m_X2_before Wt Mk R_size F Lt R_elements C_words C_atom nA al nT tp nF fs nW Cy (nI n) (nI no) Tt Tf Te Td (nI n0) (nI b) = some (nI (cap (at1 at0 i j + sm (fun q => if bt' (Tk t) q = true then TT no sz el w at0 tk q i j else 0) 0 p + chO no sz el w at0 tk p j (sz p) i L)), Wt', Mk', Cy') ∧ chA (wtC no sz el w at0 tk Tk Wt' Mk' p j W) (b + 1) L ∧ ∀ q, (q < b + 1 ∨ b + 1 + (flat L).length ≤ q) → Wt' q = Wt q ∧ Mk' q = Mk q := by
  have hno : no ≤ 30 := Ev.1.2.1
  obtain ⟨i1, i2, i3, i4⟩ := hT b _ hit
  have i1 : Tt b = nI p := by rw [i1]; exact topv_s p
  have i2 : Tf b = nI i := i2
  have i3 : Te b = nI j := i3
  obtain ⟨Cy', r1, r2⟩ := recall_ok Ev H hp hij hj Cy
  obtain ⟨Wt', Mk', z1, z2, z3⟩ := before57_ok Ev H K hn0 h40 hT hdep hp hj (show b < n0 by omega) hWM r2 (sz p) i L (b + 1) FU (cap (at1 at0 i j + sm (fun q => if bt' (Tk t) q = true then TT no sz el w at0 tk q i j else 0) 0 p)) Wt Mk (nI (b + 1)) (Nat.le_refl _) (by rw [FU_v]; have := (Ev.1.2.2 p hp).2.2.1; omega) (cap_le _) (Nat.le_refl _) hc (fun _ => rfl) (by omega) hpl hle hh hwt
  refine ⟨Wt', Mk', Cy', ?_, z2, z3⟩
  unfold m_X2_before m_X7_top m_X7_end m_X7_first
  rw [gd_nI (by omega) (by omega), gd_nI (by omega) (by omega), gd_nI (by omega) (by omega), nI_cl (by omega), ob_i, ob_i, ob_i, gd_nI (by omega) (by omega), i1, i2, i3, beforeOperator_ok Ev H hp hij hj hm, ob_i, r1, ob_i, nI_1]
  rw [Nat.sub_self] at z1
  refine z1.trans ?_
  rw [cap_addl]
/-- a tree, told at b, adds what it weighs -/
theorem rank_tree (Ev : CEnv R_size R_elements F Lt no sz el w at0 tk n C_words C_atom nA nT nF nW) (H : chOK no sz el w at0 tk n al tp fs (fun _ _ => True)) (K : TKOK no sz tk Tk) (hn0 : its0.length = n0) (h40 : n0 ≤ 40) (hT : itT Tt Tf Te Td its0) (hdep : ∀ x, x ∈ its0 → x.2.2.2 < 2 ^ 30) : ∀ (f t i j d : Nat) (its : List It) (v : Nat) (g : Bool) (b fu s W : Nat) (Wt Mk Cy : Nat → Int32), tr no sz el w at0 tk Tk f t i j d its v g → j ≤ n → plc its0 b its → b + its.length ≤ n0 → s ≤ 1000000000 → W ≤ 1000000000 → Wt b = nI W → (∀ q, q < no → bt' (Mk b) q = bt' (Tk t) q) →
    ∃ Wt' Mk' Cy', m_X2_rank_18 (nI n) (nI no) (nI n0) R_size F Lt R_elements C_words C_atom nA al nT tp nF fs nW Tt Tf Te Td (fu + its.length) Wt Mk Cy (nI s) (nI b) = m_X2_rank_18 (nI n) (nI no) (nI n0) R_size F Lt R_elements C_words C_atom nA al nT tp nF fs nW Tt Tf Te Td fu Wt' Mk' Cy' (nI (cap (s + W * v))) (nI (b + its.length)) ∧ ∀ q, (q < b ∨ b + its.length ≤ q) → Wt' q = Wt q ∧ Mk' q = Mk q := by
  have hno : no ≤ 30 := Ev.1.2.1
  intro f
  induction f with
  | zero => intro t i j d its v g b fu s W Wt Mk Cy h; exact h.elim
  | succ f ih =>
    intro t i j d its v g b fu s W Wt Mk Cy h hj hpl hle hs hWM hwt hm
    rcases h with ⟨h1, h2, h3, h4, h5⟩ | ⟨p, L, h1, h2, h3, h4, h5, h6, h7⟩
    · subst h3 h4
      have hle : b + 1 ≤ n0 := hle
      have hit := (plc_cons hpl).1
      have e0 : m_X2_rank_18 (nI n) (nI no) (nI n0) R_size F Lt R_elements C_words C_atom nA al nT tp nF fs nW Tt Tf Te Td (fu + 1) Wt Mk Cy (nI s) (nI b) = m_X2_rank_18 (nI n) (nI no) (nI n0) R_size F Lt R_elements C_words C_atom nA al nT tp nF fs nW Tt Tf Te Td (fu + 1) Wt Mk Cy (nI s) (nI b) := rfl
      conv at e0 => rhs; unfold m_X2_rank_18
      unfold m_X7_size m_X7_top at e0
      rw [ob_i, if_neg (by rw [nI_le' (by omega) (by omega)]; omega), gd_nI (by omega) (by omega), ob_i, nI_cl (by omega), (hT b _ hit).1, if_pos (show topv 0 = -1 from rfl)] at e0
      unfold m_X2_rank_55 at e0
      rw [nI_1] at e0
      refine ⟨Wt, Mk, Cy, ?_, fun _ _ => ⟨rfl, rfl⟩⟩
      rw [Nat.mul_zero, show s + 0 = s from rfl, cap_id hs]
      exact e0
    · subst h3
      rw [List.length_cons] at hle ⊢
      obtain ⟨hit, hpl2⟩ := plc_cons hpl
      have hh : ∀ c, c ∈ L → hdC (d + 1) c.1 c.2.1 c.2.2.2.2.2 no := fun c hc => (tr_head (h5 c hc)).1
      obtain ⟨Wt1, Mk1, Cy1, b1, b2, b3⟩ := before_ok (t := t) (Cy := Cy) Ev H K hn0 h40 hT hdep h1 h2 hj hWM hit h4 hpl2 (by omega) hh hwt hm
      have e0 : m_X2_rank_18 (nI n) (nI no) (nI n0) R_size F Lt R_elements C_words C_atom nA al nT tp nF fs nW Tt Tf Te Td (fu + ((flat L).length + 1)) Wt Mk Cy (nI s) (nI b) = m_X2_rank_18 (nI n) (nI no) (nI n0) R_size F Lt R_elements C_words C_atom nA al nT tp nF fs nW Tt Tf Te Td (fu + (flat L).length + 1) Wt Mk Cy (nI s) (nI b) := rfl
      conv at e0 => rhs; unfold m_X2_rank_18
      unfold m_X7_size m_X7_top at e0
      have htop : Tt b = nI p := by rw [(hT b _ hit).1]; exact topv_s p
      rw [ob_i, if_neg (by rw [nI_le' (by omega) (by omega)]; omega), gd_nI (by omega) (by omega), ob_i, nI_cl (by omega), htop, if_neg (by
        intro z
        have : nI p < 0 := by rw [z]; decide
        rw [i_0, nI_lt' (by omega) (by omega)] at this
        omega), gd_nI (by omega) (by omega), b1, ob_i, hwt, times_ok hWM (cap_le _), ob_i, plus_ok hs (cap_le _), ob_i, cap_addr] at e0
      unfold m_X2_rank_55 at e0
      rw [nI_1] at e0
      -- the trees in its holes
      have key : ∀ (L' : List Cd) (bc s' : Nat) (Wt' Mk' Cy' : Nat → Int32), (∀ c, c ∈ L' → c ∈ L) → (∀ c, c ∈ L' → c.2.1 ≤ j) → chA (wtC no sz el w at0 tk Tk Wt' Mk' p j W) bc L' → plc its0 bc (flat L') → bc + (flat L').length ≤ n0 → s' ≤ 1000000000 → ∃ Wt'' Mk'' Cy'', m_X2_rank_18 (nI n) (nI no) (nI n0) R_size F Lt R_elements C_words C_atom nA al nT tp nF fs nW Tt Tf Te Td (fu + (flat L').length) Wt' Mk' Cy' (nI s') (nI bc) = m_X2_rank_18 (nI n) (nI no) (nI n0) R_size F Lt R_elements C_words C_atom nA al nT tp nF fs nW Tt Tf Te Td fu Wt'' Mk'' Cy'' (nI (cap (s' + W * chC no sz el w at0 tk p j L'))) (nI (bc + (flat L').length)) ∧ ∀ q, (q < bc ∨ bc + (flat L').length ≤ q) → Wt'' q = Wt' q ∧ Mk'' q = Mk' q := by
        intro L'
        induction L' with
        | nil =>
          intro bc s' Wt' Mk' Cy' _ _ _ _ _ hs'
          refine ⟨Wt', Mk', Cy', ?_, fun _ _ => ⟨rfl, rfl⟩⟩
          show m_X2_rank_18 (nI n) (nI no) (nI n0) R_size F Lt R_elements C_words C_atom nA al nT tp nF fs nW Tt Tf Te Td (fu + 0) Wt' Mk' Cy' (nI s') (nI bc) = m_X2_rank_18 (nI n) (nI no) (nI n0) R_size F Lt R_elements C_words C_atom nA al nT tp nF fs nW Tt Tf Te Td fu Wt' Mk' Cy' (nI (cap (s' + W * 0))) (nI (bc + 0))
          rw [Nat.mul_zero, show s' + 0 = s' from rfl, cap_id hs']; rfl
        | cons c L' ihL =>
          intro bc s' Wt' Mk' Cy' hL hj' hch hpl' hle' hs'
          have efl : (flat (c :: L')).length = c.2.2.2.2.2.length + (flat L').length := by
            show (c.2.2.2.2.2 ++ flat L').length = _
            rw [List.length_append]
          obtain ⟨⟨w1, w2⟩, w3⟩ := hch
          obtain ⟨pl1, pl2⟩ := plc_app (show plc its0 bc (c.2.2.2.2.2 ++ flat L') from hpl')
          have htr := h5 c (hL c (List.mem_cons_self ..))
          obtain ⟨Wt2, Mk2, Cy2, y1, y2⟩ := ih _ _ _ _ _ _ _ bc (fu + (flat L').length) s' _ Wt' Mk' Cy' htr (by have := hj' c (List.mem_cons_self ..); omega) pl1 (by omega) hs' (cap_le _) w1 w2
          obtain ⟨Wt3, Mk3, Cy3, x1, x2⟩ := ihL (bc + c.2.2.2.2.2.length) _ Wt2 Mk2 Cy2 (fun c' hc' => hL c' (List.mem_cons_of_mem _ hc')) (fun c' hc' => hj' c' (List.mem_cons_of_mem _ hc')) (chA_mono (fun c' b' _ hb' _ hw' => by
            obtain ⟨u1, u2⟩ := y2 b' (Or.inr hb')
            unfold wtC
            rw [u1, u2]; exact hw') w3) pl2 (by omega) (cap_le (s' + cap (W * Wx no sz el w at0 tk (TT no sz el w at0 tk) p (sz p - (c.2.2.1 + 1)) c.2.1 j) * c.2.2.2.1))
          refine ⟨Wt3, Mk3, Cy3, ?_, fun q hq => ?_⟩
          · rw [efl, show fu + (c.2.2.2.2.2.length + (flat L').length) = fu + (flat L').length + c.2.2.2.2.2.length by omega]
            refine (y1.trans x1).trans ?_
            rw [cap_addl, show bc + c.2.2.2.2.2.length + (flat L').length = bc + (c.2.2.2.2.2.length + (flat L').length) by omega]
            have : cap (s' + cap (W * Wx no sz el w at0 tk (TT no sz el w at0 tk) p (sz p - (c.2.2.1 + 1)) c.2.1 j) * c.2.2.2.1 + W * chC no sz el w at0 tk p j L') = cap (s' + W * chC no sz el w at0 tk p j (c :: L')) := by
              show _ = cap (s' + W * (Wx no sz el w at0 tk (TT no sz el w at0 tk) p (sz p - (c.2.2.1 + 1)) c.2.1 j * c.2.2.2.1 + chC no sz el w at0 tk p j L'))
              generalize Wx no sz el w at0 tk (TT no sz el w at0 tk) p (sz p - (c.2.2.1 + 1)) c.2.1 j = x
              generalize c.2.2.2.1 = y
              generalize chC no sz el w at0 tk p j L' = z
              rw [Nat.mul_add, ← Nat.mul_assoc, Nat.add_comm s', Nat.add_assoc, ← cap_addl, cap_mull, cap_addl]
              congr 1
              omega
            rw [this]
          · obtain ⟨u1, u2⟩ := x2 q (by omega)
            obtain ⟨u3, u4⟩ := y2 q (by omega)
            rw [u1, u2, u3, u4]; exact ⟨rfl, rfl⟩
      have hjs : ∀ c, c ∈ L → c.2.1 ≤ j := by
        have : ∀ {d i : Nat} {L : List Cd}, chs sz el w p j d i L → ∀ c, c ∈ L → c.2.1 ≤ j := by
          intro d
          induction d with
          | zero => intro i L hc c hm; obtain ⟨_, rfl⟩ := hc; cases hm
          | succ d ihd =>
            intro i L hc c hm
            unfold chs at hc
            by_cases q : el p (sz p - (d + 1)) = 95
            · rw [if_pos q] at hc
              obtain ⟨c', L', rfl, a1, a2, a3, a4, a5⟩ := hc
              rcases List.mem_cons.mp hm with rfl | hm
              · exact a3
              · exact ihd a5 c hm
            · rw [if_neg q] at hc
              exact ihd hc.2.2 c hm
        exact this h4
      obtain ⟨Wt', Mk', Cy', k1, k2⟩ := key L (b + 1) _ Wt1 Mk1 Cy1 (fun _ h => h) hjs b2 hpl2 (by omega) (cap_le (s + W * cap (at1 at0 i j + sm (fun q => if bt' (Tk t) q = true then TT no sz el w at0 tk q i j else 0) 0 p + chO no sz el w at0 tk p j (sz p) i L)))
      refine ⟨Wt', Mk', Cy', (e0.trans k1).trans ?_, fun q hq => ?_⟩
      · rw [h6, chv_split (Nat.le_refl _) h4, show b + 1 + (flat L).length = b + ((flat L).length + 1) by omega]
        generalize at1 at0 i j + sm (fun q => if bt' (Tk t) q = true then TT no sz el w at0 tk q i j else 0) 0 p = x
        generalize chO no sz el w at0 tk p j (sz p) i L = y
        generalize chC no sz el w at0 tk p j L = z
        have : cap (cap (s + W * cap (x + y)) + W * z) = cap (s + W * (x + (y + z))) := by
          rw [cap_addl, Nat.add_comm s, Nat.add_assoc, ← cap_addl, cap_mulr, cap_addl]
          congr 1
          rw [← Nat.add_assoc x, Nat.mul_add W (x + y) z]
          omega
        rw [this]
      · obtain ⟨u1, u2⟩ := k2 q (by omega)
        obtain ⟨u3, u4⟩ := b3 q (by omega)
        rw [u1, u2, u3, u4]; exact ⟨rfl, rfl⟩
theorem rank_ok (Ev : CEnv R_size R_elements F Lt no sz el w at0 tk n C_words C_atom nA nT nF nW) (H : chOK no sz el w at0 tk n al tp fs (fun _ _ => True)) (K : TKOK no sz tk Tk) {f : Nat} {its : List It} {v : Nat} {g : Bool} (h40 : its.length ≤ 40) (hT : itT Tt Tf Te Td its) (htr : tr no sz el w at0 tk Tk f 0 0 n 0 its v g) (Wt Mk Cy : Nat → Int32) : ∃ Wt' Mk' Cy', m_X2_rank Wt Mk R_size F Lt R_elements C_words C_atom nA al nT tp nF fs nW Cy (nI n) (nI no) Tt Tf Te Td (nI its.length) = some (nI (cap v), Wt', Mk', Cy') := by
  have hno : no ≤ 30 := Ev.1.2.1
  have hd := (tr_head htr).2.2
  obtain ⟨fu, hfu⟩ : ∃ fu, FU = (fu + 1) + its.length := ⟨FU - 1 - its.length, by rw [FU_v]; omega⟩
  obtain ⟨Wt', Mk', Cy', k1, k2⟩ := rank_tree Ev H K rfl h40 hT (fun x hx => by have := hd x hx; omega) f 0 0 n 0 its v g 0 (fu + 1) 0 1 (upd Wt 0 1) (upd Mk 0 (-1)) Cy htr (Nat.le_refl _) (fun q _ => by rw [Nat.zero_add]) (by omega) (by omega) (by omega) pk_us (fun q hq => by rw [pk_us, K.1])
  unfold m_X2_rank
  have hg : ∀ r : Option (Int32 × (Nat → Int32) × (Nat → Int32) × (Nat → Int32)), gd 0 40 r = r := fun r => gd_nI (i := 0) (by omega) (by omega)
  rw [hg, hg, hfu]
  refine ⟨Wt', Mk', Cy', k1.trans ?_⟩
  rw [Nat.zero_add, Nat.zero_add, Nat.one_mul]
  have e0 : m_X2_rank_18 (nI n) (nI no) (nI its.length) R_size F Lt R_elements C_words C_atom nA al nT tp nF fs nW Tt Tf Te Td (fu + 1) Wt' Mk' Cy' (nI (cap v)) (nI its.length) = m_X2_rank_18 (nI n) (nI no) (nI its.length) R_size F Lt R_elements C_words C_atom nA al nT tp nF fs nW Tt Tf Te Td (fu + 1) Wt' Mk' Cy' (nI (cap v)) (nI its.length) := rfl
  conv at e0 => rhs; unfold m_X2_rank_18
  unfold m_X7_size at e0
  rw [ob_i, if_pos (by rw [nI_le' (by omega) (by omega)]; omega)] at e0
  exact e0
end RANKB
