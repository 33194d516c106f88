/-! the reference finds a told tree's number: what is before -/
def kidC (Tw Tu Tel : Nat → Int32) (Tn : Nat → Int64) (b : Nat) (c : Cd) (q : Nat) : Prop := Tu q = nI b ∧ Tel q = nI c.2.2.1 ∧ Tw q = nI (c.2.1 - c.1) ∧ Tn q = lN (cap c.2.2.2.1) ∧ (∀ r, q < r → r < q + c.2.2.2.2.2.length → ∃ u, q ≤ u ∧ u < r ∧ Tu r = nI u) ∧ 1 ≤ c.2.2.2.2.2.length
theorem cap3 (s x y X : Nat) : cap (cap (s + cap (cap x * y)) + X) = cap (s + (y * x + X)) := by
  rw [cap_addl, cap_mull, Nat.add_comm s, Nat.add_assoc, cap_addl, Nat.mul_comm x y]
  congr 1
  omega
theorem cap4 (s x y : Nat) : cap (s + cap (cap x * cap y)) = cap (s + x * y) := by rw [cap_mull, cap_mulr, cap_addr]
section MBEFORE
variable {C : Nat → Int32} {E : Nat → Int64} {no : Nat} {sz : Nat → Nat} {el : Nat → Nat → Int64} {w : Nat → Int64} {at0 : Nat → Nat} {tk : Nat → Nat → Nat → Bool} {Tk : Nat → Int32} {Cw : Nat → Int64} {Ih To Tf Tw Tu Tel : Nat → Int32} {Tn : Nat → Int64} {Wo : Nat → Int32} {n : Nat}
theorem HV_le {o e i j : Nat} : HV no at0 tk (TT no sz el w at0 tk) o e i j ≤ 1000000000 := cap_le _
theorem less_ok (G : RG C E (nI no) no sz el) (K : TKOK no sz tk Tk) (hn : n ≤ 40) (hM : mcOK no sz el w at0 tk Tk n 1 Wo Ih (fun _ _ => True)) (k43 : (Nat → Int64) → Int32 → Int32 → Int32 → Int64 → Int32 → Int32 → Int32 → Option (Int64 × (Nat → Int64))) {Rs : Nat → Int64} {p e a i j m : Nat} {x1 x7 : Int32} (hp : p < no) (he : e < sz p) (hj : j ≤ n) (hia : i ≤ a) (hst : a + m ≤ j) (hR : rsOK no sz el w at0 tk Rs p i j) : ∀ (r l fu s : Nat), l + r = m → 1 ≤ l → r < fu → s ≤ 1000000000 → ∃ fu', m_X9_before_111 E C Cw Ih To Tf Tw Tu Tel Tn k43 fu Rs x1 (nI p) (nI i) (lN s) (nI a) x7 (nI e) (nI m) (nI l) = m_X9_before_111 E C Cw Ih To Tf Tw Tu Tel Tn k43 (fu' + 1) Rs x1 (nI p) (nI i) (lN (cap (s + sm (fun k => HV no at0 tk (TT no sz el w at0 tk) p e a k * Wx no sz el w at0 tk (TT no sz el w at0 tk) p (sz p - (e + 1)) k j) (a + l) r))) (nI a) x7 (nI e) (nI m) (nI m) := by
  have hno : no ≤ 30 := G.2.1
  have hty := tyN_le (sz := sz) (e := e) hno hp
  have hsz := (G.2.2 p hp).2.2.1
  intro r
  induction r with
  | zero =>
    intro l fu s h1 h2 h3 h4
    obtain ⟨fu, rfl⟩ : ∃ z, fu = z + 1 := ⟨fu - 1, by omega⟩
    have h1 : l = m := by omega
    subst h1
    exact ⟨fu, by rw [sm_0, show s + 0 = s from rfl, cap_id h4]⟩
  | succ r ih =>
    intro l fu s h1 h2 h3 h4
    obtain ⟨fu, rfl⟩ : ∃ z, fu = z + 1 := ⟨fu - 1, by omega⟩
    have hI : Ih (mhN 1 (tyN sz p e) a l) = nI (HV no at0 tk (TT no sz el w at0 tk) p e a (a + l)) := by
      have := (hM a (a + l) (by omega) (by omega) trivial).2 (tyN sz p e) hty
      rw [Nat.add_sub_cancel_left] at this
      rw [this, hv_HV K hp he]
    have hRs := hR (e + 1) (a + l) (by omega) (by omega) (by omega)
    have hH := HV_le (no := no) (sz := sz) (el := el) (w := w) (at0 := at0) (tk := tk) (o := p) (e := e) (i := a) (j := a + l)
    have hml := mul_le_MM (cap_le (Wx no sz el w at0 tk (TT no sz el w at0 tk) p (sz p - (e + 1)) (a + l) j)) hH
    have e0 : m_X9_before_111 E C Cw Ih To Tf Tw Tu Tel Tn k43 (fu + 1) Rs x1 (nI p) (nI i) (lN s) (nI a) x7 (nI e) (nI m) (nI l) = m_X9_before_111 E C Cw Ih To Tf Tw Tu Tel Tn k43 (fu + 1) Rs x1 (nI p) (nI i) (lN s) (nI a) x7 (nI e) (nI m) (nI l) := rfl
    conv at e0 => rhs; unfold m_X9_before_111
    rw [if_neg (by rw [nI_le' (by omega) (by omega)]; omega), nI_1, i_41, pk_mul, nI_add, nI_add, pk_sub (by omega), show 41 * (e + 1) + a + l - i = 41 * (e + 1) + (a + l - i) by omega, gd_nI (by omega) (by omega), nI_cl (by omega), mType_ok G hp he, ob_i, i_1, holeAt_ok (by omega) (by omega) (by omega) (by omega), ob_i, hI, hRs, nI_l (by omega), lN_mul, capped_ok (by omega), ob_i, lN_add, capped_ok (by have := cap_le (cap (Wx no sz el w at0 tk (TT no sz el w at0 tk) p (sz p - (e + 1)) (a + l) j) * HV no at0 tk (TT no sz el w at0 tk) p e a (a + l)); omega), ob_i, nI_add] at e0
    obtain ⟨fu', z⟩ := ih (l + 1) fu _ (by omega) (by omega) (by omega) (cap_le (s + cap (cap (Wx no sz el w at0 tk (TT no sz el w at0 tk) p (sz p - (e + 1)) (a + l) j) * HV no at0 tk (TT no sz el w at0 tk) p e a (a + l))))
    refine ⟨fu', (e0.trans z).trans ?_⟩
    rw [cap3, sm_s, show a + (l + 1) = a + l + 1 by omega]
/-- the tree in the hole is looked for -/
theorem kid_ok (k43 : (Nat → Int64) → Int32 → Int32 → Int32 → Int64 → Int32 → Int32 → Int32 → Option (Int64 × (Nat → Int64))) {Rs : Nat → Int64} {b e bc : Nat} {x2 x3 x6 : Int32} {x4 : Int64} (hb : bc < 760) (h1 : Tu bc = nI b) (h2 : Tel bc = nI e) : ∀ (r q fu : Nat), q + r = bc → r < fu → (∀ q', q ≤ q' → q' < bc → ¬ Tu q' = nI b ∨ ¬ Tel q' = nI e) → m_X9_before_70 E C Cw Ih To Tf Tw Tu Tel Tn k43 fu Rs (nI b) x2 x3 x4 x6 (nI q) (nI e) = m_X9_before_111 E C Cw Ih To Tf Tw Tu Tel Tn k43 FU Rs (nI b) x2 x3 x4 x6 (nI bc) (nI e) (Tw bc) 1 := by
  intro r
  induction r with
  | zero =>
    intro q fu hq hf hs
    obtain ⟨fu, rfl⟩ : ∃ z, fu = z + 1 := ⟨fu - 1, by omega⟩
    have hq : q = bc := by omega
    subst hq
    have e0 : m_X9_before_70 E C Cw Ih To Tf Tw Tu Tel Tn k43 (fu + 1) Rs (nI b) x2 x3 x4 x6 (nI q) (nI e) = m_X9_before_70 E C Cw Ih To Tf Tw Tu Tel Tn k43 (fu + 1) Rs (nI b) x2 x3 x4 x6 (nI q) (nI e) := rfl
    conv at e0 => rhs; unfold m_X9_before_70
    rw [gd_nI hb (by omega), nI_cl (by omega), if_pos h1, gd_nI hb (by omega), if_pos h2, gd_nI hb (by omega)] at e0
    exact e0
  | succ r ih =>
    intro q fu hq hf hs
    obtain ⟨fu, rfl⟩ : ∃ z, fu = z + 1 := ⟨fu - 1, by omega⟩
    have e0 : m_X9_before_70 E C Cw Ih To Tf Tw Tu Tel Tn k43 (fu + 1) Rs (nI b) x2 x3 x4 x6 (nI q) (nI e) = m_X9_before_70 E C Cw Ih To Tf Tw Tu Tel Tn k43 (fu + 1) Rs (nI b) x2 x3 x4 x6 (nI q) (nI e) := rfl
    conv at e0 => rhs; unfold m_X9_before_70
    unfold m_X9_before_93 at e0
    rw [gd_nI (by omega) (by omega), nI_cl (by omega), nI_1] at e0
    have nx := ih (q + 1) fu (by omega) (by omega) (fun q' z1 z2 => hs q' (by omega) z2)
    rcases hs q (Nat.le_refl _) (by omega) with z | z
    · rw [if_neg z, nx] at e0; exact e0
    · rw [gd_nI (by omega) (by omega), if_neg z, nx] at e0
      rw [e0]
      split <;> rfl
set_option maxHeartbeats 1000000 in
theorem before43_ok (G : RG C E (nI no) no sz el) (K : TKOK no sz tk Tk) (hn : n ≤ 40) (hM : mcOK no sz el w at0 tk Tk n 1 Wo Ih (fun _ _ => True)) {Rs : Nat → Int64} {p i j b : Nat} (hp : p < no) (hj : j ≤ n) (hR : rsOK no sz el w at0 tk Rs p i j) (hb : b < 760) : ∀ (d a : Nat) (L : List Cd) (bc q0 fu s : Nat), d ≤ sz p → d < fu → s ≤ 1000000000 → i ≤ a → a ≤ j → chs sz el w p j d a L → chA (kidC Tw Tu Tel Tn b) bc L → b < q0 → q0 ≤ bc → bc + (flat L).length ≤ 760 → (∀ q, q0 ≤ q → q < bc → ¬ Tu q = nI b ∨ ∃ e', Tel q = nI e' ∧ e' < sz p - d) → m_X9_before_43 E C Cw Ih To Tf Tw Tu Tel Tn fu Rs (nI b) (nI p) (nI i) (lN s) (nI a) (nI q0) (nI (sz p - d)) = some (lN (cap (s + chv no sz el w at0 tk p j d a L)), Rs) := by
  have hno : no ≤ 30 := G.2.1
  obtain ⟨g1, g2, g3, g4⟩ := G.2.2 p hp
  intro d
  induction d with
  | zero =>
    intro a L bc q0 fu s hd hf hs hia haj hc hk hbq hq hl hsk
    obtain ⟨fu, rfl⟩ : ∃ z, fu = z + 1 := ⟨fu - 1, by omega⟩
    obtain ⟨_, rfl⟩ := hc
    have e0 : m_X9_before_43 E C Cw Ih To Tf Tw Tu Tel Tn (fu + 1) Rs (nI b) (nI p) (nI i) (lN s) (nI a) (nI q0) (nI (sz p - 0)) = m_X9_before_43 E C Cw Ih To Tf Tw Tu Tel Tn (fu + 1) Rs (nI b) (nI p) (nI i) (lN s) (nI a) (nI q0) (nI (sz p - 0)) := rfl
    conv at e0 => rhs; unfold m_X9_before_43
    rw [gd_nI (by omega) (by omega), nI_cl (by omega), g1, if_pos (by rw [nI_le' (by omega) (by omega)]; omega)] at e0
    refine e0.trans ?_
    show _ = some (lN (cap (s + 0)), _)
    rw [show s + 0 = s from rfl, cap_id hs]
  | succ d ih =>
    intro a L bc q0 fu s hd hf hs hia haj hc hk hbq hq hl hsk
    obtain ⟨fu, rfl⟩ : ∃ z, fu = z + 1 := ⟨fu - 1, by omega⟩
    have ed : sz p - (d + 1) + 1 = sz p - d := by omega
    have e0 : m_X9_before_43 E C Cw Ih To Tf Tw Tu Tel Tn (fu + 1) Rs (nI b) (nI p) (nI i) (lN s) (nI a) (nI q0) (nI (sz p - (d + 1))) = m_X9_before_43 E C Cw Ih To Tf Tw Tu Tel Tn (fu + 1) Rs (nI b) (nI p) (nI i) (lN s) (nI a) (nI q0) (nI (sz p - (d + 1))) := rfl
    conv at e0 => rhs; unfold m_X9_before_43
    rw [gd_nI (by omega) (by omega), nI_cl (by omega), g1, if_neg (by rw [nI_le' (by omega) (by omega)]; omega), mHole_ok G hp (by omega), ob_i] at e0
    unfold chs at hc
    by_cases q : el p (sz p - (d + 1)) = 95
    · rw [if_pos q] at hc
      obtain ⟨c, L', rfl, c1, c2, c3, c4, c5⟩ := hc
      have efl : (flat (c :: L')).length = c.2.2.2.2.2.length + (flat L').length := by
        show (c.2.2.2.2.2 ++ flat L').length = _
        rw [List.length_append]
      obtain ⟨⟨k1, k2, k3, k4, k5, k6⟩, k7⟩ := hk
      rw [c4] at k2
      rw [if_neg (by rw [bi_eq0]; simpa using q), kid_ok (Tw := Tw) (m_X9_before_43 E C Cw Ih To Tf Tw Tu Tel Tn fu) (show bc < 760 by omega) k1 k2 (bc - q0) q0 FU (by omega) (by rw [FU_v]; omega) (fun q' z1 z2 => by
        rcases hsk q' z1 z2 with y | ⟨e', y1, y2⟩
        · exact Or.inl y
        · right
          rw [y1, nI_eq' (by omega) (by omega)]; omega), k3, c1] at e0
      obtain ⟨fu', z⟩ := less_ok (To := To) (Tf := Tf) (Tw := Tw) (Tu := Tu) (Tel := Tel) (Tn := Tn) (Cw := Cw) G K hn hM (m_X9_before_43 E C Cw Ih To Tf Tw Tu Tel Tn fu) (x1 := nI b) (x7 := nI bc) (m := c.2.1 - a) hp (show sz p - (d + 1) < sz p by omega) hj hia (by omega) hR (c.2.1 - a - 1) 1 FU s (by omega) (by omega) (by rw [FU_v]; omega) hs
      have e1 := e0.trans z
      have hRs := hR (sz p - d) c.2.1 (by omega) (by omega) c3
      rw [show sz p - (sz p - d) = d by omega] at hRs
      have hml := mul_le_MM (cap_le (Wx no sz el w at0 tk (TT no sz el w at0 tk) p d c.2.1 j)) (cap_le c.2.2.2.1)
      have e2 : ∀ x : Nat, x ≤ 1000000000 → m_X9_before_111 E C Cw Ih To Tf Tw Tu Tel Tn (m_X9_before_43 E C Cw Ih To Tf Tw Tu Tel Tn fu) (fu' + 1) Rs (nI b) (nI p) (nI i) (lN x) (nI a) (nI bc) (nI (sz p - (d + 1))) (nI (c.2.1 - a)) (nI (c.2.1 - a)) = m_X9_before_43 E C Cw Ih To Tf Tw Tu Tel Tn fu Rs (nI b) (nI p) (nI i) (lN (cap (x + Wx no sz el w at0 tk (TT no sz el w at0 tk) p d c.2.1 j * c.2.2.2.1))) (nI c.2.1) (nI bc) (nI (sz p - d)) := by
        intro x hx
        have y0 : m_X9_before_111 E C Cw Ih To Tf Tw Tu Tel Tn (m_X9_before_43 E C Cw Ih To Tf Tw Tu Tel Tn fu) (fu' + 1) Rs (nI b) (nI p) (nI i) (lN x) (nI a) (nI bc) (nI (sz p - (d + 1))) (nI (c.2.1 - a)) (nI (c.2.1 - a)) = m_X9_before_111 E C Cw Ih To Tf Tw Tu Tel Tn (m_X9_before_43 E C Cw Ih To Tf Tw Tu Tel Tn fu) (fu' + 1) Rs (nI b) (nI p) (nI i) (lN x) (nI a) (nI bc) (nI (sz p - (d + 1))) (nI (c.2.1 - a)) (nI (c.2.1 - a)) := rfl
        conv at y0 => rhs; unfold m_X9_before_111
        rw [if_pos (by rw [nI_le' (by omega) (by omega)]; omega), nI_1, ed, i_41, pk_mul, nI_add, nI_add, pk_sub (by omega), show 41 * (sz p - d) + a + (c.2.1 - a) - i = 41 * (sz p - d) + (c.2.1 - i) by omega, gd_nI (by omega) (by omega), gd_nI (by omega) (by omega), nI_cl (by omega), nI_cl (by omega), hRs, k4, lN_mul, capped_ok (by omega), ob_i, lN_add, capped_ok (by have := cap_le (cap (Wx no sz el w at0 tk (TT no sz el w at0 tk) p d c.2.1 j) * cap c.2.2.2.1); omega), ob_i, cap4, nI_add, show a + (c.2.1 - a) = c.2.1 by omega] at y0
        refine y0.trans ?_
        unfold m_X9_before_219
        rw [nI_1, ed]
      have e3 := e1.trans (e2 _ (cap_le _))
      have e4 := ih c.2.1 L' (bc + c.2.2.2.2.2.length) bc fu _ (by omega) (by omega) (cap_le (cap (s + sm (fun k => HV no at0 tk (TT no sz el w at0 tk) p (sz p - (d + 1)) a k * Wx no sz el w at0 tk (TT no sz el w at0 tk) p (sz p - (sz p - (d + 1) + 1)) k j) (a + 1) (c.2.1 - a - 1)) + Wx no sz el w at0 tk (TT no sz el w at0 tk) p d c.2.1 j * c.2.2.2.1)) (by omega) c3 c5 k7 (by omega) (by omega) (by omega) (fun q' z1 z2 => by
        by_cases y : q' = bc
        · subst y
          exact Or.inr ⟨_, k2, by omega⟩
        · obtain ⟨u, u1, u2, u3⟩ := k5 q' (by omega) z2
          left
          rw [u3, nI_eq' (by omega) (by omega)]; omega)
      refine (e3.trans e4).trans ?_
      have : chv no sz el w at0 tk p j (d + 1) a (c :: L') = sm (fun k => HV no at0 tk (TT no sz el w at0 tk) p (sz p - (d + 1)) a k * Wx no sz el w at0 tk (TT no sz el w at0 tk) p d k j) (a + 1) (c.2.1 - (a + 1)) + Wx no sz el w at0 tk (TT no sz el w at0 tk) p d c.2.1 j * c.2.2.2.1 + chv no sz el w at0 tk p j d c.2.1 L' := by
        conv => lhs; unfold chv
        rw [if_pos q]
      rw [this, show sz p - (sz p - (d + 1) + 1) = d by omega, show c.2.1 - a - 1 = c.2.1 - (a + 1) by omega, cap_addl, Nat.add_assoc, cap_addl, Nat.add_assoc, Nat.add_assoc]
    · rw [if_neg q] at hc
      obtain ⟨c1, c2, c3⟩ := hc
      rw [if_pos (by rw [bi_eq0]; exact q)] at e0
      unfold m_X9_before_219 at e0
      rw [nI_1, nI_1, ed] at e0
      have e4 := ih (a + 1) L bc q0 fu s (by omega) (by omega) hs (by omega) (by omega) c3 hk hbq hq hl (fun q' z1 z2 => by
        rcases hsk q' z1 z2 with y | ⟨e', y1, y2⟩
        · exact Or.inl y
        · exact Or.inr ⟨e', y1, by omega⟩)
      refine (e0.trans e4).trans ?_
      have : chv no sz el w at0 tk p j (d + 1) a L = chv no sz el w at0 tk p j d (a + 1) L := by
        cases L with
        | nil => conv => lhs; unfold chv
                 rw [if_neg q]
        | cons c L => conv => lhs; unfold chv
                      rw [if_neg q]
      rw [this]
theorem mbefore_ok (G : RG C E (nI no) no sz el) (K : TKOK no sz tk Tk) (hn : n ≤ 40) (hw : ∀ k, k < n → Cw (40 + k) = w k) (hM : mcOK no sz el w at0 tk Tk n 1 Wo Ih (fun _ _ => True)) {p i j b : Nat} {L : List Cd} (hp : p < no) (hij : i < j) (hj : j ≤ n) (hb : b < 760) (ho : To b = nI p) (hf : Tf b = nI i) (ht : Tw b = nI (j - i)) (hc : chs sz el w p j (sz p) i L) (hk : chA (kidC Tw Tu Tel Tn b) (b + 1) L) (hl : b + 1 + (flat L).length ≤ 760) (Rs : Nat → Int64) : ∃ Rs', m_X9_before E C Cw Ih Rs To Tf Tw Tu Tel Tn (nI b) = some (lN (cap (chv no sz el w at0 tk p j (sz p) i L)), Rs') := by
  obtain ⟨Rs', r1, r2⟩ := findRest_ok G K (c := 1) hn (by omega) hp hij hj (by rw [Nat.mul_one]; exact hw) hM Rs
  have g3 := (G.2.2 p hp).2.2.1
  refine ⟨Rs', ?_⟩
  unfold m_X9_before
  rw [gd_nI hb (by omega), gd_nI hb (by omega), gd_nI hb (by omega), nI_cl (by omega), ho, hf, ht, nI_add, show i + (j - i) = j by omega]
  have r1' : m_X9_findRest E C Cw Ih Rs 1 (nI p) (nI i) (nI j) = some Rs' := r1
  rw [r1', ob_i, nI_1]
  have := before43_ok (To := To) (Tf := Tf) (Cw := Cw) G K hn hM hp hj r2 hb (sz p) i L (b + 1) (b + 1) FU 0 (Nat.le_refl _) (by rw [FU_v]; omega) (by omega) (Nat.le_refl _) (by omega) hc hk (by omega) (Nat.le_refl _) hl (fun q z1 z2 => by omega)
  rw [Nat.sub_self, Nat.zero_add] at this
  exact this
end MBEFORE
