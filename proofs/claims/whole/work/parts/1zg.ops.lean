/-! THE TWO SIDES: nodes, arrows, operators -/
def tkc (ar : Nat → Nat → Bool) (hm wy : Nat → Nat) (sz : Nat → Nat) (el : Nat → Nat → Int64) (o e p : Nat) : Bool := if e = 0 then tkF ar hm wy sz el o p else if e + 1 = sz o then tkL ar hm wy sz el o p else true
def arB (ar : Nat → Nat → Bool) (k : Nat) : Bool := ar (k / 16) (k % 16)
def rowOK (no : Nat) (sz : Nat → Nat) (el : Nat → Nat → Int64) : Prop := ∀ o, o < no → (∃ e, e < sz o ∧ ¬ el o e = 95) ∧ ∀ e, e + 1 < sz o → el o e = 95 → ¬ el o (e + 1) = 95
def IG (nn : Nat) (ar : Nat → Nat → Bool) (Rt : Nat → Int32) (Rn Ra Mn : Int32) (Ti : Nat → Int32) : Prop := Rn = nI nn ∧ Mn = nI nn ∧ nn ≤ 16 ∧ (∀ a b, a < 16 → b < 16 → bt' (Rt a) b = ar a b) ∧ (∀ a b, a < 16 → b < 16 → Ti (16 * a + b) = bi (ar a b = true)) ∧ (∀ x y, ar x y = true → x < nn ∧ y < nn) ∧ Ra = nI (cnt (arB ar) 256)
def IO (no : Nat) (sz : Nat → Nat) (el : Nat → Nat → Int64) (wy hm : Nat → Nat) (Rs Rh Rw : Nat → Int32) (Re : Nat → Int64) (Ro O : Int32) (E : Nat → Int64) (C Nd Wy : Nat → Int32) : Prop := RG Rs Re Ro no sz el ∧ RG C E O no sz el ∧ (∀ o, o < no → Rw o = nI (wy o) ∧ wy o ≤ 2) ∧ (∀ o, o < no → Wy o = nI (wy o) ∧ wy o ≤ 2) ∧ (∀ o, o < no → Rh o = nI (hm o) ∧ hm o < 16) ∧ (∀ o, o < no → Nd o = nI (hm o) ∧ hm o < 16) ∧ rowOK no sz el
def IF (no : Nat) (sz : Nat → Nat) (el : Nat → Nat → Int64) (wy hm : Nat → Nat) (ar : Nat → Nat → Bool) (F Lt : Nat → Int32) : Prop := ∀ o, o < no → mkB (F o) no (tkF ar hm wy sz el o) ∧ mkB (Lt o) no (tkL ar hm wy sz el o)
section OPS
variable {nn no : Nat} {sz : Nat → Nat} {el : Nat → Nat → Int64} {wy hm : Nat → Nat} {ar : Nat → Nat → Bool} {Rt Ti Rs Rh Rw F Lt C Nd Wy : Nat → Int32} {Re E : Nat → Int64} {Rn Ra Mn Ro O : Int32}
theorem rowOK_hs (G : RG Rs Re Ro no sz el) (h : rowOK no sz el) : ∀ o, o < no → (el o 0 = 95 → 2 ≤ sz o) ∧ (el o (sz o - 1) = 95 → 2 ≤ sz o) := by
  intro o ho
  have g := (G.2.2 o ho).2.1
  obtain ⟨⟨e, e1, e2⟩, -⟩ := h o ho
  constructor
  · intro z
    by_cases q : e = 0
    · rw [q] at e2; exact absurd z e2
    · omega
  · intro z
    by_cases q : e = sz o - 1
    · rw [q] at e2; exact absurd z e2
    · omega
theorem GrOK_of (G : RG Rs Re Ro no sz el) (h : rowOK no sz el) (f : IF no sz el wy hm ar F Lt) : GrOK F Lt no sz el (tkc ar hm wy sz el) := by
  refine ⟨rowOK_hs G h, ?_, ?_, ?_⟩
  · intro o ho e he h0 h1 p hp
    unfold tkc
    rw [if_neg h0, if_neg h1]
  · intro o ho
    exact (f o ho).1
  · intro o ho h2
    refine mkB_congr (f o ho).2 (fun q _ => ?_)
    unfold tkc
    rw [if_neg (by omega), if_pos (by omega)]
theorem TKOK_of {Tk : Nat → Int32} (G : RG C E O no sz el) (h0 : Tk 0 = -1) (h : ∀ o, o < no → mkB (Tk (1 + 2 * o)) no (tkF ar hm wy sz el o) ∧ mkB (Tk (2 + 2 * o)) no (tkL ar hm wy sz el o)) : TKOK no sz (tkc ar hm wy sz el) Tk := by
  have hno : no ≤ 30 := G.2.1
  refine ⟨h0, fun o e p ho he hp => ?_⟩
  unfold tkc tyN
  by_cases q : e = 0
  · rw [if_pos q, if_pos q, (h o ho).1 p (by omega)]; simp [hp]
  · rw [if_neg q, if_neg q]
    by_cases q2 : e + 1 = sz o
    · rw [if_pos q2, if_pos q2, (h o ho).2 p (by omega)]; simp [hp]
    · rw [if_neg q2, if_neg q2, h0, bt_m1 (by omega)]
theorem node_ok (G : IG nn ar Rt Rn Ra Mn Ti) : ∃ r nn' Rn' Mn', m_X8_node Rn = some (r, Rn') ∧ m_X9_node Mn = some (r, Mn') ∧ IG nn' ar Rt Rn' Ra Mn' Ti := by
  obtain ⟨g1, g2, g3, g4, g5, g6, g7⟩ := G
  unfold m_X8_node m_X9_node m_X4_nodes m_X4_addNode
  rw [g1, g2, ob_i, ob_i, i_16]
  by_cases q : nn = 16
  · rw [if_neg (by rw [nI_lt' (by omega) (by omega)]; omega), if_pos (by rw [q])]
    exact ⟨_, nn, _, _, rfl, rfl, rfl, rfl, g3, g4, g5, g6, g7⟩
  · rw [if_pos (by rw [nI_lt' (by omega) (by omega)]; omega), if_neg (by rw [nI_eq' (by omega) (by omega)]; exact q)]
    refine ⟨_, nn + 1, _, _, rfl, rfl, ?_, ?_, by omega, g4, g5, fun x y h => ?_, g7⟩
    · show nI nn + 1 = _; rw [nI_1]
    · rw [nI_1]
    · have := g6 x y h; omega
def upA (ar : Nat → Nat → Bool) (a b : Nat) (v : Bool) : Nat → Nat → Bool := fun x y => if x = a ∧ y = b then v else ar x y
theorem upA_s {a b : Nat} {v : Bool} : upA ar a b v a b = v := if_pos ⟨rfl, rfl⟩
theorem upA_n {a b x y : Nat} {v : Bool} (h : ¬ (x = a ∧ y = b)) : upA ar a b v x y = ar x y := if_neg h
theorem arB_s {a b : Nat} (hb : b < 16) : arB ar (16 * a + b) = ar a b := by
  unfold arB
  rw [show (16 * a + b) / 16 = a by omega, show (16 * a + b) % 16 = b by omega]
theorem arB_n {a b k : Nat} {v : Bool} (hb : b < 16) (hk : k ≠ 16 * a + b) : arB (upA ar a b v) k = arB ar k := by
  unfold arB
  rw [upA_n]
  intro ⟨h1, h2⟩
  omega
theorem has_ok {p : Int32} (h : nn ≤ 16) : (m_X4_hasNode (nI nn) p = some 0 ∧ m_X9_isNode (nI nn) p = some 0) ∨ ∃ a, a < nn ∧ p = nI a ∧ m_X4_hasNode (nI nn) p = some 1 ∧ m_X9_isNode (nI nn) p = some 1 := by
  unfold m_X4_hasNode m_X9_isNode
  rcases pk_ix p (show nn < 2 ^ 31 by omega) with h1 | h1 | ⟨a, h1, h2⟩
  · rw [if_pos h1]; exact Or.inl ⟨rfl, rfl⟩
  · by_cases q : p < 0
    · rw [if_pos q]; exact Or.inl ⟨rfl, rfl⟩
    · rw [if_neg q, if_pos h1]; exact Or.inl ⟨rfl, rfl⟩
  · subst h2
    rw [if_neg (nI_pos (by omega)), if_neg (by rw [nI_le' (by omega) (by omega)]; omega)]
    exact Or.inr ⟨a, h1, rfl, rfl, rfl⟩
theorem bt_not {b q : Nat} (hb : b < 32) (hq : q < 32) : bt' (((1 : Int32) <<< (nI b &&& 31)) ^^^ (-1)) q = !(decide (q = b)) := by
  have h1 := one_bit hb hq
  unfold bt' at h1 ⊢
  have e1 : (((1 : Int32) <<< (nI b &&& 31)) ^^^ (-1)).toBitVec = ((1 : Int32) <<< (nI b &&& 31)).toBitVec ^^^ (-1 : Int32).toBitVec := rfl
  rw [e1, BitVec.getLsbD_xor, h1]
  have h2 := bt_m1 hq
  unfold bt' at h2
  rw [h2]
  simp
set_option maxHeartbeats 1000000 in
theorem arrow_ok (G : IG nn ar Rt Rn Ra Mn Ti) (H : IO no sz el wy hm Rs Rh Rw Re Ro O E C Nd Wy) (K : IF no sz el wy hm ar F Lt) (d1 d2 m1 m2 : Int32) (sn wk : Nat → Int32) (p0 p1 : Int32) : ∃ r Rt' F' Lt' Ra' Ti' sn' wk', (m_X8_arrow d1 d2 Rt Rs Rh Rw F Lt Re Rn Ra Ro p0 p1 = some (r, d1, d2, Rt', F', Lt', Ra') ∧ m_X9_arrow Mn Ti m1 m2 sn wk p0 p1 = some (r, Ti', m1, m2, sn', wk') ∧ Rt' = Rt ∧ Ti' = Ti ∧ F' = F ∧ Lt' = Lt ∧ Ra' = Ra) ∨ (m_X8_arrow d1 d2 Rt Rs Rh Rw F Lt Re Rn Ra Ro p0 p1 = some (r, 0, 0, Rt', F', Lt', Ra') ∧ m_X9_arrow Mn Ti m1 m2 sn wk p0 p1 = some (r, Ti', 0, 0, sn', wk') ∧ ∃ ar', IG nn ar' Rt' Rn Ra' Mn Ti' ∧ IF no sz el wy hm ar' F' Lt') := by
  have G0 := G
  obtain ⟨g1, g2, g3, g4, g5, g6, g7⟩ := G
  unfold m_X8_arrow m_X9_arrow
  rw [g1, g2]
  rcases has_ok (p := p0) g3 with ⟨h1, h2⟩ | ⟨a, ha, rfl, h1, h2⟩
  · rw [h1, h2, ob_i, ob_i, if_pos rfl, if_pos rfl]
    exact ⟨_, _, _, _, _, _, _, _, Or.inl ⟨rfl, rfl, rfl, rfl, rfl, rfl, rfl⟩⟩
  · rw [h1, h2, ob_i, ob_i, if_neg (by decide), if_neg (by decide)]
    rcases has_ok (p := p1) g3 with ⟨h1, h2⟩ | ⟨b, hb, rfl, h1, h2⟩
    · rw [h1, h2, ob_i, ob_i, if_pos rfl, if_pos rfl]
      exact ⟨_, _, _, _, _, _, _, _, Or.inl ⟨rfl, rfl, rfl, rfl, rfl, rfl, rfl⟩⟩
    · rw [h1, h2, ob_i, ob_i, if_neg (by decide), if_neg (by decide)]
      have eA : m_X4_hasArrow Rt (nI a) (nI b) = some (bi (ar a b = true)) := by
        unfold m_X4_hasArrow
        rw [gd_nI (by omega) (by omega), nI_cl (by omega), hasBit_ok _ (by omega), ob_i, gb_bi, g4 a b (by omega) (by omega)]
      rw [eA, ob_i, i_16, pk_mul, nI_add, gd_nI (by omega) (by omega), nI_cl (by omega), g5 a b (by omega) (by omega)]
      by_cases q : ar a b = true
      · rw [if_neg (by rw [bi_eq0]; simpa using q), if_neg (by rw [bi_eq0]; simpa using q)]
        exact ⟨_, _, _, _, _, _, _, _, Or.inl ⟨rfl, rfl, rfl, rfl, rfl, rfl, rfl⟩⟩
      · have q : ar a b = false := by simpa using q
        rw [if_pos (by rw [bi_eq0, q]; decide), if_pos (by rw [bi_eq0, q]; decide)]
        obtain ⟨v, c1, c2, c3⟩ := reaches_ok g3 g4 g6 hb ha
        obtain ⟨v', s', w', l1, l2, l3⟩ := leads_ok g3 g5 g6 hb ha sn wk
        rw [c1, l1, ob_i, ob_i]
        dsimp only
        by_cases z : v = 0
        · have z' : v' = 0 := l3.mpr (c3.mp z)
          rw [if_pos z, if_pos z', gd_nI (by omega) (by omega)]
          unfold m_X4_addArrow
          rw [gd_nI (by omega) (by omega), gd_nI (by omega) (by omega), nI_cl (by omega)]
          have ht' : ∀ x y, x < 16 → y < 16 → bt' (upd Rt a (Rt a ||| ((1 : Int32) <<< (nI b &&& 31))) x) y = upA ar a b true x y := by
            intro x y hx hy
            by_cases zx : x = a
            · subst zx
              rw [pk_us, or_bit _ (by omega) (by omega), g4 x y hx hy]
              by_cases zy : y = b
              · rw [zy, upA_s]; simp
              · rw [upA_n (fun w => zy w.2)]; simp [zy]
            · rw [pk_un zx, upA_n (fun w => zx w.1)]; exact g4 x y hx hy
          obtain ⟨F', L', s1, s2⟩ := settle_ok H.1 H.2.2.1 H.2.2.2.2.1 ht' F Lt
          rw [s1, ob_i, ob_i]
          unfold m_X8_forgetParsed m_X9_gone
          rw [ob_i, ob_i]
          refine ⟨1, upd Rt a (Rt a ||| ((1 : Int32) <<< (nI b &&& 31))), F', L', Ra + 1, upd Ti (16 * a + b) 1, s', w', Or.inr ⟨rfl, rfl, upA ar a b true, ⟨rfl, rfl, g3, ht', ?_, ?_, ?_⟩, s2⟩⟩
          · intro x y hx hy
            by_cases zz : x = a ∧ y = b
            · rw [zz.1, zz.2, pk_us, upA_s, bi_t rfl]
            · rw [pk_un (by intro w; apply zz; constructor <;> omega), upA_n zz]; exact g5 x y hx hy
          · intro x y h
            by_cases zz : x = a ∧ y = b
            · rw [zz.1, zz.2]; exact ⟨ha, hb⟩
            · rw [upA_n zz] at h; exact g6 x y h
          · rw [g7, nI_1, cnt_add (S := arB ar) (T := arB (upA ar a b true)) (n := 256) (y := 16 * a + b) (by omega) (by rw [arB_s (by omega)]; exact q) (by rw [arB_s (by omega), upA_s]) (fun k _ hk => arB_n (by omega) hk)]
        · have z' : ¬ v' = 0 := fun y => z (c3.mpr (l3.mp y))
          rw [if_neg z, if_neg z']
          exact ⟨_, _, _, _, _, _, _, _, Or.inl ⟨rfl, rfl, rfl, rfl, rfl, rfl, rfl⟩⟩
set_option maxHeartbeats 1000000 in
theorem cut_ok (G : IG nn ar Rt Rn Ra Mn Ti) (H : IO no sz el wy hm Rs Rh Rw Re Ro O E C Nd Wy) (K : IF no sz el wy hm ar F Lt) (d1 d2 m1 m2 : Int32) (p0 p1 : Int32) : ∃ r Rt' F' Lt' Ra' Ti', (m_X8_cut d1 d2 Rt Rs Rh Rw F Lt Re Rn Ra Ro p0 p1 = some (r, d1, d2, Rt', F', Lt', Ra') ∧ m_X9_cut Mn Ti m1 m2 p0 p1 = some (r, Ti', m1, m2) ∧ Rt' = Rt ∧ Ti' = Ti ∧ F' = F ∧ Lt' = Lt ∧ Ra' = Ra) ∨ (m_X8_cut d1 d2 Rt Rs Rh Rw F Lt Re Rn Ra Ro p0 p1 = some (r, 0, 0, Rt', F', Lt', Ra') ∧ m_X9_cut Mn Ti m1 m2 p0 p1 = some (r, Ti', 0, 0) ∧ ∃ ar', IG nn ar' Rt' Rn Ra' Mn Ti' ∧ IF no sz el wy hm ar' F' Lt') := by
  obtain ⟨g1, g2, g3, g4, g5, g6, g7⟩ := G
  unfold m_X8_cut m_X9_cut
  rw [g1, g2]
  rcases has_ok (p := p0) g3 with ⟨h1, h2⟩ | ⟨a, ha, rfl, h1, h2⟩
  · rw [h1, h2, ob_i, ob_i, if_pos rfl, if_pos rfl]
    exact ⟨_, _, _, _, _, _, Or.inl ⟨rfl, rfl, rfl, rfl, rfl, rfl, rfl⟩⟩
  · rw [h1, h2, ob_i, ob_i, if_neg (by decide), if_neg (by decide)]
    rcases has_ok (p := p1) g3 with ⟨h1, h2⟩ | ⟨b, hb, rfl, h1, h2⟩
    · rw [h1, h2, ob_i, ob_i, if_pos rfl, if_pos rfl]
      exact ⟨_, _, _, _, _, _, Or.inl ⟨rfl, rfl, rfl, rfl, rfl, rfl, rfl⟩⟩
    · rw [h1, h2, ob_i, ob_i, if_neg (by decide), if_neg (by decide)]
      have eA : m_X4_hasArrow Rt (nI a) (nI b) = some (bi (ar a b = true)) := by
        unfold m_X4_hasArrow
        rw [gd_nI (by omega) (by omega), nI_cl (by omega), hasBit_ok _ (by omega), ob_i, gb_bi, g4 a b (by omega) (by omega)]
      rw [eA, ob_i, i_16, pk_mul, nI_add, gd_nI (by omega) (by omega), nI_cl (by omega), g5 a b (by omega) (by omega)]
      by_cases q : ar a b = true
      · rw [if_neg (by rw [bi_eq0]; simpa using q), if_neg (by rw [bi_eq0]; simpa using q), gd_nI (by omega) (by omega)]
        unfold m_X4_dropArrow
        rw [gd_nI (by omega) (by omega), gd_nI (by omega) (by omega), nI_cl (by omega)]
        have ht' : ∀ x y, x < 16 → y < 16 → bt' (upd Rt a (Rt a &&& (((1 : Int32) <<< (nI b &&& 31)) ^^^ (-1))) x) y = upA ar a b false x y := by
          intro x y hx hy
          by_cases zx : x = a
          · subst zx
            rw [pk_us, and_bit, bt_not (by omega) (by omega), g4 x y hx hy]
            by_cases zy : y = b
            · rw [zy, upA_s]; simp
            · rw [upA_n (fun w => zy w.2)]; simp [zy]
          · rw [pk_un zx, upA_n (fun w => zx w.1)]; exact g4 x y hx hy
        obtain ⟨F', L', s1, s2⟩ := settle_ok H.1 H.2.2.1 H.2.2.2.2.1 ht' F Lt
        rw [s1, ob_i, ob_i]
        unfold m_X8_forgetParsed m_X9_gone
        rw [ob_i, ob_i]
        have hc : cnt (arB ar) 256 = cnt (arB (upA ar a b false)) 256 + 1 := cnt_add (S := arB (upA ar a b false)) (T := arB ar) (n := 256) (y := 16 * a + b) (by omega) (by rw [arB_s (by omega), upA_s]) (by rw [arB_s (by omega)]; exact q) (fun k _ hk => (arB_n (by omega) hk).symm)
        refine ⟨1, upd Rt a (Rt a &&& (((1 : Int32) <<< (nI b &&& 31)) ^^^ (-1))), F', L', Ra - 1, upd Ti (16 * a + b) 0, Or.inr ⟨rfl, rfl, upA ar a b false, ⟨rfl, rfl, g3, ht', ?_, ?_, ?_⟩, s2⟩⟩
        · intro x y hx hy
          by_cases zz : x = a ∧ y = b
          · rw [zz.1, zz.2, pk_us, upA_s, bi_f (by decide)]
          · rw [pk_un (by intro w; apply zz; constructor <;> omega), upA_n zz]; exact g5 x y hx hy
        · intro x y h
          by_cases zz : x = a ∧ y = b
          · rw [zz.1, zz.2, upA_s] at h; cases h
          · rw [upA_n zz] at h; exact g6 x y h
        · rw [g7, hc, nI_pred]
      · have q : ar a b = false := by simpa using q
        rw [if_pos (by rw [bi_eq0, q]; decide), if_pos (by rw [bi_eq0, q]; decide)]
        exact ⟨_, _, _, _, _, _, Or.inl ⟨rfl, rfl, rfl, rfl, rfl, rfl, rfl⟩⟩
end OPS
