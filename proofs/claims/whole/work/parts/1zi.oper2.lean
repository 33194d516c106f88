section OPER
variable {nn no : Nat} {sz : Nat → Nat} {el : Nat → Nat → Int64} {wy hm : Nat → Nat} {ar : Nat → Nat → Bool} {Rt Ti Rs Rh Rw F Lt C Nd Wy : Nat → Int32} {Re E : Nat → Int64} {Rn Ra Mn Ro O : Int32}
def elx (el : Nat → Nat → Int64) (no : Nat) (l : List Int64) : Nat → Nat → Int64 := fun o e => if o = no then wOf l e else el o e
theorem elx_s {l : List Int64} {e : Nat} : elx el no l no e = wOf l e := if_pos rfl
theorem elx_n {l : List Int64} {o e : Nat} (h : o ≠ no) : elx el no l o e = el o e := if_neg h
theorem RG_add (G : RG Rs Re Ro no sz el) {l : List Int64} (hl : 1 ≤ l.length ∧ l.length ≤ 9) (hno : no < 30) {Rs' : Nat → Int32} {Re' : Nat → Int64} {Ro' : Int32} (h0 : Ro' = nI (no + 1)) (h1 : Rs' no = nI l.length) (h2 : ∀ o, o < no → Rs' o = Rs o) (h3 : ∀ e, e < l.length → Re' (no * 9 + e) = wOf l e) (h4 : ∀ k, k < no * 9 → Re' k = Re k) : RG Rs' Re' Ro' (no + 1) (sN sz no l.length) (elx el no l) := by
  refine ⟨h0, by omega, fun o ho => ?_⟩
  by_cases z : o = no
  · subst z
    rw [sN_s]
    exact ⟨h1, hl.1, hl.2, fun e he => by rw [elx_s]; exact h3 e he⟩
  · obtain ⟨g1, g2, g3, g4⟩ := G.2.2 o (by omega)
    rw [sN_n z, h2 o (by omega)]
    exact ⟨g1, g2, g3, fun e he => by rw [elx_n z, h4 _ (by omega)]; exact g4 e he⟩
theorem rowOK_add (h : rowOK no sz el) {l : List Int64} (hr : rowB l.length (wOf l) = true) : rowOK (no + 1) (sN sz no l.length) (elx el no l) := by
  intro o ho
  by_cases z : o = no
  · subst z
    rw [sN_s]
    unfold rowB at hr
    rw [Bool.and_eq_true, Bool.and_eq_true] at hr
    obtain ⟨-, r2, r3⟩ := hr
    obtain ⟨e, -, e2, e3⟩ := anyB_iff.mp r3
    refine ⟨⟨e, by omega, ?_⟩, fun e he h1 h2 => ?_⟩
    · rw [elx_s]
      unfold ptE at e3
      simpa using e3
    · rw [elx_s] at h1 h2
      have : anyB (badE (wOf l)) 0 l.length = true := anyB_iff.mpr ⟨e + 1, by omega, by omega, by
        unfold badE
        rw [Nat.add_sub_cancel, h1, h2]
        simp⟩
      rw [this] at r2
      cases r2
  · obtain ⟨⟨e, e1, e2⟩, h2⟩ := h o (by omega)
    rw [sN_n z]
    exact ⟨⟨e, e1, by rw [elx_n z]; exact e2⟩, fun e he h1 h3 => by
      rw [elx_n z] at h1 h3
      exact h2 e he h1 h3⟩
set_option maxHeartbeats 1000000 in
theorem oper_ok {n : Nat} {f : Nat → Nat} {Xb Mt : Nat → Int32} (T : TX n f Xb Mt) (G : IG nn ar Rt Rn Ra Mn Ti) (H : IO no sz el wy hm Rs Rh Rw Re Ro O E C Nd Wy) (d1 d2 m1 m2 : Int32) (Xw Wd : Nat → Int64) (wc p0 p1 : Int32) : ∃ r Xw' Wd' wc', (m_X8_operator d1 d2 Xb Xw (nI n) Rt Rs Rh Rw F Lt Re Rn Ro p0 p1 = some (r, d1, d2, Xw', Rs, Rh, Rw, F, Lt, Re, Ro) ∧ m_X9_operator Mn O E C Nd Wy Mt (nI n) Wd wc m1 m2 p0 p1 = some (r, O, E, C, Nd, Wy, Wd', wc', m1, m2)) ∨ ∃ no' sz' el' wy' hm' Rs' Rh' Rw' F' Lt' Re' Ro' O' E' C' Nd' Wy', m_X8_operator d1 d2 Xb Xw (nI n) Rt Rs Rh Rw F Lt Re Rn Ro p0 p1 = some (r, 0, 0, Xw', Rs', Rh', Rw', F', Lt', Re', Ro') ∧ m_X9_operator Mn O E C Nd Wy Mt (nI n) Wd wc m1 m2 p0 p1 = some (r, O', E', C', Nd', Wy', Wd', wc', 0, 0) ∧ IO no' sz' el' wy' hm' Rs' Rh' Rw' Re' Ro' O' E' C' Nd' Wy' ∧ IF no' sz' el' wy' hm' ar F' Lt' := by
  obtain ⟨g1, g2, g3, g4, g5, g6, g7⟩ := G
  obtain ⟨hG, hM, hw, hw', hh, hh', hro⟩ := H
  have hno : no ≤ 30 := hG.2.1
  have hRo : Ro = nI no := hG.1
  have hO : O = nI no := hM.1
  unfold m_X8_operator m_X9_operator
  rw [g1, g2]
  rcases has_ok (p := p0) g3 with ⟨h1, h2⟩ | ⟨a, ha, rfl, h1, h2⟩
  · rw [h1, h2, ob_i, ob_i, if_pos rfl, if_pos rfl]
    exact ⟨_, _, _, _, Or.inl ⟨rfl, rfl⟩⟩
  · rw [h1, h2, ob_i, ob_i, if_neg (show ¬ (1 : Int32) = 0 by decide), if_neg (show ¬ (1 : Int32) = 0 by decide)]
    rcases pk_ix p1 (show 3 < 2 ^ 31 by omega) with h1 | h1 | ⟨wv, hwv, rfl⟩
    · rw [if_pos h1, if_pos h1]
      exact ⟨_, _, _, _, Or.inl ⟨rfl, rfl⟩⟩
    · by_cases z : p1 < 0
      · rw [if_pos z, if_pos z]
        exact ⟨_, _, _, _, Or.inl ⟨rfl, rfl⟩⟩
      · obtain ⟨j, hj, rfl⟩ := nI_of z
        rw [nI_le' (by omega) hj] at h1
        rw [if_neg z, if_neg z, if_neg (by rw [i_2, nI_le' hj (by omega)]; omega), if_neg (by rw [i_2, nI_le' hj (by omega)]; omega)]
        exact ⟨_, _, _, _, Or.inl ⟨rfl, rfl⟩⟩
    · rw [if_neg (nI_pos (show wv < 2 ^ 31 by omega)), if_neg (nI_pos (show wv < 2 ^ 31 by omega)), if_pos (by rw [i_2, nI_le' (by omega) (by omega)]; omega), if_pos (by rw [i_2, nI_le' (by omega) (by omega)]; omega)]
      have hsp := split_ok T Xw
      have hfw := findWords_ok T Wd wc
      cases hwo : wordsOf f n with
      | none =>
        rw [hwo] at hsp hfw
        obtain ⟨W, s1⟩ := hsp
        obtain ⟨W', c', s2⟩ := hfw
        rw [s1, s2, ob_i, ob_i]
        unfold m_X6_words
        rw [ob_i]
        have : m_X8_isOperatorRow 750 W (-1) = some 0 := by
          unfold m_X8_isOperatorRow
          rw [if_pos (by decide)]
        dsimp only
        rw [this, ob_i, if_pos rfl, if_pos rfl]
        exact ⟨_, _, _, _, Or.inl ⟨rfl, rfl⟩⟩
      | some l =>
        rw [hwo] at hsp hfw
        obtain ⟨W, s1, s3, s4⟩ := hsp
        obtain ⟨W', s2, s5⟩ := hfw
        rw [s1, s2, ob_i, ob_i]
        unfold m_X6_words
        rw [ob_i]
        dsimp only
        rw [opRow_ok s4 s3, ob_i, if_neg (show ¬ (1 : Int32) = 0 by decide), mRow_ok s5 s3, ob_i, ob_i]
        by_cases hr : rowB l.length (wOf l) = true
        · rw [if_neg (by rw [bi_eq0]; simpa using hr), if_neg (by rw [bi_eq0]; simpa using hr)]
          have hl : 1 ≤ l.length ∧ l.length ≤ 9 := by
            unfold rowB at hr
            rw [Bool.and_eq_true] at hr
            have := hr.1
            simpa using this
          have hfind : m_X4_find Rs Re Ro 750 W 0 (nI l.length) = some ((findN no sz el (wOf l) 0 l.length).elim (-1) nI) := by
            have := find_ok hG (n_row := 750) (row := W) (fr := 0) (c := l.length) (by omega) (by omega)
            rw [findN_congr (row' := wOf l) (fr' := 0) (fun e he => by rw [Nat.zero_add]; exact lat_w s4 he)] at this
            exact this
          rw [hfind, ob_i]
          have h41 := lpS (fun k o => m_X9_operator_41 (nI nn) (nI n) Mt k O E C Nd Wy W' (nI l.length) m1 m2 (nI a) (nI wv) (nI o)) no (fun o => sz o == l.length && isAtB sz el (wOf l) o 0) (fun _ => some (-6, O, E, C, Nd, Wy, W', nI l.length, m1, m2)) (if O = 30 then (some ((-4), O, E, C, Nd, Wy, W', nI l.length, m1, m2)) else (m_X9_operator_80 (nI nn) (nI n) Mt FU O E C Nd Wy W' (nI l.length) m1 m2 (nI a) (nI wv) 0))
            (fun k => by
              have e0 : m_X9_operator_41 (nI nn) (nI n) Mt (k + 1) O E C Nd Wy W' (nI l.length) m1 m2 (nI a) (nI wv) (nI no) = m_X9_operator_41 (nI nn) (nI n) Mt (k + 1) O E C Nd Wy W' (nI l.length) m1 m2 (nI a) (nI wv) (nI no) := rfl
              conv at e0 => rhs; unfold m_X9_operator_41
              exact e0.trans (if_pos (by rw [hO, nI_le' (by omega) (by omega)]; omega)))
            (fun k o ho => by
              have e0 : m_X9_operator_41 (nI nn) (nI n) Mt (k + 1) O E C Nd Wy W' (nI l.length) m1 m2 (nI a) (nI wv) (nI o) = m_X9_operator_41 (nI nn) (nI n) Mt (k + 1) O E C Nd Wy W' (nI l.length) m1 m2 (nI a) (nI wv) (nI o) := rfl
              conv at e0 => rhs; unfold m_X9_operator_41
              rw [mLike_ok hM s5 s3 hl.1 ho, ob_i, nI_1] at e0
              refine (e0.trans (if_neg (by rw [hO, nI_le' (by omega) (by omega)]; omega))).trans ?_
              by_cases z : (sz o == l.length && isAtB sz el (wOf l) o 0) = true
              · rw [if_neg (by rw [bi_eq0]; simpa using z), if_pos z]
              · rw [if_pos (by rw [bi_eq0]; exact z), if_neg z])
            no FU 0 (by omega) (by rw [FU_v]; omega)
          have h41 : m_X9_operator_41 (nI nn) (nI n) Mt FU O E C Nd Wy W' (nI l.length) m1 m2 (nI a) (nI wv) 0 = (findN no sz el (wOf l) 0 l.length).elim _ _ := h41
          rw [h41]
          cases hfN : findN no sz el (wOf l) 0 l.length with
          | some o =>
            unfold findN at hfN
            obtain ⟨-, f2, -, -⟩ := srch_some hfN
            have hneg : ¬ ((some o).elim (-1) nI : Int32) < 0 := nI_pos (show o < 2 ^ 31 by omega)
            rw [if_neg hneg, Option.elim_some]
            exact ⟨_, _, _, _, Or.inl ⟨rfl, rfl⟩⟩
          | none =>
            have hpos : ((none : Option Nat).elim (-1) nI : Int32) < 0 := by decide
            rw [if_pos hpos, Option.elim_none]
            unfold m_X4_operators
            rw [ob_i, hRo, hO, i_30]
            by_cases hq : no = 30
            · rw [if_neg (by rw [nI_lt' (by omega) (by omega)]; omega), if_pos (by rw [hq])]
              exact ⟨_, _, _, _, Or.inl ⟨rfl, rfl⟩⟩
            · rw [if_pos (by rw [nI_lt' (by omega) (by omega)]; omega), if_neg (by rw [nI_eq' (by omega) (by omega)]; exact hq)]
              unfold m_X8_forgetParsed
              rw [ob_i, ob_i]
              unfold m_X4_addOperator gc
              rw [i_9, pk_mul, nI_cl (by omega), nI_cl (by omega), nI_cl (by omega)]
              have c0 : (0 : Int32).toNatClampNeg = 0 := rfl
              rw [c0, if_neg (by
                intro z
                rcases z with z | z | z | z | z
                · exact absurd z (by decide)
                · exact nI_pos (by omega) z
                · exact nI_pos (by omega) z
                · omega
                · omega), gd_nI (by omega) (by omega), gd_nI (by omega) (by omega), gd_nI (by omega) (by omega), nI_1]
              have hG' : RG (upd Rs no (nI l.length)) (va_cpy W Re 0 (no * 9) l.length) (nI (no + 1)) (no + 1) (sN sz no l.length) (elx el no l) := RG_add hG hl (by omega) rfl pk_us (fun o ho => pk_un (by omega)) (fun e he => by
                rw [pk_cpy_in (by omega) (by omega), Nat.zero_add, Nat.add_sub_cancel_left]
                exact lat_w s4 he) (fun k hk => pk_cpy_out (by omega))
              have hwn : ∀ {R : Nat → Int32}, (∀ o, o < no → R o = nI (wy o) ∧ wy o ≤ 2) → ∀ o, o < no + 1 → upd R no (nI wv) o = nI (sN wy no wv o) ∧ sN wy no wv o ≤ 2 := by
                intro R hR o ho
                by_cases z : o = no
                · rw [z, pk_us, sN_s]; exact ⟨rfl, by omega⟩
                · rw [pk_un z, sN_n z]; exact hR o (by omega)
              have hhn : ∀ {R : Nat → Int32}, (∀ o, o < no → R o = nI (hm o) ∧ hm o < 16) → ∀ o, o < no + 1 → upd R no (nI a) o = nI (sN hm no a o) ∧ sN hm no a o < 16 := by
                intro R hR o ho
                by_cases z : o = no
                · rw [z, pk_us, sN_s]; exact ⟨rfl, by omega⟩
                · rw [pk_un z, sN_n z]; exact hR o (by omega)
              obtain ⟨F', L', t1, t2⟩ := settle_ok hG' (hwn hw) (hhn hh) g4 F Lt
              rw [t1, ob_i, ob_i]
              -- the reference's elements
              have loop := lpP (σ := Nat → Int64) (fun k e s => m_X9_operator_80 (nI nn) (nI n) Mt k (nI no) s C Nd Wy W' (nI l.length) m1 m2 (nI a) (nI wv) (nI e)) (fun r => ∃ E', r = some (nI no, nI (no + 1), E', upd C no (nI l.length), upd Nd no (nI a), upd Wy no (nI wv), W', nI l.length, 0, 0) ∧ (∀ e, e < l.length → E' (no * 9 + e) = wOf l e) ∧ ∀ k, k < no * 9 → E' k = E k) l.length (fun e s => (∀ e', e' < e → s (no * 9 + e') = wOf l e') ∧ ∀ k, k < no * 9 → s k = E k)
                (fun k s hs => by
                  have e0 : m_X9_operator_80 (nI nn) (nI n) Mt (k + 1) (nI no) s C Nd Wy W' (nI l.length) m1 m2 (nI a) (nI wv) (nI l.length) = m_X9_operator_80 (nI nn) (nI n) Mt (k + 1) (nI no) s C Nd Wy W' (nI l.length) m1 m2 (nI a) (nI wv) (nI l.length) := rfl
                  conv at e0 => rhs; unfold m_X9_operator_80
                  unfold m_X9_gone at e0
                  rw [if_pos (by rw [nI_le' (by omega) (by omega)]; omega), gd_nI (by omega) (by omega), gd_nI (by omega) (by omega), gd_nI (by omega) (by omega), ob_i, nI_1, nI_pred, nI_cl (by omega)] at e0
                  exact ⟨s, e0, hs.1, hs.2⟩)
                (fun k e s he hs => by
                  right
                  have e0 : m_X9_operator_80 (nI nn) (nI n) Mt (k + 1) (nI no) s C Nd Wy W' (nI l.length) m1 m2 (nI a) (nI wv) (nI e) = m_X9_operator_80 (nI nn) (nI n) Mt (k + 1) (nI no) s C Nd Wy W' (nI l.length) m1 m2 (nI a) (nI wv) (nI e) := rfl
                  conv at e0 => rhs; unfold m_X9_operator_80
                  rw [if_neg (by rw [nI_le' (by omega) (by omega)]; omega), gd_nI (by omega) (by omega), i_9, pk_mul, nI_add, gd_nI (by omega) (by omega), nI_cl (by omega), nI_cl (by omega), nI_1, Nat.mul_comm 9 no, lat_w s5 he] at e0
                  refine ⟨_, e0, fun e' he' => ?_, fun k hk => ?_⟩
                  · by_cases z : e' = e
                    · rw [z, pk_uLs]
                    · rw [pk_uLn (by omega)]; exact hs.1 e' (by omega)
                  · rw [pk_uLn (by omega)]; exact hs.2 k hk)
                l.length FU 0 E (by omega) (by rw [FU_v]; omega) ⟨fun e' h => by omega, fun _ _ => rfl⟩
              obtain ⟨E', y1, y2, y3⟩ := loop
              have y1 : m_X9_operator_80 (nI nn) (nI n) Mt FU (nI no) E C Nd Wy W' (nI l.length) m1 m2 (nI a) (nI wv) 0 = _ := y1
              rw [y1]
              refine ⟨nI no, W, W', nI l.length, Or.inr ⟨no + 1, sN sz no l.length, elx el no l, sN wy no wv, sN hm no a, _, _, _, _, _, _, _, _, _, _, _, _, rfl, rfl, ⟨hG', RG_add hM hl (by omega) rfl pk_us (fun o ho => pk_un (by omega)) y2 y3, hwn hw, hwn hw', hhn hh, hhn hh', rowOK_add hro hr⟩, t2⟩⟩
        · rw [if_pos (by rw [bi_eq0]; exact hr), if_pos (by rw [bi_eq0]; exact hr)]
          exact ⟨_, _, _, _, Or.inl ⟨rfl, rfl⟩⟩
end OPER
