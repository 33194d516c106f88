/-! the ways of one operator, found again: class and reference -/
theorem i_lt_pred {i : Nat} (h : i < 2 ^ 31) : nI i - 1 < nI i := by
  by_cases q : i = 0
  · subst q; decide
  · rw [i_1, pk_sub (by omega), nI_lt' (by omega) (by omega)]; omega
section REST
variable {R_size : Nat → Int32} {R_elements : Nat → Int64} {F Lt : Nat → Int32} {no : Nat} {sz : Nat → Nat} {el : Nat → Nat → Int64} {w : Nat → Int64} {at0 : Nat → Nat} {tk : Nat → Nat → Nat → Bool} {n : Nat} {C_words : Nat → Int64} {C_atom : Nat → Int32} {nA nT nF nW : Nat}
set_option maxHeartbeats 1000000 in
theorem recall_ok (E : CEnv R_size R_elements F Lt no sz el w at0 tk n C_words C_atom nA nT nF nW) {al tp fs : Nat → Int32} (H : chOK no sz el w at0 tk n al tp fs (fun _ _ => True)) {o i j : Nat} (ho : o < no) (hij : i < j) (hj : j ≤ n) (W : Nat → Int32) :
    ∃ W', m_X0_recall C_words C_atom nA al nT tp nF fs nW W (nI n) (nI no) R_size F Lt R_elements (nI o) (nI i) (nI j) = some W' ∧ ∀ t, i ≤ t → t ≤ j → wyOK no sz el w at0 tk (TT no sz el w at0 tk) n W' o t j := by
  have E0 := E
  obtain ⟨G, hn, hw, ha, ha1, hA, hT, hF, hW, hp, hin, hmF, hmL⟩ := E
  have hno : no ≤ 30 := G.2.1
  obtain ⟨g1, g2, g3, g4⟩ := G.2.2 o ho
  obtain ⟨V, v1, v2, v3, -⟩ := openEnd_ok (w := w) (at0 := at0) (tk := tk) (T := TT no sz el w at0 tk) G hn hW.1 hW.2 (W := W) ho hj
  unfold m_X0_recall
  rw [v1, ob_i]
  have key := lpD (fun f k (s : Nat → Int32) => m_X0_recall_11 (nI n) (nI no) C_words C_atom nA al nT tp nF fs nW R_size F Lt R_elements f s (nI o) (nI i) (nI j) (nI (i + k) - 1)) (fun r => ∃ W', r = some W' ∧ ∀ t, i ≤ t → t ≤ j → wyOK no sz el w at0 tk (TT no sz el w at0 tk) n W' o t j) (fun k s => i + k ≤ j ∧ (∀ t, i + k ≤ t → t ≤ j → wyOK no sz el w at0 tk (TT no sz el w at0 tk) n s o t j) ∧ ∀ a, a < i + k → s (wyN n o (sz o) a) = nI 0) ?_ ?_ (j - i) FU V (by rw [FU_v]; omega) ⟨by omega, fun t h1 h2 => by
      have : t = j := by omega
      subst this; exact v2, fun a h => v3 a (by omega)⟩
  · rw [show i + (j - i) = j by omega] at key
    exact key
  · intro f s ⟨s0, s1, s2⟩
    refine ⟨s, ?_, fun t h1 h2 => s1 t (by omega) h2⟩
    show (if nI (i + 0) - 1 < nI i then _ else _) = _
    rw [Nat.add_zero, if_pos (i_lt_pred (by omega))]
  · intro f k s ⟨s0, s1, s2⟩
    right
    obtain ⟨W1, c1, c2, c3⟩ := cover_ok (w := w) (at0 := at0) (tk := tk) (T := TT no sz el w at0 tk) (C_words := C_words) (C_all := al) (C_firsts := fs) (C_ways := s) (nA := nA) (nF := nF) (nW := nW) (i := i + k) (j := j) G hn ho (by omega) hj hA.1 hA.2 hF.1 hF.2 hW.1 hW.2 hw (hp o ho).2 (hin o ho) (fun m h1 h2 => (H (i + k) m h1 (by omega) trivial).1) (fun h0 m h1 h2 => ((H (i + k) m h1 (by omega) trivial).2 o ho).2 h0) (fun t h1 h2 => s1 t (by omega) h2) (s2 (i + k) (by omega))
    have cl := coverLast_ok E0 (C_topped := tp) (C_ways := W1) (T := TT no sz el w at0 tk) (i := i + k) (j := j) ho (by omega) hj (fun p hp => ⟨((H (i + k) j (by omega) hj trivial).2 p hp).1, TT_le⟩) (y := -1) (fun p hp hb => by rw [bt_m1 (by omega)] at hb; cases hb)
    refine ⟨if el o (sz o - 1) = 95 then upd W1 (wyN n o (sz o - 1) (i + k)) (nI (HV no at0 tk (TT no sz el w at0 tk) o (sz o - 1) (i + k) j)) else W1, ?_, by omega, ?_, ?_⟩
    · show (if nI (i + (k + 1)) - 1 < nI i then _ else (Option.bind (m_X0_cover C_words nA al nF fs nW s (nI n) (nI no) R_size R_elements (nI o) (nI (i + (k + 1)) - 1) (nI j)) (fun r_2 => Option.bind (m_X0_coverLast C_atom nT tp nW r_2.2 (nI n) (nI no) R_size F Lt R_elements (nI o) (nI (i + (k + 1)) - 1) (nI j) (-1)) (fun r_4 => m_X0_recall_11 (nI n) (nI no) C_words C_atom nA al nT tp nF fs nW R_size F Lt R_elements f r_4 (nI o) (nI i) (nI j) ((nI (i + (k + 1)) - 1) + (-1)))))) = _
      rw [show i + (k + 1) = (i + k) + 1 by omega, nI_pred, if_neg (by rw [nI_lt' (by omega) (by omega)]; omega), c1, ob_i, cl, ob_i, nI_m1]
    · intro t h1 h2 e he
      show ((if el o (sz o - 1) = 95 then _ else _ : Nat → Int32)) (wyN n o e t) = _
      by_cases q : t = i + k
      · subst q
        by_cases hl : el o (sz o - 1) = 95
        · rw [if_pos hl]
          by_cases q2 : e = sz o - 1
          · subst q2
            rw [pk_us, show sz o - (sz o - 1) = 1 by omega, Wx_1 g2 hl (by omega)]
            rw [show cap (HV no at0 tk (TT no sz el w at0 tk) o (sz o - 1) (i + k) j) = HV no at0 tk (TT no sz el w at0 tk) o (sz o - 1) (i + k) j by unfold HV; exact cap_cap _]
          · rw [pk_un (fun z => q2 (wyN_inj (by omega) (by omega) (by omega) (by omega) z).2.1)]
            exact c2 e he (fun z => by omega)
        · rw [if_neg hl]
          exact c2 e he (fun z z2 => hl (by rw [show sz o - 1 = e by omega]; exact z2))
      · have h5 : W1 (wyN n o e t) = s (wyN n o e t) := c3 _ (fun e' he' z => q (wyN_inj (by omega) (by omega) he' (by omega) z).2.2)
        have h6 := s1 t (by omega) h2 e he
        by_cases hl : el o (sz o - 1) = 95
        · rw [if_pos hl, pk_un (fun z => q (wyN_inj (by omega) (by omega) (by omega) (by omega) z).2.2), h5]
          exact h6
        · rw [if_neg hl, h5]; exact h6
    · intro a ha'
      show ((if el o (sz o - 1) = 95 then _ else _ : Nat → Int32)) (wyN n o (sz o) a) = _
      have h5 : W1 (wyN n o (sz o) a) = s (wyN n o (sz o) a) := c3 _ (fun e' he' z => by have := (wyN_inj (by omega) (by omega) he' (by omega) z).2.2; omega)
      by_cases hl : el o (sz o - 1) = 95
      · rw [if_pos hl, pk_un (fun z => by have := (wyN_inj (by omega) (by omega) (by omega) (by omega) z).2.2; omega), h5]
        exact s2 a (by omega)
      · rw [if_neg hl, h5]; exact s2 a (by omega)
theorem waysFrom_ok (G : RG R_size R_elements (nI no) no sz el) {W : Nat → Int32} {o e t : Nat} (hn : n ≤ 40) (hW : no * 10 * (n + 1) ≤ nW) (hWb : nW ≤ 65536) (ho : o < no) (he : e ≤ 9) (ht : t ≤ n) : m_X0_waysFrom nW W (nI n) (nI o) (nI e) (nI t) = some (W (wyN n o e t)) := by
  have hno : no ≤ 30 := G.2.1
  have hl := wyN_lt (n := n) (no := no) ho he ht
  unfold m_X0_waysFrom
  rw [way_ok hn (by omega) he ht, ob_i, gd_nI (by omega) (by omega), nI_cl (by omega)]
/-- a hole that ends before mid -/
theorem waysThrough_ok (E : CEnv R_size R_elements F Lt no sz el w at0 tk n C_words C_atom nA nT nF nW) {al tp fs : Nat → Int32} (H : chOK no sz el w at0 tk n al tp fs (fun _ _ => True)) {W : Nat → Int32} {o e i j a m : Nat} (ho : o < no) (he : e < sz o) (hh : el o e = 95) (hj : j ≤ n) (hia : i ≤ a) (ham : a < m) (hmj : m ≤ j) (hW' : ∀ t, i ≤ t → t ≤ j → wyOK no sz el w at0 tk (TT no sz el w at0 tk) n W o t j) :
    m_X0_waysThrough nA al nF fs nW W (nI n) (nI no) R_size (nI o) (nI e) (nI a) (nI m) = some (nI (cap (HV no at0 tk (TT no sz el w at0 tk) o e a m * Wx no sz el w at0 tk (TT no sz el w at0 tk) o (sz o - (e + 1)) m j))) := by
  obtain ⟨G, hn, hw, ha, ha1, hA, hT, hF, hW, hp, hin, hmF, hmL⟩ := E
  have hno : no ≤ 30 := G.2.1
  obtain ⟨g1, g2, g3, g4⟩ := G.2.2 o ho
  have hl1 := wyN_lt (n := n) (no := no) ho (show e + 1 ≤ 9 by omega) (show m ≤ n by omega)
  have hl2 := wyN_lt (n := n) (no := no) ho (show e ≤ 9 by omega) (show a ≤ n by omega)
  have hHb : HV no at0 tk (TT no sz el w at0 tk) o e a m ≤ 1000000000 := by unfold HV; exact cap_le _
  unfold m_X0_waysThrough
  rw [nI_1, way_ok hn (by omega) (by omega) (by omega), ob_i, gd_nI (by omega) (by omega), nI_cl (by omega), size_ok (by omega), ob_i, g1, i_1, pk_sub (by omega)]
  rw [hW' m (by omega) hmj (e + 1) (by omega)]
  by_cases q : e + 1 = sz o
  · rw [if_pos (by rw [show e = sz o - 1 by omega]), show sz o - (e + 1) = 0 by omega]
    have hw0 : Wx no sz el w at0 tk (TT no sz el w at0 tk) o 0 m j = if m = j then 1 else 0 := rfl
    rw [hw0]
    by_cases q2 : m = j
    · subst q2
      rw [if_pos rfl, if_neg (by decide), way_ok hn (by omega) (by omega) (by omega), ob_i, gd_nI (by omega) (by omega), nI_cl (by omega), hW' a hia (by omega) e (by omega), show sz o - e = 1 by omega, Wx_1 g2 (by rw [show sz o - 1 = e by omega]; exact hh) ham, show sz o - 1 = e by omega, Nat.mul_one]
    · rw [if_neg q2, Nat.mul_zero, if_pos (by decide)]
      rfl
  · rw [if_neg (by rw [nI_eq' (by omega) (by omega)]; omega), span_ok (by omega) (by omega) (by omega), ob_i]
    by_cases q2 : e = 0
    · subst q2
      have hlt := tpN_lt (n := n) ham (show m ≤ n by omega) ho
      have et : spN a m * no + o = tpN no o a m := rfl
      rw [if_pos (show nI 0 = 0 from rfl), pk_mul, nI_add, et, gd_nI (by omega) (by omega), nI_cl (by omega), ((H a m ham (by omega) trivial).2 o ho).2 hh]
      unfold m_X0_waysThrough_89
      rw [times_ok hHb (cap_le _), ob_i, cap_mulr]
    · have hlt := spN_lt (n := n) ham (show m ≤ n by omega)
      rw [if_neg (by rw [i_0, nI_eq' (by omega) (by omega)]; exact q2), gd_nI (by omega) (by omega), nI_cl (by omega), (H a m ham (by omega) trivial).1, ← HV_all (hin o ho e he q2 q)]
      unfold m_X0_waysThrough_89
      rw [times_ok hHb (cap_le _), ob_i, cap_mulr]
end REST
section MREST
variable {C : Nat → Int32} {E : Nat → Int64} {no : Nat} {sz : Nat → Nat} {el : Nat → Nat → Int64} {w : Nat → Int64} {at0 : Nat → Nat} {tk : Nat → Nat → Nat → Bool}
/-- the reference's row of ways, from i to j -/
def rsOK (no : Nat) (sz : Nat → Nat) (el : Nat → Nat → Int64) (w : Nat → Int64) (at0 : Nat → Nat) (tk : Nat → Nat → Nat → Bool) (Rs : Nat → Int64) (o i j : Nat) : Prop := ∀ e m, e ≤ sz o → i ≤ m → m ≤ j → Rs (41 * e + (m - i)) = lN (cap (Wx no sz el w at0 tk (TT no sz el w at0 tk) o (sz o - e) m j))
set_option maxHeartbeats 1000000 in
theorem findRest_ok (G : RG C E (nI no) no sz el) {Tk : Nat → Int32} (K : TKOK no sz tk Tk) {Cw : Nat → Int64} {Wo Ih : Nat → Int32} {n c o i j : Nat} (hn : n ≤ 40) (hc : c ≤ 1) (ho : o < no) (hij : i < j) (hj : j ≤ n) (hw : ∀ k, k < n → Cw (40 * c + k) = w k) (hM : mcOK no sz el w at0 tk Tk n c Wo Ih (fun _ _ => True)) (Rs : Nat → Int64) :
    ∃ Rs', m_X9_findRest E C Cw Ih Rs (nI c) (nI o) (nI i) (nI j) = some Rs' ∧ rsOK no sz el w at0 tk Rs' o i j := by
  have hno : no ≤ 30 := G.2.1
  obtain ⟨g1, g2, g3, g4⟩ := G.2.2 o ho
  -- one element, all starts
  have L63 : ∀ (k55 : (Nat → Int64) → Int32 → Int32 → Int32 → Int32 → Int32 → Option (Nat → Int64)) (S : Nat → Int64) (e : Nat), e < sz o → (∀ m, i ≤ m → m ≤ j → S (41 * (e + 1) + (m - i)) = lN (cap (Wx no sz el w at0 tk (TT no sz el w at0 tk) o (sz o - (e + 1)) m j))) → ∃ S', m_X9_findRest_63 E C Cw Ih k55 FU S (nI c) (nI o) (nI i) (nI j) (nI e) (nI i) = k55 S' (nI c) (nI o) (nI i) (nI j) (nI e - 1) ∧ (∀ m, i ≤ m → m < j → S' (41 * e + (m - i)) = lN (cap (Wx no sz el w at0 tk (TT no sz el w at0 tk) o (sz o - e) m j))) ∧ (∀ q, (∀ m, i ≤ m → m < j → q ≠ 41 * e + (m - i)) → S' q = S q) := by
    intro k55 S e he hS
    obtain ⟨d, hd⟩ : ∃ d, sz o - e = d + 1 := ⟨sz o - e - 1, by omega⟩
    have hd2 : sz o - (e + 1) = d := by omega
    have hd3 : sz o - (d + 1) = e := by omega
    rw [hd2] at hS
    rw [hd]
    refine lpP (fun f a (s : Nat → Int64) => m_X9_findRest_63 E C Cw Ih k55 f s (nI c) (nI o) (nI i) (nI j) (nI e) (nI a)) (fun r => ∃ S', r = k55 S' (nI c) (nI o) (nI i) (nI j) (nI e - 1) ∧ (∀ m, i ≤ m → m < j → S' (41 * e + (m - i)) = lN (cap (Wx no sz el w at0 tk (TT no sz el w at0 tk) o (d + 1) m j))) ∧ (∀ q, (∀ m, i ≤ m → m < j → q ≠ 41 * e + (m - i)) → S' q = S q)) j (fun a s => i ≤ a ∧ (∀ m, i ≤ m → m < a → s (41 * e + (m - i)) = lN (cap (Wx no sz el w at0 tk (TT no sz el w at0 tk) o (d + 1) m j))) ∧ (∀ q, (∀ m, i ≤ m → m < j → q ≠ 41 * e + (m - i)) → s q = S q)) ?_ ?_ (j - i) FU i S (by omega) (by rw [FU_v]; omega) ⟨Nat.le_refl _, fun m h1 h2 => by omega, fun _ _ => rfl⟩
    · intro f s ⟨s0, s1, s2⟩
      refine ⟨s, ?_, s1, s2⟩
      show (if nI j ≤ nI j then (k55 s (nI c) (nI o) (nI i) (nI j) (nI e + (-1))) else _) = _
      rw [if_pos (by rw [nI_le' (by omega) (by omega)]; omega), nI_m1]
    · intro f a s ha ⟨s0, s1, s2⟩
      right
      have hs : ∀ m, i ≤ m → m ≤ j → s (41 * (e + 1) + (m - i)) = lN (cap (Wx no sz el w at0 tk (TT no sz el w at0 tk) o d m j)) := fun m h1 h2 => by rw [s2 _ (fun m' h3 h4 => by omega)]; exact hS m h1 h2
      have t207 : ∀ v : Int64, m_X9_findRest_207 E C Cw Ih k55 (m_X9_findRest_63 E C Cw Ih k55 f) s (nI c) (nI o) (nI i) (nI j) (nI e) (nI a) v = m_X9_findRest_63 E C Cw Ih k55 f (vp_updL s (41 * e + (a - i)) v) (nI c) (nI o) (nI i) (nI j) (nI e) (nI (a + 1)) := by
        intro v
        unfold m_X9_findRest_207
        rw [i_41, pk_mul, nI_add, pk_sub (by omega), show 41 * e + a - i = 41 * e + (a - i) by omega, gd_nI (by omega) (by omega), nI_cl (by omega), nI_1]
      have fin : ∀ t : Option (Nat → Int64), t = m_X9_findRest_63 E C Cw Ih k55 f (vp_updL s (41 * e + (a - i)) (lN (cap (Wx no sz el w at0 tk (TT no sz el w at0 tk) o (d + 1) a j)))) (nI c) (nI o) (nI i) (nI j) (nI e) (nI (a + 1)) → ∃ s', t = m_X9_findRest_63 E C Cw Ih k55 f s' (nI c) (nI o) (nI i) (nI j) (nI e) (nI (a + 1)) ∧ i ≤ a + 1 ∧ (∀ m, i ≤ m → m < a + 1 → s' (41 * e + (m - i)) = lN (cap (Wx no sz el w at0 tk (TT no sz el w at0 tk) o (d + 1) m j))) ∧ (∀ q, (∀ m, i ≤ m → m < j → q ≠ 41 * e + (m - i)) → s' q = S q) := by
        intro t ht
        refine ⟨_, ht, by omega, ?_, ?_⟩
        · intro m h1 h2
          by_cases q : m = a
          · subst q; exact pk_uLs
          · rw [pk_uLn (by omega)]; exact s1 m h1 (by omega)
        · intro q hq
          rw [pk_uLn (hq a s0 ha)]
          exact s2 q hq
      apply fin
      have e0 : m_X9_findRest_63 E C Cw Ih k55 (f + 1) s (nI c) (nI o) (nI i) (nI j) (nI e) (nI a) = m_X9_findRest_63 E C Cw Ih k55 (f + 1) s (nI c) (nI o) (nI i) (nI j) (nI e) (nI a) := rfl
      conv at e0 => rhs; unfold m_X9_findRest_63
      rw [if_neg (by rw [nI_le' (by omega) (by omega)]; omega), mHole_ok G ho he, ob_i] at e0
      refine e0.trans ?_
      by_cases hl : el o e = 95
      · rw [if_neg (by rw [bi_eq0]; simpa using hl), nI_1]
        have hty : tyN sz o e ≤ 2 * no := tyN_le hno ho
        have eW : Wx no sz el w at0 tk (TT no sz el w at0 tk) o (d + 1) a j = sm (fun m => HV no at0 tk (TT no sz el w at0 tk) o e a m * Wx no sz el w at0 tk (TT no sz el w at0 tk) o d m j) (a + 1) (j - a) := by
          show (if el o (sz o - (d + 1)) = 95 then sm (fun m => HV no at0 tk (TT no sz el w at0 tk) o (sz o - (d + 1)) a m * Wx no sz el w at0 tk (TT no sz el w at0 tk) o d m j) (a + 1) (j - a) else _) = _
          rw [hd3, if_pos hl]
        have key := lpP (fun g m (x : Nat) => m_X9_findRest_145 E C Cw Ih k55 (m_X9_findRest_63 E C Cw Ih k55 f) g s (nI c) (nI o) (nI i) (nI j) (nI e) (nI a) (lN x) (nI m)) (fun r => r = m_X9_findRest_207 E C Cw Ih k55 (m_X9_findRest_63 E C Cw Ih k55 f) s (nI c) (nI o) (nI i) (nI j) (nI e) (nI a) (lN (cap (Wx no sz el w at0 tk (TT no sz el w at0 tk) o (d + 1) a j)))) (j + 1) (fun m x => a < m ∧ x = cap (sm (fun m => HV no at0 tk (TT no sz el w at0 tk) o e a m * Wx no sz el w at0 tk (TT no sz el w at0 tk) o d m j) (a + 1) (m - (a + 1)))) ?_ ?_ (j - a) FU (a + 1) 0 (by omega) (by rw [FU_v]; omega) ⟨by omega, by rw [Nat.sub_self]; rfl⟩
        · refine Eq.trans key ?_
          exact t207 _
        · intro g x ⟨_, hx⟩
          show (if nI j < nI (j + 1) then _ else _) = _
          rw [if_pos (by rw [nI_lt' (by omega) (by omega)]; omega), hx, eW, show j + 1 - (a + 1) = j - a by omega]
        · intro g m x hm ⟨ham, hx⟩
          right
          have hxb : x ≤ 1000000000 := by rw [hx]; exact cap_le _
          have hHb : HV no at0 tk (TT no sz el w at0 tk) o e a m ≤ 1000000000 := by unfold HV; exact cap_le _
          have hWb := cap_le (Wx no sz el w at0 tk (TT no sz el w at0 tk) o d m j)
          have hmul := mul_le_MM hWb hHb
          have hI : Ih (mhN c (tyN sz o e) a (m - a)) = nI (HV no at0 tk (TT no sz el w at0 tk) o e a m) := by rw [(hM a m ham (by omega) trivial).2 _ hty, hv_HV K ho he]
          refine ⟨cap (x + cap (cap (Wx no sz el w at0 tk (TT no sz el w at0 tk) o d m j) * HV no at0 tk (TT no sz el w at0 tk) o e a m)), ?_, by omega, ?_⟩
          · have e1 : m_X9_findRest_145 E C Cw Ih k55 (m_X9_findRest_63 E C Cw Ih k55 f) (g + 1) s (nI c) (nI o) (nI i) (nI j) (nI e) (nI a) (lN x) (nI m) = m_X9_findRest_145 E C Cw Ih k55 (m_X9_findRest_63 E C Cw Ih k55 f) (g + 1) s (nI c) (nI o) (nI i) (nI j) (nI e) (nI a) (lN x) (nI m) := rfl
            conv at e1 => rhs; unfold m_X9_findRest_145
            rw [if_neg (by rw [nI_lt' (by omega) (by omega)]; omega), nI_1, i_41, pk_mul, nI_add, pk_sub (by omega), show 41 * (e + 1) + m - i = 41 * (e + 1) + (m - i) by omega, gd_nI (by omega) (by omega), nI_cl (by omega), mType_ok G ho he, ob_i, pk_sub (by omega), holeAt_ok hc (by omega) (by omega) (by omega), ob_i, hI, hs m (by omega) (by omega), nI_l (by omega), lN_mul, capped_ok (by omega), ob_i, lN_add, capped_ok (by have := cap_le (cap (Wx no sz el w at0 tk (TT no sz el w at0 tk) o d m j) * HV no at0 tk (TT no sz el w at0 tk) o e a m); omega), ob_i, nI_1] at e1
            exact e1
          · rw [show m + 1 - (a + 1) = (m - (a + 1)) + 1 by omega, sm_l, hx, cap_addl, cap_addr, show a + 1 + (m - (a + 1)) = m by omega, ← cap_addr, cap_mull, cap_addr, Nat.mul_comm (Wx no sz el w at0 tk (TT no sz el w at0 tk) o d m j)]
      · rw [if_pos (by rw [bi_eq0]; exact hl), i_40, i_9, pk_mul, pk_mul, nI_add, nI_add, gd_nI (by omega) (by omega), gd_nI (by omega) (by omega), nI_cl (by omega), nI_cl (by omega), hw a (by omega), Nat.mul_comm 9 o, g4 e he, nI_1, i_41, pk_mul, nI_add, nI_1, pk_sub (by omega), show 41 * (e + 1) + a + 1 - i = 41 * (e + 1) + (a + 1 - i) by omega]
        unfold m_X9_findRest_134
        rw [Wx_part (by rw [hd3]; exact hl), hd3]
        by_cases q : w a = el o e
        · rw [if_pos ((lg_cmp_eq _ _).mpr q), if_pos ⟨ha, q⟩, gd_nI (by omega) (by omega), nI_cl (by omega), hs (a + 1) (by omega) (by omega), t207]
        · rw [if_neg (fun z => q ((lg_cmp_eq _ _).mp z)), if_neg (fun z => q z.2), t207]
          rfl
  -- from the last element to the first
  have L55 : ∀ S : Nat → Int64, (∀ k, k < 410 → S k = if k = 41 * sz o + (j - i) then lN 1 else lN 0) → ∃ Rs', m_X9_findRest_55 E C Cw Ih FU S (nI c) (nI o) (nI i) (nI j) (nI (sz o) - 1) = some Rs' ∧ rsOK no sz el w at0 tk Rs' o i j := by
    intro S hS
    refine lpD (fun f k (s : Nat → Int64) => m_X9_findRest_55 E C Cw Ih f s (nI c) (nI o) (nI i) (nI j) (nI k - 1)) (fun r => ∃ Rs', r = some Rs' ∧ rsOK no sz el w at0 tk Rs' o i j) (fun k s => k ≤ sz o ∧ (∀ e m, k ≤ e → e ≤ sz o → i ≤ m → m ≤ j → s (41 * e + (m - i)) = lN (cap (Wx no sz el w at0 tk (TT no sz el w at0 tk) o (sz o - e) m j))) ∧ (∀ e m, e < k → i ≤ m → m ≤ j → s (41 * e + (m - i)) = lN 0)) ?_ ?_ (sz o) FU S (by rw [FU_v]; omega) ⟨Nat.le_refl _, ?_, ?_⟩
    · intro f s ⟨s0, s1, s2⟩
      exact ⟨s, rfl, fun e m h1 h2 h3 => s1 e m (by omega) h1 h2 h3⟩
    · intro f k s ⟨s0, s1, s2⟩
      right
      obtain ⟨S', h1, h2, h3⟩ := L63 (m_X9_findRest_55 E C Cw Ih f) s k (by omega) (fun m q1 q2 => s1 (k + 1) m (by omega) (by omega) q1 q2)
      refine ⟨S', ?_, by omega, ?_, ?_⟩
      · show (if nI (k + 1) - 1 < 0 then _ else (m_X9_findRest_63 E C Cw Ih (m_X9_findRest_55 E C Cw Ih f) FU s (nI c) (nI o) (nI i) (nI j) (nI (k + 1) - 1) (nI i))) = _
        rw [nI_pred, if_neg (by rw [i_0, nI_lt' (by omega) (by omega)]; omega)]
        exact h1
      · intro e m q1 q2 q3 q4
        by_cases q : e = k
        · subst q
          by_cases q5 : m < j
          · exact h2 m q3 q5
          · have : m = j := by omega
            subst this
            rw [h3 _ (fun m' h4 h5 => by omega), s2 e m (by omega) q3 q4]
            obtain ⟨d, hd⟩ : ∃ d, sz o - e = d + 1 := ⟨sz o - e - 1, by omega⟩
            rw [hd, Wx_end]; rfl
        · rw [h3 _ (fun m' h4 h5 => by omega)]
          exact s1 e m (by omega) q2 q3 q4
      · intro e m q1 q2 q3
        rw [h3 _ (fun m' h4 h5 => by omega)]
        exact s2 e m (by omega) q2 q3
    · intro e m h1 h2 h3 h4
      have : e = sz o := by omega
      subst this
      rw [hS _ (by omega), Nat.sub_self]
      show _ = lN (cap (if m = j then 1 else 0))
      by_cases q : m = j
      · subst q; rw [if_pos rfl, if_pos rfl]; rfl
      · rw [if_neg (by omega), if_neg q]; rfl
    · intro e m h1 h2 h3
      rw [hS _ (by omega), if_neg (by omega)]
  have L11 : ∃ S, m_X9_findRest_11 E C Cw Ih FU Rs (nI c) (nI o) (nI i) (nI j) (nI (sz o)) 0 = m_X9_findRest_55 E C Cw Ih FU S (nI c) (nI o) (nI i) (nI j) (nI (sz o) - 1) ∧ ∀ k, k < 410 → S k = if k = 41 * sz o + (j - i) then lN 1 else lN 0 := by
    refine lpP (fun f k (s : Nat → Int64) => m_X9_findRest_11 E C Cw Ih f s (nI c) (nI o) (nI i) (nI j) (nI (sz o)) (nI k)) (fun r => ∃ S, r = m_X9_findRest_55 E C Cw Ih FU S (nI c) (nI o) (nI i) (nI j) (nI (sz o) - 1) ∧ ∀ k, k < 410 → S k = if k = 41 * sz o + (j - i) then lN 1 else lN 0) 410 (fun k s => ∀ z, z < k → s z = lN 0) ?_ ?_ 410 FU 0 Rs (by omega) (by rw [FU_v]; omega) (fun z h => by omega)
    · intro f s hs
      refine ⟨vp_updL s (41 * sz o + (j - i)) (lN 1), ?_, ?_⟩
      · have ez : m_X9_findRest_11 E C Cw Ih (f + 1) s (nI c) (nI o) (nI i) (nI j) (nI (sz o)) (nI 410) = (gd (((41 * nI (sz o)) + nI j) - nI i) 410 (m_X9_findRest_55 E C Cw Ih FU (vp_updL s (((41 * nI (sz o)) + nI j) - nI i).toNatClampNeg 1) (nI c) (nI o) (nI i) (nI j) (nI (sz o) - 1))) := rfl
        rw [ez, i_41, pk_mul, nI_add, pk_sub (by omega), show 41 * sz o + j - i = 41 * sz o + (j - i) by omega, gd_nI (by omega) (by omega), nI_cl (by omega)]
        rfl
      · intro k hk
        by_cases q : k = 41 * sz o + (j - i)
        · rw [if_pos q, q]; exact pk_uLs
        · rw [if_neg q, pk_uLn q]; exact hs k hk
    · intro f k s hk hs
      right
      refine ⟨vp_updL s k (lN 0), ?_, ?_⟩
      · show (if 410 ≤ nI k then _ else (gd (nI k) 410 (m_X9_findRest_11 E C Cw Ih f (vp_updL s (nI k).toNatClampNeg 0) (nI c) (nI o) (nI i) (nI j) (nI (sz o)) (nI k + 1)))) = _
        rw [i_410, if_neg (by rw [nI_le' (by omega) (by omega)]; omega), gd_nI (by omega) (by omega), nI_cl (by omega), nI_1]
        rfl
      · intro z hz
        by_cases q : z = k
        · subst q; exact pk_uLs
        · rw [pk_uLn q]; exact hs z (by omega)
  obtain ⟨S, a1, a2⟩ := L11
  obtain ⟨Rs', b1, b2⟩ := L55 S a2
  refine ⟨Rs', ?_, b2⟩
  unfold m_X9_findRest
  rw [gd_nI (by omega) (by omega), nI_cl (by omega), g1, a1, b1]
end MREST
