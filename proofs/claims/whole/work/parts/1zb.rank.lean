/-! the class finds a told tree's number -/
/-- by the holes: what is before for this one alone, and what the trees in them weigh -/
def chO (no : Nat) (sz : Nat → Nat) (el : Nat → Nat → Int64) (w : Nat → Int64) (at0 : Nat → Nat) (tk : Nat → Nat → Nat → Bool) (o j : Nat) : Nat → Nat → List Cd → Nat
  | 0, _, _ => 0
  | d + 1, i, [] => if el o (sz o - (d + 1)) = 95 then 0 else chO no sz el w at0 tk o j d (i + 1) []
  | d + 1, i, c :: L => if el o (sz o - (d + 1)) = 95 then sm (fun k => HV no at0 tk (TT no sz el w at0 tk) o (sz o - (d + 1)) i k * Wx no sz el w at0 tk (TT no sz el w at0 tk) o d k j) (i + 1) (c.2.1 - (i + 1)) + chO no sz el w at0 tk o j d c.2.1 L else chO no sz el w at0 tk o j d (i + 1) (c :: L)
def chC (no : Nat) (sz : Nat → Nat) (el : Nat → Nat → Int64) (w : Nat → Int64) (at0 : Nat → Nat) (tk : Nat → Nat → Nat → Bool) (o j : Nat) : List Cd → Nat
  | [] => 0
  | c :: L => Wx no sz el w at0 tk (TT no sz el w at0 tk) o (sz o - (c.2.2.1 + 1)) c.2.1 j * c.2.2.2.1 + chC no sz el w at0 tk o j L
section RANKA
variable {no : Nat} {sz : Nat → Nat} {el : Nat → Nat → Int64} {w : Nat → Int64} {at0 : Nat → Nat} {tk : Nat → Nat → Nat → Bool} {Tk : Nat → Int32}
theorem chv_split {o j : Nat} : ∀ {d i : Nat} {L : List Cd}, d ≤ sz o → chs sz el w o j d i L → chv no sz el w at0 tk o j d i L = chO no sz el w at0 tk o j d i L + chC no sz el w at0 tk o j L := by
  intro d
  induction d with
  | zero =>
    intro i L _ h
    obtain ⟨_, rfl⟩ := h
    rfl
  | succ d ih =>
    intro i L hd h
    unfold chs at h
    by_cases q : el o (sz o - (d + 1)) = 95
    · rw [if_pos q] at h
      obtain ⟨c, L', rfl, h1, h2, h3, h4, h5⟩ := h
      unfold chv chO chC
      rw [if_pos q, if_pos q, ih (by omega) h5, h4, show sz o - (sz o - (d + 1) + 1) = d by omega]
      omega
    · rw [if_neg q] at h
      have := ih (by omega) h.2.2
      cases L with
      | nil =>
        unfold chv chO
        rw [if_neg q, if_neg q]; exact this
      | cons c L =>
        unfold chv chO
        rw [if_neg q, if_neg q]; exact this
/-- a tree's first item stands above the others -/
def hdC (dd : Nat) (i j : Nat) (its : List It) (no : Nat) : Prop := ∃ cc l, its = (cc, i, j, dd) :: l ∧ cc ≤ no ∧ ∀ x, x ∈ l → dd < x.2.2.2
theorem mem_flat : ∀ {L : List Cd} {x : It}, x ∈ flat L → ∃ c, c ∈ L ∧ x ∈ c.2.2.2.2.2 := by
  intro L
  induction L with
  | nil => intro x h; cases h
  | cons c L ih =>
    intro x h
    have h : x ∈ c.2.2.2.2.2 ++ flat L := h
    rcases List.mem_append.mp h with h | h
    · exact ⟨c, List.mem_cons_self .., h⟩
    · obtain ⟨c', h1, h2⟩ := ih h
      exact ⟨c', List.mem_cons_of_mem _ h1, h2⟩
theorem len_flat : ∀ {L : List Cd} {c : Cd}, c ∈ L → c.2.2.2.2.2.length ≤ (flat L).length := by
  intro L
  induction L with
  | nil => intro c h; cases h
  | cons x L ih =>
    intro c h
    show _ ≤ (x.2.2.2.2.2 ++ flat L).length
    rw [List.length_append]
    rcases List.mem_cons.mp h with rfl | h
    · omega
    · have := ih h; omega
theorem tr_head : ∀ {f t i j d : Nat} {its : List It} {v : Nat} {g : Bool}, tr no sz el w at0 tk Tk f t i j d its v g → hdC d i j its no ∧ i < j ∧ ∀ x, x ∈ its → d ≤ x.2.2.2 ∧ x.2.2.2 < d + its.length := by
  intro f
  induction f with
  | zero => intro t i j d its v g h; exact h.elim
  | succ f ih =>
    intro t i j d its v g h
    rcases h with ⟨h1, h2, h3, h4⟩ | ⟨p, L, h1, h2, h3, h4, h5, h6, h7⟩
    · refine ⟨⟨0, [], h3, Nat.zero_le _, fun x hx => by cases hx⟩, by omega, fun x hx => ?_⟩
      rw [h3] at hx ⊢
      have : x = (0, i, j, d) := by simpa using hx
      subst this
      exact ⟨Nat.le_refl _, by show d < d + 1; omega⟩
    · have key : ∀ x, x ∈ flat L → d + 1 ≤ x.2.2.2 ∧ x.2.2.2 < d + 1 + (flat L).length := by
        intro x hx
        obtain ⟨c, hc1, hc2⟩ := mem_flat hx
        have := (ih (h5 c hc1)).2.2 x hc2
        have hl := len_flat hc1
        omega
      refine ⟨⟨p + 1, flat L, h3, by omega, fun x hx => by have := key x hx; omega⟩, h2, fun x hx => ?_⟩
      rw [h3] at hx ⊢
      rw [List.length_cons]
      rcases List.mem_cons.mp hx with rfl | hx
      · show d ≤ d ∧ d < _; omega
      · have := key x hx; omega
def plc (its0 : List It) (b : Nat) (its : List It) : Prop := ∀ q, q < its.length → its0[b + q]? = its[q]?
theorem plc_app {its0 A B : List It} {b : Nat} (h : plc its0 b (A ++ B)) : plc its0 b A ∧ plc its0 (b + A.length) B := by
  constructor
  · intro q hq
    rw [h q (by rw [List.length_append]; omega), List.getElem?_append_left hq]
  · intro q hq
    rw [Nat.add_assoc, h (A.length + q) (by rw [List.length_append]; omega), List.getElem?_append_right (by omega), Nat.add_sub_cancel_left]
theorem plc_cons {its0 B : List It} {x : It} {b : Nat} (h : plc its0 b (x :: B)) : its0[b]? = some x ∧ plc its0 (b + 1) B := by
  constructor
  · have := h 0 (by rw [List.length_cons]; omega)
    rw [Nat.add_zero] at this
    rw [this]; rfl
  · intro q hq
    have := h (q + 1) (by rw [List.length_cons]; omega)
    rw [show b + 1 + q = b + (q + 1) by omega, this]; rfl
end RANKA
section RANK
variable {R_size : Nat → Int32} {R_elements : Nat → Int64} {F Lt : Nat → Int32} {no : Nat} {sz : Nat → Nat} {el : Nat → Nat → Int64} {w : Nat → Int64} {at0 : Nat → Nat} {tk : Nat → Nat → Nat → Bool} {n : Nat} {C_words : Nat → Int64} {C_atom : Nat → Int32} {nA nT nF nW : Nat} {al tp fs : Nat → Int32} {Tk : Nat → Int32} {Tt Tf Te Td : Nat → Int32} {n0 : Nat} {its0 : List It}
/-- the next beside -/
theorem beside_ok (hn0 : its0.length = n0) (h40 : n0 ≤ 40) (hT : itT Tt Tf Te Td its0) (hdep : ∀ x, x ∈ its0 → x.2.2.2 < 2 ^ 30) {b dd i j : Nat} {its rest : List It} (hc : hdC dd i j its no) (hp : plc its0 b (its ++ rest)) (hrest : ∀ x l, rest = x :: l → x.2.2.2 = dd) (hb : b + (its ++ rest).length ≤ n0) : ∃ r, m_X7_beside Td (nI n0) (nI b) = some r ∧ (¬ rest = [] → r = nI (b + its.length)) := by
  obtain ⟨cc, l, rfl, -, hl⟩ := hc
  have hb0 : b < n0 := by rw [List.length_append, List.length_cons] at hb; omega
  have dep : ∀ q, q < n0 → ∃ it, its0[q]? = some it ∧ Td q = nI it.2.2.2 ∧ it.2.2.2 < 2 ^ 30 := by
    intro q hq
    have hq' : q < its0.length := by omega
    refine ⟨its0[q], List.getElem?_eq_getElem hq', (hT q _ (List.getElem?_eq_getElem hq')).2.2.2, hdep _ (List.getElem_mem _)⟩
  have hbd : Td b = nI dd := by
    have := (plc_cons hp).1
    exact (hT b _ this).2.2.2
  have hdd : dd < 2 ^ 30 := by
    have := (plc_cons hp).1
    exact hdep _ (List.mem_of_getElem? this)
  unfold m_X7_beside
  have h := lpS (fun k q => m_X7_beside_4 (nI n0) Td k (nI b) (nI q)) n0 (fun q => decide ((its0[q]?).elim 0 (fun it => it.2.2.2) ≤ dd)) (fun q => some (nI q)) (some (nI n0))
    (fun k => by
      have e0 : m_X7_beside_4 (nI n0) Td (k + 1) (nI b) (nI n0) = m_X7_beside_4 (nI n0) Td (k + 1) (nI b) (nI n0) := rfl
      conv at e0 => rhs; unfold m_X7_beside_4
      rw [if_pos (by rw [nI_le' (by omega) (by omega)]; omega)] at e0
      exact e0)
    (fun k q hq => by
      have e0 : m_X7_beside_4 (nI n0) Td (k + 1) (nI b) (nI q) = m_X7_beside_4 (nI n0) Td (k + 1) (nI b) (nI q) := rfl
      conv at e0 => rhs; unfold m_X7_beside_4
      obtain ⟨it, d1, d2, d3⟩ := dep q hq
      rw [if_neg (by rw [nI_le' (by omega) (by omega)]; omega), gd_nI (by omega) (by omega), gd_nI (by omega) (by omega), nI_cl (by omega), nI_cl (by omega), d2, hbd, nI_1] at e0
      refine e0.trans ?_
      rw [d1]
      show _ = if decide (it.2.2.2 ≤ dd) = true then _ else _
      by_cases z : it.2.2.2 ≤ dd
      · rw [if_pos (by rw [nI_le' (by omega) (by omega)]; exact z), if_pos (by simpa using z)]
      · rw [if_neg (by rw [nI_le' (by omega) (by omega)]; exact z), if_neg (by simpa using z)])
    (n0 - (b + 1)) FU (b + 1) (by omega) (by rw [FU_v]; omega)
  rw [nI_1]
  refine ⟨(srch (fun q => decide ((its0[q]?).elim 0 (fun it => it.2.2.2) ≤ dd)) (b + 1) (n0 - (b + 1))).elim (nI n0) nI, ?_, ?_⟩
  · refine h.trans ?_
    cases srch (fun q => decide ((its0[q]?).elim 0 (fun it => it.2.2.2) ≤ dd)) (b + 1) (n0 - (b + 1)) <;> rfl
  · intro hr
    obtain ⟨x, l', hx⟩ : ∃ x l', rest = x :: l' := by
      cases rest with
      | nil => exact absurd rfl hr
      | cons x l' => exact ⟨x, l', rfl⟩
    have hxd := hrest x l' hx
    obtain ⟨p1, p2⟩ := plc_app hp
    rw [List.length_append] at hb
    have hrl : 1 ≤ rest.length := by rw [hx, List.length_cons]; omega
    have hat : its0[b + ((cc, i, j, dd) :: l).length]? = some x := by
      rw [hx] at p2
      exact (plc_cons p2).1
    rw [List.length_cons] at hb hat ⊢
    have e1 : srch (fun q => decide ((its0[q]?).elim 0 (fun it => it.2.2.2) ≤ dd)) (b + 1) (n0 - (b + 1)) = some (b + (l.length + 1)) := by
      cases hs : srch (fun q => decide ((its0[q]?).elim 0 (fun it => it.2.2.2) ≤ dd)) (b + 1) (n0 - (b + 1)) with
      | none =>
        have := srch_none.mp hs (b + (l.length + 1)) (by omega) (by omega)
        rw [hat] at this
        exfalso
        have : decide (x.2.2.2 ≤ dd) = false := this
        simp at this
        omega
      | some q =>
        obtain ⟨s1, s2, s3, s4⟩ := srch_some hs
        have hge : ¬ q < b + (l.length + 1) := by
          intro z
          have := p1 (q - b) (by rw [List.length_cons]; omega)
          rw [show b + (q - b) = q by omega] at this
          obtain ⟨k, hk⟩ : ∃ k, q - b = k + 1 := ⟨q - b - 1, by omega⟩
          rw [hk] at this
          have hkl : k < l.length := by omega
          have e2 : ((cc, i, j, dd) :: l)[k + 1]? = some l[k] := by
            show l[k]? = _
            exact List.getElem?_eq_getElem hkl
          rw [e2] at this
          rw [this] at s3
          have s3 : decide ((l[k]).2.2.2 ≤ dd) = true := s3
          have := hl _ (List.getElem_mem hkl)
          simp at s3
          omega
        by_cases z : q = b + (l.length + 1)
        · rw [z]
        · have := s4 (b + (l.length + 1)) (by omega) (by omega)
          rw [hat] at this
          exfalso
          have : decide (x.2.2.2 ≤ dd) = false := this
          simp at this
          omega
    rw [e1]; rfl
theorem beforeOperator_ok (E : CEnv R_size R_elements F Lt no sz el w at0 tk n C_words C_atom nA nT nF nW) (H : chOK no sz el w at0 tk n al tp fs (fun _ _ => True)) {p i j t : Nat} {x : Int32} (hp : p < no) (hij : i < j) (hj : j ≤ n) (hx : ∀ q, q < no → bt' x q = bt' (Tk t) q) : m_X2_beforeOperator C_atom nT tp (nI no) (nI p) (nI i) (nI j) x = some (nI (cap (at1 at0 i j + sm (fun q => if bt' (Tk t) q = true then TT no sz el w at0 tk q i j else 0) 0 p))) := by
  obtain ⟨G, hn, hw, ha, ha1, hA, hT, hF, hW, hpp, hin, hmF, hmL⟩ := E
  have hno : no ≤ 30 := G.2.1
  have h1 := at1_le ha1 i j
  unfold m_X2_beforeOperator
  rw [atoms_ok hn ha hij hj, ob_i]
  have h := lpP (σ := Nat) (fun k q s => m_X2_beforeOperator_14 (nI no) C_atom nT tp k (nI p) (nI i) (nI j) x (nI s) (nI q)) (fun r => r = some (nI (cap (at1 at0 i j + sm (fun q => if bt' (Tk t) q = true then TT no sz el w at0 tk q i j else 0) 0 p)))) p (fun q s => s = cap (at1 at0 i j + sm (fun q => if bt' (Tk t) q = true then TT no sz el w at0 tk q i j else 0) 0 q))
    (fun k s hs => by
      have e0 : m_X2_beforeOperator_14 (nI no) C_atom nT tp (k + 1) (nI p) (nI i) (nI j) x (nI s) (nI p) = m_X2_beforeOperator_14 (nI no) C_atom nT tp (k + 1) (nI p) (nI i) (nI j) x (nI s) (nI p) := rfl
      conv at e0 => rhs; unfold m_X2_beforeOperator_14
      rw [if_pos (by rw [nI_le' (by omega) (by omega)]; omega)] at e0
      exact e0.trans (by rw [hs]))
    (fun k q s hq hs => by
      right
      have e0 : m_X2_beforeOperator_14 (nI no) C_atom nT tp (k + 1) (nI p) (nI i) (nI j) x (nI s) (nI q) = m_X2_beforeOperator_14 (nI no) C_atom nT tp (k + 1) (nI p) (nI i) (nI j) x (nI s) (nI q) := rfl
      conv at e0 => rhs; unfold m_X2_beforeOperator_14
      rw [if_neg (by rw [nI_le' (by omega) (by omega)]; omega), hasBit_ok x (by omega), ob_i, hx q (by omega)] at e0
      unfold m_X2_beforeOperator_48 at e0
      rw [nI_1, topped_ok hn hno hT.1 hT.2 (by omega) hij hj, ob_i, ((H i j hij hj trivial).2 q (by omega)).1, plus_ok (by rw [hs]; exact cap_le _) TT_le, ob_i] at e0
      refine ⟨_, ?_, rfl⟩
      refine e0.trans ?_
      rw [sm_l, Nat.zero_add]
      by_cases z : bt' (Tk t) q = true
      · rw [if_neg (by rw [bi_eq0]; simpa using z), if_pos z, hs, cap_addl, Nat.add_assoc]
      · rw [if_pos (by rw [bi_eq0]; exact z), if_neg z, hs]; rfl)
    p FU 0 (at1 at0 i j) (by omega) (by rw [FU_v]; omega) (by rw [sm_0, Nat.add_zero, cap_id (by omega)])
  exact h
end RANK
