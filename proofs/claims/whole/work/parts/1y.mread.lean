/-! the reference reads a written tree -/
def stepM (no : Nat) (sz : Nat → Nat) (el : Nat → Nat → Int64) (Tk : Nat → Int32) (S : List En) (v : Int64) : Option (List En) := if v = 95 then some ((41, pos S, 0, 0, true, []) :: S) else stepR no sz el Tk S v
def rdM (no : Nat) (sz : Nat → Nat) (el : Nat → Nat → Int64) (Tk : Nat → Int32) : List Int64 → List En → Option (List En)
  | [], S => some S
  | v :: ws, S => (stepM no sz el Tk S v).bind (fun S' => rdM no sz el Tk ws S')
def toldM (no : Nat) (sz : Nat → Nat) (el : Nat → Nat → Int64) (Tk : Nat → Int32) (ws : List Int64) (S0 : List En) : Prop := ∃ S, rdM no sz el Tk ws S0 = some S ∧ hd95 S = true
/-- the lowest is an open bracket -/
def botO : List En → Bool
  | [] => false
  | e :: S => if S = [] then e.1 == 40 else botO S
def has41 (S : List En) : Prop := ∃ x, x ∈ S ∧ x.1 = 41
def badS (S : List En) : Prop := has41 S ∨ (¬ S = [] ∧ botO S = false ∧ hd95 S = false)
theorem botO_app {o : En} {rest : List En} : ∀ seg : List En, botO (seg ++ o :: rest) = botO (o :: rest) := by
  intro seg
  induction seg with
  | nil => rfl
  | cons e S ih =>
    show (if S ++ o :: rest = [] then _ else botO (S ++ o :: rest)) = _
    rw [if_neg (by simp), ih]
theorem botO_cons {e : En} {S : List En} (h : ¬ S = []) : botO (e :: S) = botO S := by
  show (if S = [] then _ else botO S) = _
  rw [if_neg h]
theorem hd95_2 {e : En} {S : List En} (h : ¬ S = []) : hd95 (e :: S) = false := by
  cases S with
  | nil => exact absurd rfl h
  | cons x S => rfl
theorem botO_nop : ∀ {S : List En}, botO S = true → 1 ≤ nop S := by
  intro S
  induction S with
  | nil => intro h; cases h
  | cons e S ih =>
    intro h
    show 1 ≤ (if e.1 = 40 then 1 else 0) + nop S
    by_cases q : S = []
    · subst q
      have h : (e.1 == 40) = true := h
      rw [if_pos (by simpa using h)]; omega
    · rw [botO_cons q] at h
      have := ih h
      omega
section MREAD
variable {C : Nat → Int32} {E : Nat → Int64} {no : Nat} {sz : Nat → Nat} {el : Nat → Nat → Int64} {w : Nat → Int64} {at0 : Nat → Nat} {tk : Nat → Nat → Nat → Bool} {Tk : Nat → Int32}
theorem shut_parts {S S' : List En} (h : shutS no sz el Tk S = some S') : ∃ seg o rest p, spl S = some (seg, o, rest) ∧ S = seg ++ o :: rest ∧ o.1 = 40 ∧ (∀ x, x ∈ seg → ¬ x.1 = 40) ∧ findN no sz el (rowOf seg.reverse) 0 seg.length = some p ∧ p < no ∧ sz p = seg.length ∧ (∀ e, e < sz p → el p e = rowOf seg.reverse e) ∧ S' = (95, o.2.1, pos S, p + 1, segf sz Tk p 0 seg.reverse, (p + 1, o.2.1, pos S, nop rest) :: flatA seg.reverse) :: rest := by
  unfold shutS at h
  cases hs : spl S with
  | none => rw [hs] at h; cases h
  | some r =>
    obtain ⟨seg, o, rest⟩ := r
    rw [hs] at h
    dsimp only [Option.bind] at h
    obtain ⟨a1, a2, a3⟩ := spl_ok hs
    cases hf : findN no sz el (rowOf seg.reverse) 0 seg.length with
    | none => rw [hf] at h; cases h
    | some p =>
      rw [hf] at h
      have h := Option.some.inj h
      have hf' := hf
      unfold findN at hf'
      obtain ⟨-, f2, f3, -⟩ := srch_some hf'
      rw [Bool.and_eq_true] at f3
      have fe := isAtB_iff.mp f3.2
      exact ⟨seg, o, rest, p, rfl, a1, a2, a3, hf, by omega, by simpa using f3.1, fun e he => by rw [fe e he, Nat.zero_add], h.symm⟩
theorem shut_41 (h41 : ∀ o e, o < no → e < sz o → ¬ el o e = 41) {S S' : List En} (h : shutS no sz el Tk S = some S') (hh : has41 S) : has41 S' := by
  obtain ⟨seg, o, rest, p, -, a1, a2, a3, -, a4, a5, a6, rfl⟩ := shut_parts h
  obtain ⟨x, hx, h1⟩ := hh
  rw [a1] at hx
  rcases List.mem_append.mp hx with hx | hx
  · exfalso
    obtain ⟨k, hk⟩ := List.mem_iff_getElem?.mp (List.mem_reverse.mpr hx)
    obtain ⟨z, -⟩ := List.getElem?_eq_some_iff.mp hk
    rw [List.length_reverse] at z
    have := a6 k (by omega)
    unfold rowOf at this
    rw [hk] at this
    exact h41 p k a4 (by omega) (this.trans h1)
  · rcases List.mem_cons.mp hx with rfl | hx
    · rw [a2] at h1; exact absurd h1 (by decide)
    · exact ⟨x, List.mem_cons_of_mem _ hx, h1⟩
/-- a step puts one more on, or shuts -/
theorem stepM_cases {S S' : List En} {v : Int64} (h : stepM no sz el Tk S v = some S') : (v = 41 ∧ shutS no sz el Tk S = some S') ∨ (¬ v = 41 ∧ ∃ e, S' = e :: S ∧ (e.1 = 40 ↔ v = 40) ∧ (e.1 = 95 ↔ (¬ v = 40 ∧ ¬ v = 95 ∧ ¬ partB no sz el v = true)) ∧ (v = 95 → e.1 = 41)) := by
  unfold stepM at h
  by_cases q1 : v = 95
  · rw [if_pos q1] at h
    have h := Option.some.inj h
    subst h
    refine Or.inr ⟨by rw [q1]; decide, _, rfl, ⟨fun z => absurd z (show ¬ (41 : Int64) = 40 by decide), fun z => absurd (q1.symm.trans z) (by decide)⟩, ⟨fun z => absurd z (show ¬ (41 : Int64) = 95 by decide), fun z => absurd q1 z.2.1⟩, fun _ => rfl⟩
  · rw [if_neg q1] at h
    unfold stepR at h
    rw [if_neg q1] at h
    by_cases q2 : v = 41
    · rw [if_pos q2] at h
      exact Or.inl ⟨q2, h⟩
    · rw [if_neg q2] at h
      by_cases q3 : v = 40
      · rw [if_pos q3] at h
        have h := Option.some.inj h
        subst h
        exact Or.inr ⟨q2, _, rfl, ⟨fun _ => q3, fun _ => rfl⟩, ⟨fun z => absurd z (show ¬ (40 : Int64) = 95 by decide), fun z => absurd q3 z.1⟩, fun z => absurd z q1⟩
      · rw [if_neg q3] at h
        by_cases q4 : partB no sz el v = true
        · rw [if_pos q4] at h
          have h := Option.some.inj h
          subst h
          exact Or.inr ⟨q2, _, rfl, Iff.rfl, ⟨fun z => absurd z q1, fun z => absurd q4 z.2.2⟩, fun z => absurd z q1⟩
        · rw [if_neg q4] at h
          have h := Option.some.inj h
          subst h
          exact Or.inr ⟨q2, _, rfl, ⟨fun z => absurd z (show ¬ (95 : Int64) = 40 by decide), fun z => absurd z q3⟩, ⟨fun _ => ⟨q3, q1, q4⟩, fun _ => rfl⟩, fun z => absurd z q1⟩
theorem step_41 (h41 : ∀ o e, o < no → e < sz o → ¬ el o e = 41) {S S' : List En} {v : Int64} (h : stepM no sz el Tk S v = some S') (hh : has41 S) : has41 S' := by
  rcases stepM_cases h with ⟨_, h⟩ | ⟨_, e, rfl, _⟩
  · exact shut_41 h41 h hh
  · obtain ⟨x, hx, h1⟩ := hh
    exact ⟨x, List.mem_cons_of_mem _ hx, h1⟩
theorem rdM_41 (h41 : ∀ o e, o < no → e < sz o → ¬ el o e = 41) : ∀ {ws : List Int64} {S S' : List En}, rdM no sz el Tk ws S = some S' → has41 S → has41 S' := by
  intro ws
  induction ws with
  | nil => intro S S' h hh; have h := Option.some.inj h; subst h; exact hh
  | cons v ws ih =>
    intro S S' h hh
    unfold rdM at h
    cases hs : stepM no sz el Tk S v with
    | none => rw [hs] at h; cases h
    | some S1 =>
      rw [hs] at h
      exact ih h (step_41 h41 hs hh)
theorem hd95_41 {S : List En} (h : has41 S) : hd95 S = false := by
  obtain ⟨x, hx, h1⟩ := h
  cases S with
  | nil => simp at hx
  | cons e S =>
    by_cases q : S = []
    · subst q
      have : x = e := by simpa using hx
      subst this
      show (x.1 == 95) = false
      rw [h1]; rfl
    · exact hd95_2 q
theorem bad_step (h41 : ∀ o e, o < no → e < sz o → ¬ el o e = 41) {S S' : List En} {v : Int64} (h : stepM no sz el Tk S v = some S') (hb : badS S) : badS S' := by
  rcases hb with hb | ⟨b1, b2, b3⟩
  · exact Or.inl (step_41 h41 h hb)
  · rcases stepM_cases h with ⟨_, h⟩ | ⟨_, e, rfl, _⟩
    · obtain ⟨seg, o, rest, p, -, a1, a2, a3, -, a4, a5, a6, rfl⟩ := shut_parts h
      rw [a1, botO_app] at b2
      have hr : ¬ rest = [] := by
        intro z
        subst z
        have b2 : (o.1 == 40) = false := b2
        rw [a2] at b2; cases b2
      rw [botO_cons hr] at b2
      exact Or.inr ⟨by simp, by rw [botO_cons hr]; exact b2, hd95_2 hr⟩
    · exact Or.inr ⟨by simp, by rw [botO_cons b1]; exact b2, hd95_2 b1⟩
theorem bad_rd (h41 : ∀ o e, o < no → e < sz o → ¬ el o e = 41) : ∀ {ws : List Int64} {S : List En}, badS S → ¬ toldM no sz el Tk ws S := by
  intro ws
  induction ws with
  | nil =>
    intro S hb ⟨S', h1, h2⟩
    have h1 := Option.some.inj h1
    subst h1
    rcases hb with hb | ⟨_, _, b3⟩
    · rw [hd95_41 hb] at h2; cases h2
    · rw [b3] at h2; cases h2
  | cons v ws ih =>
    intro S hb ⟨S', h1, h2⟩
    unfold rdM at h1
    cases hs : stepM no sz el Tk S v with
    | none => rw [hs] at h1; cases h1
    | some S1 =>
      rw [hs] at h1
      exact ih (bad_step h41 hs hb) ⟨S', h1, h2⟩
theorem bad_next (h41 : ∀ o e, o < no → e < sz o → ¬ el o e = 41) {v : Int64} {ws : List Int64} {S : List En} (h : ∀ S', stepM no sz el Tk S v = some S' → badS S') : ¬ toldM no sz el Tk (v :: ws) S := by
  intro ⟨S', h1, h2⟩
  unfold rdM at h1
  cases hs : stepM no sz el Tk S v with
  | none => rw [hs] at h1; cases h1
  | some S1 =>
    rw [hs] at h1
    exact bad_rd h41 (h S1 hs) ⟨S', h1, h2⟩
theorem rd_rdM : ∀ {ws : List Int64} {S S' : List En}, rdS no sz el Tk ws S = some S' → rdM no sz el Tk ws S = some S' := by
  intro ws
  induction ws with
  | nil => intro S S' h; exact h
  | cons v ws ih =>
    intro S S' h
    unfold rdS at h
    unfold rdM stepM
    cases hs : stepR no sz el Tk S v with
    | none => rw [hs] at h; cases h
    | some S1 =>
      rw [hs] at h
      have hv : ¬ v = 95 := by
        intro z
        unfold stepR at hs
        rw [if_pos z] at hs; cases hs
      rw [if_neg hv]
      exact ih h
theorem rdM_rd (h41 : ∀ o e, o < no → e < sz o → ¬ el o e = 41) : ∀ {ws : List Int64} {S S' : List En}, rdM no sz el Tk ws S = some S' → ¬ has41 S' → rdS no sz el Tk ws S = some S' := by
  intro ws
  induction ws with
  | nil => intro S S' h _; exact h
  | cons v ws ih =>
    intro S S' h hn
    unfold rdM at h
    unfold rdS
    cases hs : stepM no sz el Tk S v with
    | none => rw [hs] at h; cases h
    | some S1 =>
      rw [hs] at h
      have hv : ¬ v = 95 := by
        intro z
        rcases stepM_cases hs with ⟨y, _⟩ | ⟨_, e, rfl, _, _, y⟩
        · rw [z] at y; exact absurd y (by decide)
        · exact hn (rdM_41 h41 h ⟨e, List.mem_cons_self .., y z⟩)
      unfold stepM at hs
      rw [if_neg hv] at hs
      rw [hs]
      exact ih h hn
def stA (Sd : Nat → Int64) (Stt : Nat → Int32) (fr : Nat) (A : List En) : Prop := ∀ e x, A[e]? = some x → (x.1 = 95 → ∃ b, b < 2 ^ 31 ∧ Stt (fr + e) = nI b) ∧ (¬ x.1 = 95 → Stt (fr + e) = -1 ∧ Sd (fr + e) = (if x.1 = 41 then 95 else x.1))
set_option maxHeartbeats 1000000 in
theorem operatorOf_ok (G : RG C E (nI no) no sz el) (h41 : ∀ o e, o < no → e < sz o → ¬ el o e = 41) {Sd : Nat → Int64} {Stt : Nat → Int32} {A : List En} {fr : Nat} (hA : stA Sd Stt fr A) (hb : fr + A.length ≤ 750) : m_X9_operatorOf (nI no) E C Sd Stt (nI (fr + A.length)) (nI fr) = some ((findN no sz el (rowOf A) 0 A.length).elim (-1) nI) := by
  have hno : no ≤ 30 := G.2.1
  unfold m_X9_operatorOf
  -- the elements of one
  have no0 : ∀ (k2 : Int32 → Int32 → Option Int32) (n o e : Nat), o < no → m_X9_operatorOf_34 (nI no) (nI (fr + A.length)) E C Sd Stt k2 (n + 1) (nI fr) (nI o) 0 (nI e) = k2 (nI fr) (nI (o + 1)) := by
    intro k2 n o e ho
    have e0 : m_X9_operatorOf_34 (nI no) (nI (fr + A.length)) E C Sd Stt k2 (n + 1) (nI fr) (nI o) 0 (nI e) = m_X9_operatorOf_34 (nI no) (nI (fr + A.length)) E C Sd Stt k2 (n + 1) (nI fr) (nI o) 0 (nI e) := rfl
    conv at e0 => rhs; unfold m_X9_operatorOf_34
    have e1 : m_X9_operatorOf_128 (nI no) (nI (fr + A.length)) E C Sd Stt k2 (nI fr) (nI o) 0 = k2 (nI fr) (nI (o + 1)) := by
      unfold m_X9_operatorOf_128
      rw [if_pos rfl, nI_1]
    rw [gd_nI (by omega) (by omega), e1, if_pos rfl] at e0
    rw [e0]
    split <;> rfl
  have inner : ∀ (k2 : Int32 → Int32 → Option Int32) (o : Nat), o < no → sz o = A.length → m_X9_operatorOf_34 (nI no) (nI (fr + A.length)) E C Sd Stt k2 FU (nI fr) (nI o) 1 0 = if isAtB sz el (rowOf A) o 0 = true then some (nI o) else k2 (nI fr) (nI (o + 1)) := by
    intro k2 o ho hso
    obtain ⟨h1, h2, h3, h4⟩ := G.2.2 o ho
    have h := lpS (fun i e => m_X9_operatorOf_34 (nI no) (nI (fr + A.length)) E C Sd Stt k2 (i + 1) (nI fr) (nI o) 1 (nI e)) (sz o) (fun e => !(el o e == rowOf A (0 + e))) (fun _ => k2 (nI fr) (nI (o + 1))) (some (nI o))
      (fun i => by
        have e0 : m_X9_operatorOf_34 (nI no) (nI (fr + A.length)) E C Sd Stt k2 (i + 1 + 1) (nI fr) (nI o) 1 (nI (sz o)) = m_X9_operatorOf_34 (nI no) (nI (fr + A.length)) E C Sd Stt k2 (i + 1 + 1) (nI fr) (nI o) 1 (nI (sz o)) := rfl
        conv at e0 => rhs; unfold m_X9_operatorOf_34
        rw [gd_nI (by omega) (by omega), nI_cl (by omega), h1, if_pos (by rw [nI_le' (by omega) (by omega)]; omega)] at e0
        refine e0.trans ?_
        unfold m_X9_operatorOf_128
        rw [if_neg (by decide)])
      (fun i e he => by
        have e0 : m_X9_operatorOf_34 (nI no) (nI (fr + A.length)) E C Sd Stt k2 (i + 1 + 1) (nI fr) (nI o) 1 (nI e) = m_X9_operatorOf_34 (nI no) (nI (fr + A.length)) E C Sd Stt k2 (i + 1 + 1) (nI fr) (nI o) 1 (nI e) := rfl
        conv at e0 => rhs; unfold m_X9_operatorOf_34
        rw [gd_nI (by omega) (by omega), nI_cl (by omega), h1, if_neg (by rw [nI_le' (by omega) (by omega)]; omega), if_neg (by decide), mHole_ok G ho he, ob_i, nI_add, gd_nI (by omega) (by omega), nI_cl (by omega), gd_nI (by omega) (by omega), gd_nI (by omega) (by omega)] at e0
        refine e0.trans ?_
        have eN : ∀ y : Int32, m_X9_operatorOf_121 (nI no) (nI (fr + A.length)) E C Sd Stt k2 (m_X9_operatorOf_34 (nI no) (nI (fr + A.length)) E C Sd Stt k2 (i + 1)) (nI fr) (nI o) (nI e) y = m_X9_operatorOf_34 (nI no) (nI (fr + A.length)) E C Sd Stt k2 (i + 1) (nI fr) (nI o) y (nI (e + 1)) := by
          intro y
          unfold m_X9_operatorOf_121
          rw [nI_1]
        have eF : m_X9_operatorOf_120 (nI no) (nI (fr + A.length)) E C Sd Stt k2 (m_X9_operatorOf_34 (nI no) (nI (fr + A.length)) E C Sd Stt k2 (i + 1)) (nI fr) (nI o) (nI e) = k2 (nI fr) (nI (o + 1)) := by
          unfold m_X9_operatorOf_120
          rw [eN 0, no0 k2 i o (e + 1) ho]
        rw [eN 1, eN 0, eF, no0 k2 i o (e + 1) ho]
        obtain ⟨x, hx⟩ : ∃ x, A[e]? = some x := ⟨A[e]'(by omega), List.getElem?_eq_getElem (by omega)⟩
        have hr : rowOf A (0 + e) = x.1 := by unfold rowOf; rw [Nat.zero_add, hx]; rfl
        obtain ⟨a1, a2⟩ := hA e x hx
        rw [hr]
        by_cases q : el o e = 95
        · rw [if_neg (by rw [bi_eq0]; simpa using q)]
          by_cases q2 : x.1 = 95
          · obtain ⟨b, hb1, hb2⟩ := a1 q2
            rw [hb2, if_neg (by rw [i_0, nI_lt' (by omega) (by omega)]; omega), if_neg (by simp [q, q2])]
          · obtain ⟨c1, c2⟩ := a2 q2
            rw [c1, if_pos (by decide), if_pos (by rw [q]; simpa using fun z => q2 z.symm)]
        · rw [if_pos (by rw [bi_eq0]; exact q)]
          by_cases q2 : x.1 = 95
          · obtain ⟨b, hb1, hb2⟩ := a1 q2
            rw [hb2, if_pos (by rw [i_0, nI_le' (by omega) (by omega)]; omega), if_pos (by rw [q2]; simpa using q)]
          · obtain ⟨c1, c2⟩ := a2 q2
            rw [c1, if_neg (by decide), i_9, pk_mul, nI_add, gd_nI (by omega) (by omega), nI_cl (by omega), Nat.mul_comm 9 o, h4 e he, c2]
            by_cases q3 : x.1 = 41
            · rw [if_pos q3, if_neg (fun z => q ((lg_cmp_eq _ _).mp z).symm), if_pos (by rw [q3]; simpa using h41 o e ho he)]
            · rw [if_neg q3]
              by_cases q4 : el o e = x.1
              · rw [if_pos ((lg_cmp_eq _ _).mpr q4.symm), if_neg (by simp [q4])]
              · rw [if_neg (fun z => q4 ((lg_cmp_eq _ _).mp z).symm), if_pos (by simpa using q4)])
      (sz o) 65535 0 (by omega) (by omega)
    refine (h.trans elim_any).trans ?_
    unfold isAtB
    by_cases hc : anyB (fun e => !(el o e == rowOf A (0 + e))) 0 (sz o) = true
    · rw [if_pos hc, if_neg (by rw [hc]; decide)]
    · rw [if_neg hc, if_pos (by simpa using hc)]
  have h := lpS (fun n o => m_X9_operatorOf_2 (nI no) (nI (fr + A.length)) E C Sd Stt n (nI fr) (nI o)) no (fun o => sz o == A.length && isAtB sz el (rowOf A) o 0) (fun o => some (nI o)) (some (-1))
    (fun n => by
      have e0 : m_X9_operatorOf_2 (nI no) (nI (fr + A.length)) E C Sd Stt (n + 1) (nI fr) (nI no) = m_X9_operatorOf_2 (nI no) (nI (fr + A.length)) E C Sd Stt (n + 1) (nI fr) (nI no) := rfl
      conv at e0 => rhs; unfold m_X9_operatorOf_2
      rw [if_pos (by rw [nI_le' (by omega) (by omega)]; omega)] at e0
      exact e0)
    (fun n o ho => by
      obtain ⟨h1, h2, h3, h4⟩ := G.2.2 o ho
      have e0 : m_X9_operatorOf_2 (nI no) (nI (fr + A.length)) E C Sd Stt (n + 1) (nI fr) (nI o) = m_X9_operatorOf_2 (nI no) (nI (fr + A.length)) E C Sd Stt (n + 1) (nI fr) (nI o) := rfl
      conv at e0 => rhs; unfold m_X9_operatorOf_2
      rw [if_neg (by rw [nI_le' (by omega) (by omega)]; omega), gd_nI (by omega) (by omega), nI_cl (by omega), h1, pk_sub (by omega), show fr + A.length - fr = A.length by omega] at e0
      refine e0.trans ?_
      unfold m_X9_operatorOf_30
      by_cases q : sz o = A.length
      · rw [if_pos (by rw [q]), inner _ o ho q]
        by_cases q2 : isAtB sz el (rowOf A) o 0 = true
        · rw [if_pos q2, if_pos (by simp [q, q2])]
        · rw [if_neg q2, if_neg (by simp [q2])]
      · rw [if_neg (by rw [nI_eq' (by omega) (by omega)]; exact q), if_neg (by simp [q])]
        exact no0 _ 65535 o 0 ho)
    no FU 0 (by omega) (by rw [FU_v]; omega)
  refine h.trans ?_
  show (findN no sz el (rowOf A) 0 A.length).elim _ _ = _
  cases findN no sz el (rowOf A) 0 A.length <;> rfl
end MREAD
