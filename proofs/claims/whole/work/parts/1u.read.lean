/-! a written tree is read: what both sides do -/
/-- what stands in a hole: first, end, element, number, whether all fits, items -/
abbrev Cd := Nat × Nat × Nat × Nat × Bool × List It
def flat : List Cd → List It
  | [] => []
  | c :: L => c.2.2.2.2.2 ++ flat L
def allg : List Cd → Bool
  | [] => true
  | c :: L => c.2.2.2.2.1 && allg L
def chs (sz : Nat → Nat) (el : Nat → Nat → Int64) (w : Nat → Int64) (o j : Nat) : Nat → Nat → List Cd → Prop
  | 0, i, L => i = j ∧ L = []
  | d + 1, i, L => if el o (sz o - (d + 1)) = 95 then ∃ c L', L = c :: L' ∧ c.1 = i ∧ i < c.2.1 ∧ c.2.1 ≤ j ∧ c.2.2.1 = sz o - (d + 1) ∧ chs sz el w o j d c.2.1 L' else i < j ∧ w i = el o (sz o - (d + 1)) ∧ chs sz el w o j d (i + 1) L
/-- how many trees go before, by the holes -/
def chv (no : Nat) (sz : Nat → Nat) (el : Nat → Nat → Int64) (w : Nat → Int64) (at0 : Nat → Nat) (tk : Nat → Nat → Nat → Bool) (o j : Nat) : Nat → Nat → List Cd → Nat
  | 0, _, _ => 0
  | d + 1, i, [] => if el o (sz o - (d + 1)) = 95 then 0 else chv no sz el w at0 tk o j d (i + 1) []
  | d + 1, i, c :: L => if el o (sz o - (d + 1)) = 95 then sm (fun k => HV no at0 tk (TT no sz el w at0 tk) o (sz o - (d + 1)) i k * Wx no sz el w at0 tk (TT no sz el w at0 tk) o d k j) (i + 1) (c.2.1 - (i + 1)) + Wx no sz el w at0 tk (TT no sz el w at0 tk) o d c.2.1 j * c.2.2.2.1 + chv no sz el w at0 tk o j d c.2.1 L else chv no sz el w at0 tk o j d (i + 1) (c :: L)
def tr (no : Nat) (sz : Nat → Nat) (el : Nat → Nat → Int64) (w : Nat → Int64) (at0 : Nat → Nat) (tk : Nat → Nat → Nat → Bool) (Tk : Nat → Int32) : Nat → Nat → Nat → Nat → Nat → List It → Nat → Bool → Prop
  | 0, _, _, _, _, _, _, _ => False
  | f + 1, t, i, j, d, its, v, g => (j = i + 1 ∧ at0 i = 1 ∧ its = [(0, i, j, d)] ∧ v = 0 ∧ g = true) ∨ ∃ p L, p < no ∧ i < j ∧ its = (p + 1, i, j, d) :: flat L ∧ chs sz el w p j (sz p) i L ∧ (∀ c, c ∈ L → tr no sz el w at0 tk Tk f (tyN sz p c.2.2.1) c.1 c.2.1 (d + 1) c.2.2.2.2.2 c.2.2.2.1 c.2.2.2.2.1) ∧ v = at1 at0 i j + sm (fun q => if bt' (Tk t) q = true then TT no sz el w at0 tk q i j else 0) 0 p + chv no sz el w at0 tk p j (sz p) i L ∧ g = (bt' (Tk t) p && allg L)
/-- what stands: sign, first, end, 0 or operator + 1, whether all in it fits, items -/
abbrev En := Int64 × Nat × Nat × Nat × Bool × List It
def nop : List En → Nat
  | [] => 0
  | e :: S => (if e.1 = 40 then 1 else 0) + nop S
def pos : List En → Nat
  | [] => 0
  | e :: S => if e.1 = 40 then pos S else if e.1 = 95 then e.2.2.1 else pos S + 1
def itE (e : En) (d : Nat) : List It := if e.1 = 40 then [(0, e.2.1, e.2.1, d)] else e.2.2.2.2.2
def flatS : List En → List It
  | [] => []
  | e :: S => flatS S ++ itE e (nop S)
def allS : List En → Bool
  | [] => true
  | e :: S => e.2.2.2.2.1 && allS S
def flatA : List En → List It
  | [] => []
  | e :: A => e.2.2.2.2.2 ++ flatA A
def spl : List En → Option (List En × En × List En)
  | [] => none
  | e :: S => if e.1 = 40 then some ([], e, S) else (spl S).map (fun r => (e :: r.1, r.2.1, r.2.2))
def rowOf (L : List En) (q : Nat) : Int64 := (L[q]?).elim 0 (fun e => e.1)
def fitE (Tk : Nat → Int32) (t : Nat) (cc : Nat) : Bool := cc == 0 || bt' (Tk t) (cc - 1)
def segf (sz : Nat → Nat) (Tk : Nat → Int32) (p : Nat) : Nat → List En → Bool
  | _, [] => true
  | e, x :: A => (if x.1 = 95 then fitE Tk (tyN sz p e) x.2.2.2.1 && x.2.2.2.2.1 else true) && segf sz Tk p (e + 1) A
def shutS (no : Nat) (sz : Nat → Nat) (el : Nat → Nat → Int64) (Tk : Nat → Int32) (S : List En) : Option (List En) :=
  (spl S).bind (fun r => (findN no sz el (rowOf r.1.reverse) 0 r.1.length).map (fun p => (95, r.2.1.2.1, pos S, p + 1, segf sz Tk p 0 r.1.reverse, (p + 1, r.2.1.2.1, pos S, nop r.2.2) :: flatA r.1.reverse) :: r.2.2))
def stepR (no : Nat) (sz : Nat → Nat) (el : Nat → Nat → Int64) (Tk : Nat → Int32) (S : List En) (v : Int64) : Option (List En) :=
  if v = 95 then none else if v = 41 then shutS no sz el Tk S else if v = 40 then some ((40, pos S, 0, 0, true, []) :: S) else if partB no sz el v = true then some ((v, pos S, 0, 0, true, []) :: S) else some ((95, pos S, pos S + 1, 0, true, [(0, pos S, pos S + 1, nop S)]) :: S)
def rdS (no : Nat) (sz : Nat → Nat) (el : Nat → Nat → Int64) (Tk : Nat → Int32) : List Int64 → List En → Option (List En)
  | [], S => some S
  | v :: ws, S => (stepR no sz el Tk S v).bind (fun S' => rdS no sz el Tk ws S')
section READ
variable {no : Nat} {sz : Nat → Nat} {el : Nat → Nat → Int64} {w : Nat → Int64} {at0 : Nat → Nat} {tk : Nat → Nat → Nat → Bool} {Tk : Nat → Int32}
theorem tr_s : ∀ {f t i j d : Nat} {its : List It} {v : Nat} {g : Bool}, tr no sz el w at0 tk Tk f t i j d its v g → tr no sz el w at0 tk Tk (f + 1) t i j d its v g := by
  intro f
  induction f with
  | zero => intro t i j d its v g h; exact h.elim
  | succ f ih =>
    intro t i j d its v g h
    rcases h with h | ⟨p, L, h1, h2, h3, h4, h5, h6, h7⟩
    · exact Or.inl h
    · exact Or.inr ⟨p, L, h1, h2, h3, h4, fun c hc => ih (h5 c hc), h6, h7⟩
theorem tr_le {f h t i j d : Nat} {its : List It} {v : Nat} {g : Bool} (H : tr no sz el w at0 tk Tk f t i j d its v g) (hg : f ≤ h) : tr no sz el w at0 tk Tk h t i j d its v g := by
  induction h with
  | zero => have : f = 0 := by omega
            subst this; exact H
  | succ k ih =>
    by_cases q : f = k + 1
    · subst q; exact H
    · exact tr_s (ih (by omega))
/-- a tree that is told has its number, whatever hole it stands in -/
def hasT (no : Nat) (sz : Nat → Nat) (el : Nat → Nat → Int64) (w : Nat → Int64) (at0 : Nat → Nat) (tk : Nat → Nat → Nat → Bool) (Tk : Nat → Int32) (F i j d : Nat) (c : List It) (cc : Nat) (g0 : Bool) : Prop := ∀ t, t ≤ 2 * no → ∃ v, tr no sz el w at0 tk Tk F t i j d c v (fitE Tk t cc && g0)
def vseg (no : Nat) (sz : Nat → Nat) (el : Nat → Nat → Int64) (w : Nat → Int64) (at0 : Nat → Nat) (tk : Nat → Nat → Nat → Bool) (Tk : Nat → Int32) (d : Nat) : List En → Nat → Nat → Prop
  | [], i, j => i = j
  | e :: A, i, j => if e.1 = 95 then e.2.1 = i ∧ i < e.2.2.1 ∧ (∃ F, hasT no sz el w at0 tk Tk F i e.2.2.1 d e.2.2.2.2.2 e.2.2.2.1 e.2.2.2.2.1) ∧ vseg no sz el w at0 tk Tk d A e.2.2.1 j else w i = e.1 ∧ e.2.2.2.2.2 = [] ∧ e.2.2.2.2.1 = true ∧ vseg no sz el w at0 tk Tk d A (i + 1) j
theorem vseg_le {d : Nat} : ∀ {A : List En} {i j : Nat}, vseg no sz el w at0 tk Tk d A i j → i + A.length ≤ j := by
  intro A
  induction A with
  | nil => intro i j h; have h : i = j := h
           subst h; exact Nat.le_refl _
  | cons e A ih =>
    intro i j h
    unfold vseg at h
    rw [List.length_cons]
    by_cases q : e.1 = 95
    · rw [if_pos q] at h
      have := ih h.2.2.2
      omega
    · rw [if_neg q] at h
      have := ih h.2.2.2
      omega
theorem vseg_snoc {d : Nat} {e : En} : ∀ {A : List En} {i k j : Nat}, vseg no sz el w at0 tk Tk d A i k → vseg no sz el w at0 tk Tk d [e] k j → vseg no sz el w at0 tk Tk d (A ++ [e]) i j := by
  intro A
  induction A with
  | nil => intro i k j h1 h2; have h1 : i = k := h1
           subst h1; exact h2
  | cons x A ih =>
    intro i k j h1 h2
    unfold vseg at h1
    show (if x.1 = 95 then _ else _)
    by_cases q : x.1 = 95
    · rw [if_pos q] at h1 ⊢
      exact ⟨h1.1, h1.2.1, h1.2.2.1, ih h1.2.2.2 h2⟩
    · rw [if_neg q] at h1 ⊢
      exact ⟨h1.1, h1.2.1, h1.2.2.1, ih h1.2.2.2 h2⟩
/-- all that stands is right -/
def vS (no : Nat) (sz : Nat → Nat) (el : Nat → Nat → Int64) (w : Nat → Int64) (at0 : Nat → Nat) (tk : Nat → Nat → Nat → Bool) (Tk : Nat → Int32) : List En → Prop
  | [] => True
  | e :: S => vS no sz el w at0 tk Tk S ∧ (if e.1 = 40 then e.2.1 = pos S ∧ e.2.2.2.2.1 = true else vseg no sz el w at0 tk Tk (nop S) [e] (pos S) (pos (e :: S))) ∧ ¬ e.1 = 41
theorem spl_ok : ∀ {S seg rest : List En} {o : En}, spl S = some (seg, o, rest) → S = seg ++ o :: rest ∧ o.1 = 40 ∧ ∀ x, x ∈ seg → ¬ x.1 = 40 := by
  intro S
  induction S with
  | nil => intro seg rest o h; cases h
  | cons e S ih =>
    intro seg rest o h
    unfold spl at h
    by_cases q : e.1 = 40
    · rw [if_pos q] at h
      have h := Option.some.inj h
      obtain ⟨rfl, h2⟩ := Prod.mk.inj h
      obtain ⟨rfl, rfl⟩ := Prod.mk.inj h2
      exact ⟨rfl, q, fun x hx => by simp at hx⟩
    · rw [if_neg q] at h
      cases hs : spl S with
      | none => rw [hs] at h; cases h
      | some r =>
        rw [hs] at h
        obtain ⟨s1, o1, r1⟩ := r
        have h := Option.some.inj h
        obtain ⟨rfl, h2⟩ := Prod.mk.inj h
        obtain ⟨rfl, rfl⟩ := Prod.mk.inj h2
        obtain ⟨a1, a2, a3⟩ := ih hs
        refine ⟨by rw [a1]; rfl, a2, fun x hx => ?_⟩
        rcases List.mem_cons.mp hx with rfl | hx
        · exact q
        · exact a3 x hx
theorem nop_seg {o : En} {rest : List En} : ∀ {seg : List En}, (∀ x, x ∈ seg → ¬ x.1 = 40) → nop (seg ++ o :: rest) = nop (o :: rest) := by
  intro seg
  induction seg with
  | nil => intro _; rfl
  | cons e S ih =>
    intro h
    show (if e.1 = 40 then 1 else 0) + nop (S ++ o :: rest) = _
    rw [if_neg (h e (List.mem_cons_self ..)), ih (fun x hx => h x (List.mem_cons_of_mem _ hx)), Nat.zero_add]
/-- what stands behind an open bracket -/
theorem vS_seg {o : En} {rest : List En} (ho : o.1 = 40) : ∀ {seg : List En}, (∀ x, x ∈ seg → ¬ x.1 = 40) → vS no sz el w at0 tk Tk (seg ++ o :: rest) → vseg no sz el w at0 tk Tk (nop rest + 1) seg.reverse o.2.1 (pos (seg ++ o :: rest)) ∧ vS no sz el w at0 tk Tk rest ∧ o.2.1 = pos rest := by
  intro seg
  induction seg with
  | nil =>
    intro _ h
    obtain ⟨h1, h2, h3⟩ := h
    rw [if_pos ho] at h2
    refine ⟨?_, h1, h2.1⟩
    show o.2.1 = pos (o :: rest)
    unfold pos
    rw [if_pos ho]; exact h2.1
  | cons e S ih =>
    intro hs h
    obtain ⟨h1, h2, h3⟩ := h
    obtain ⟨a1, a2, a3⟩ := ih (fun x hx => hs x (List.mem_cons_of_mem _ hx)) h1
    rw [if_neg (hs e (List.mem_cons_self ..))] at h2
    refine ⟨?_, a2, a3⟩
    rw [List.reverse_cons]
    have e1 : nop (S.append (o :: rest)) = nop rest + 1 := by
      have := nop_seg (o := o) (rest := rest) (seg := S) (fun x hx => hs x (List.mem_cons_of_mem _ hx))
      have e2 : nop (o :: rest) = 1 + nop rest := by
        show (if o.1 = 40 then 1 else 0) + nop rest = _
        rw [if_pos ho]
      rw [e2] at this
      have e3 : S.append (o :: rest) = S ++ o :: rest := rfl
      rw [e3, this]; omega
    rw [e1] at h2
    exact vseg_snoc a1 h2
/-- operators's elements and what stands -/
theorem seg_chs {p dp : Nat} (hno : no ≤ 30) (hp : p < no) : ∀ {d : Nat} {A : List En} {i j : Nat}, d ≤ sz p → A.length = d → (∀ e, e < d → el p (sz p - d + e) = rowOf A e) → vseg no sz el w at0 tk Tk dp A i j → ∃ F L, flat L = flatA A ∧ chs sz el w p j d i L ∧ (∀ c, c ∈ L → tr no sz el w at0 tk Tk F (tyN sz p c.2.2.1) c.1 c.2.1 dp c.2.2.2.2.2 c.2.2.2.1 c.2.2.2.2.1) ∧ allg L = segf sz Tk p (sz p - d) A := by
  intro d
  induction d with
  | zero =>
    intro A i j hd hA he h
    have : A = [] := List.eq_nil_of_length_eq_zero hA
    subst this
    exact ⟨0, [], rfl, ⟨h, rfl⟩, fun c hc => by simp at hc, rfl⟩
  | succ d ih =>
    intro A i j hd hA he h
    cases A with
    | nil => cases hA
    | cons e A =>
      rw [List.length_cons] at hA
      have e0 : el p (sz p - (d + 1)) = e.1 := by have := he 0 (by omega); simpa [rowOf] using this
      have he' : ∀ k, k < d → el p (sz p - d + k) = rowOf A k := by
        intro k hk
        have := he (k + 1) (by omega)
        rw [show sz p - (d + 1) + (k + 1) = sz p - d + k by omega] at this
        rw [this]
        simp [rowOf]
      have e1 : sz p - (d + 1) + 1 = sz p - d := by omega
      unfold vseg at h
      by_cases q : e.1 = 95
      · rw [if_pos q] at h
        obtain ⟨h1, h2, ⟨F1, h3⟩, h4⟩ := h
        obtain ⟨F2, L, l1, l2, l3, l4⟩ := ih (by omega) (by omega) he' h4
        obtain ⟨v, hv⟩ := h3 (tyN sz p (sz p - (d + 1))) (tyN_le hno hp)
        have hle := vseg_le h4
        refine ⟨max F1 F2, (i, e.2.2.1, sz p - (d + 1), v, fitE Tk (tyN sz p (sz p - (d + 1))) e.2.2.2.1 && e.2.2.2.2.1, e.2.2.2.2.2) :: L, ?_, ?_, ?_, ?_⟩
        · show _ ++ flat L = _ ++ flatA A
          rw [l1]
        · unfold chs
          rw [e0, if_pos q]
          exact ⟨_, L, rfl, rfl, h2, by show e.2.2.1 ≤ j; omega, rfl, l2⟩
        · intro c hc
          rcases List.mem_cons.mp hc with rfl | hc
          · exact tr_le hv (Nat.le_max_left ..)
          · exact tr_le (l3 c hc) (Nat.le_max_right ..)
        · show (_ && allg L) = ((if e.1 = 95 then _ else _) && segf sz Tk p (sz p - (d + 1) + 1) A)
          rw [if_pos q, e1, l4]
      · rw [if_neg q] at h
        obtain ⟨h1, h2, h3, h4⟩ := h
        obtain ⟨F2, L, l1, l2, l3, l4⟩ := ih (by omega) (by omega) he' h4
        have hle := vseg_le h4
        refine ⟨F2, L, ?_, ?_, l3, ?_⟩
        · show flat L = _ ++ flatA A
          rw [l1, h2]; rfl
        · unfold chs
          rw [e0, if_neg q]
          exact ⟨by omega, h1, l2⟩
        · show allg L = ((if e.1 = 95 then _ else _) && segf sz Tk p (sz p - (d + 1) + 1) A)
          rw [if_neg q, e1, l4]; rfl
theorem shut_vS (hno : no ≤ 30) (hs1 : ∀ o, o < no → 1 ≤ sz o) {S S' : List En} (h : vS no sz el w at0 tk Tk S) (hS : shutS no sz el Tk S = some S') : vS no sz el w at0 tk Tk S' ∧ pos S' = pos S := by
  unfold shutS at hS
  cases hs : spl S with
  | none => rw [hs] at hS; cases hS
  | some r =>
    obtain ⟨seg, o, rest⟩ := r
    rw [hs] at hS
    dsimp only [Option.bind] at hS
    obtain ⟨a1, a2, a3⟩ := spl_ok hs
    cases hf : findN no sz el (rowOf seg.reverse) 0 seg.length with
    | none => rw [hf] at hS; cases hS
    | some p =>
      rw [hf] at hS
      have hS := Option.some.inj hS
      unfold findN at hf
      obtain ⟨-, f2, f3, -⟩ := srch_some hf
      rw [Bool.and_eq_true] at f3
      have fp : p < no := by omega
      have fs : sz p = seg.length := by simpa using f3.1
      have fe := isAtB_iff.mp f3.2
      rw [a1] at h
      obtain ⟨b1, b2, b3⟩ := vS_seg a2 a3 h
      rw [← a1] at b1
      have hlen : seg.reverse.length = sz p := by rw [List.length_reverse, fs]
      obtain ⟨F, L, l1, l2, l3, l4⟩ := seg_chs (Tk := Tk) hno fp (d := sz p) (Nat.le_refl _) hlen (fun e he => by rw [Nat.sub_self, Nat.zero_add, fe e (by omega), Nat.zero_add]) b1
      have hlt := vseg_le b1
      have h1 := hs1 p fp
      rw [Nat.sub_self] at l4
      subst hS
      have e95 : ¬ (95 : Int64) = 40 := by decide
      have hpos : pos ((95, o.2.1, pos S, p + 1, segf sz Tk p 0 seg.reverse, (p + 1, o.2.1, pos S, nop rest) :: flatA seg.reverse) :: rest) = pos S := by
        show (if (95 : Int64) = 40 then _ else if (95 : Int64) = 95 then pos S else _) = _
        rw [if_neg e95, if_pos rfl]
      refine ⟨⟨b2, ?_, by show ¬ (95 : Int64) = 41; decide⟩, hpos⟩
      rw [if_neg e95, hpos]
      unfold vseg
      rw [if_pos rfl]
      refine ⟨b3, by show pos rest < pos S; omega, ⟨F + 1, fun t ht => ?_⟩, rfl⟩
      refine ⟨_, Or.inr ⟨p, L, fp, by show pos rest < pos S; omega, ?_, ?_, l3, rfl, ?_⟩⟩
      · show (p + 1, o.2.1, pos S, nop rest) :: flatA seg.reverse = (p + 1, pos rest, pos S, nop rest) :: flat L
        rw [l1, b3]
      · rw [← b3]; exact l2
      · show (fitE Tk t (p + 1) && segf sz Tk p 0 seg.reverse) = _
        rw [l4]
        unfold fitE
        simp
/-- the words that aren't brackets -/
def nb (ws : List Int64) : List Int64 := ws.filter (fun v => !(v == 40) && !(v == 41))
def wOf (l : List Int64) (k : Nat) : Int64 := (l[k]?).getD 0
theorem step_vS (hno : no ≤ 30) (hs1 : ∀ o, o < no → 1 ≤ sz o) (ha : ∀ k, at0 k = atN no sz el w k) {S S' : List En} {v : Int64} (h : vS no sz el w at0 tk Tk S) (hw : ¬ v = 40 → ¬ v = 41 → w (pos S) = v) (hS : stepR no sz el Tk S v = some S') : vS no sz el w at0 tk Tk S' ∧ pos S' = pos S + (if v = 40 ∨ v = 41 then 0 else 1) := by
  unfold stepR at hS
  by_cases q1 : v = 95
  · rw [if_pos q1] at hS; cases hS
  · rw [if_neg q1] at hS
    by_cases q2 : v = 41
    · rw [if_pos q2] at hS
      rw [if_pos (Or.inr q2)]
      exact shut_vS hno hs1 h hS
    · rw [if_neg q2] at hS
      by_cases q3 : v = 40
      · rw [if_pos q3] at hS
        have hS := Option.some.inj hS
        subst hS
        rw [if_pos (Or.inl q3)]
        refine ⟨⟨h, ?_, by show ¬ (40 : Int64) = 41; decide⟩, ?_⟩
        · rw [if_pos rfl]; exact ⟨rfl, rfl⟩
        · show (if (40 : Int64) = 40 then pos S else _) = _
          rw [if_pos rfl]; rfl
      · rw [if_neg q3] at hS
        rw [if_neg (by intro z; rcases z with z | z; exact q3 z; exact q2 z)]
        have hwv := hw q3 q2
        by_cases q4 : partB no sz el v = true
        · rw [if_pos q4] at hS
          have hS := Option.some.inj hS
          subst hS
          have hpos : pos ((v, pos S, 0, 0, true, []) :: S) = pos S + 1 := by
            show (if v = 40 then _ else if v = 95 then _ else _) = _
            rw [if_neg q3, if_neg q1]
          refine ⟨⟨h, ?_, q2⟩, hpos⟩
          rw [if_neg q3, hpos]
          unfold vseg
          rw [if_neg q1]
          exact ⟨hwv, rfl, rfl, rfl⟩
        · rw [if_neg q4] at hS
          have hS := Option.some.inj hS
          subst hS
          have e95 : ¬ (95 : Int64) = 40 := by decide
          have hpos : pos ((95, pos S, pos S + 1, 0, true, [(0, pos S, pos S + 1, nop S)]) :: S) = pos S + 1 := by
            show (if (95 : Int64) = 40 then _ else if (95 : Int64) = 95 then _ else _) = _
            rw [if_neg e95, if_pos rfl]
          refine ⟨⟨h, ?_, by show ¬ (95 : Int64) = 41; decide⟩, hpos⟩
          rw [if_neg e95, hpos]
          unfold vseg
          rw [if_pos rfl]
          refine ⟨rfl, by show pos S < pos S + 1; omega, ⟨1, fun t ht => ⟨0, Or.inl ⟨rfl, ?_, rfl, rfl, ?_⟩⟩⟩, rfl⟩
          · rw [ha]
            unfold atN atomB
            rw [hwv, if_pos (by simp [q1, q4])]
          · show (fitE Tk t 0 && true) = true
            rfl
theorem rd_vS (hno : no ≤ 30) (hs1 : ∀ o, o < no → 1 ≤ sz o) (ha : ∀ k, at0 k = atN no sz el w k) {all : List Int64} (hw : w = wOf all) : ∀ {ws : List Int64} {S S' : List En}, vS no sz el w at0 tk Tk S → all.drop (pos S) = nb ws → pos S ≤ all.length → rdS no sz el Tk ws S = some S' → vS no sz el w at0 tk Tk S' ∧ pos S' = all.length := by
  intro ws
  induction ws with
  | nil =>
    intro S S' h h1 h2 h3
    have h3 := Option.some.inj h3
    subst h3
    refine ⟨h, ?_⟩
    have : (all.drop (pos S)).length = 0 := by rw [h1]; rfl
    rw [List.length_drop] at this
    omega
  | cons v ws ih =>
    intro S S' h h1 h2 h3
    unfold rdS at h3
    cases hst : stepR no sz el Tk S v with
    | none => rw [hst] at h3; cases h3
    | some S1 =>
      rw [hst] at h3
      have h3 : rdS no sz el Tk ws S1 = some S' := h3
      by_cases q : v = 40 ∨ v = 41
      · have hnb : nb (v :: ws) = nb ws := by
          unfold nb
          rw [List.filter_cons]
          rcases q with q | q <;> simp [q]
        obtain ⟨s1, s2⟩ := step_vS hno hs1 ha h (fun z1 z2 => by rcases q with q | q; exact absurd q z1; exact absurd q z2) hst
        rw [if_pos q, Nat.add_zero] at s2
        exact ih s1 (by rw [s2, h1, hnb]) (by omega) h3
      · have hnb : nb (v :: ws) = v :: nb ws := by
          unfold nb
          rw [List.filter_cons]
          have q1 : ¬ v = 40 := fun z => q (Or.inl z)
          have q2 : ¬ v = 41 := fun z => q (Or.inr z)
          simp [q1, q2]
        rw [hnb] at h1
        have hlt : pos S < all.length := by
          rcases Nat.lt_or_ge (pos S) all.length with z | z
          · exact z
          · rw [List.drop_eq_nil_of_le z] at h1; cases h1
        rw [List.drop_eq_getElem_cons hlt] at h1
        obtain ⟨h1a, h1b⟩ := List.cons.inj h1
        obtain ⟨s1, s2⟩ := step_vS hno hs1 ha h (fun _ _ => by rw [hw]; unfold wOf; rw [List.getElem?_eq_getElem hlt]; exact h1a) hst
        rw [if_neg q] at s2
        exact ih s1 (by rw [s2, h1b]) (by omega) h3
/-- no more items than words -/
theorem chs_sum {o j : Nat} : ∀ {d i : Nat} {L : List Cd}, chs sz el w o j d i L → (∀ c, c ∈ L → c.2.2.2.2.2.length ≤ c.2.1 - c.1) → (flat L).length + prt sz el o d ≤ j - i := by
  intro d
  induction d with
  | zero => intro i L h _; obtain ⟨h1, h2⟩ := h; subst h2; show 0 + 0 ≤ _; omega
  | succ d ih =>
    intro i L h hL
    unfold chs at h
    unfold prt
    by_cases q : el o (sz o - (d + 1)) = 95
    · rw [if_pos q] at h ⊢
      obtain ⟨c, L', rfl, h1, h2, h3, h4, h5⟩ := h
      have a1 := ih h5 (fun c' hc' => hL c' (List.mem_cons_of_mem _ hc'))
      have a2 := hL c (List.mem_cons_self ..)
      show (c.2.2.2.2.2 ++ flat L').length + _ ≤ _
      rw [List.length_append]
      omega
    · rw [if_neg q] at h ⊢
      have a1 := ih h.2.2 hL
      omega
theorem tr_len (hpt : ∀ o, o < no → ∃ e, e < sz o ∧ ¬ el o e = 95) : ∀ {f t i j d : Nat} {its : List It} {v : Nat} {g : Bool}, tr no sz el w at0 tk Tk f t i j d its v g → its.length ≤ j - i := by
  intro f
  induction f with
  | zero => intro t i j d its v g h; exact h.elim
  | succ f ih =>
    intro t i j d its v g h
    rcases h with ⟨h1, h2, h3, h4⟩ | ⟨p, L, h1, h2, h3, h4, h5, h6, h7⟩
    · rw [h3, h1]; show 1 ≤ _; omega
    · have a := chs_sum h4 (fun c hc => ih (h5 c hc))
      obtain ⟨e, he1, he2⟩ := hpt p h1
      have b := prt_pos (d := sz p) (Nat.le_refl _) (by omega) he1 he2
      rw [h3, List.length_cons]
      omega
end READ
