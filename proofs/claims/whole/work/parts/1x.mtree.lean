/-! the reference's rows of a told tree -/
def chA (P : Cd → Nat → Prop) : Nat → List Cd → Prop
  | _, [] => True
  | b, c :: L => P c b ∧ chA P (b + c.2.2.2.2.2.length) L
def trA (Tu Tel : Nat → Int32) (no : Nat) (sz : Nat → Nat) (el : Nat → Nat → Int64) (w : Nat → Int64) (at0 : Nat → Nat) (tk : Nat → Nat → Nat → Bool) (Tk : Nat → Int32) : Nat → Nat → Nat → Nat → Nat → Nat → List It → Nat → Bool → Prop
  | 0, _, _, _, _, _, _, _, _ => False
  | f + 1, b, t, i, j, d, its, v, g => (j = i + 1 ∧ at0 i = 1 ∧ its = [(0, i, j, d)] ∧ v = 0 ∧ g = true) ∨ ∃ p L, p < no ∧ i < j ∧ its = (p + 1, i, j, d) :: flat L ∧ chs sz el w p j (sz p) i L ∧ chA (fun c bc => Tu bc = nI b ∧ Tel bc = nI c.2.2.1 ∧ trA Tu Tel no sz el w at0 tk Tk f bc (tyN sz p c.2.2.1) c.1 c.2.1 (d + 1) c.2.2.2.2.2 c.2.2.2.1 c.2.2.2.2.1) (b + 1) L ∧ v = at1 at0 i j + sm (fun q => if bt' (Tk t) q = true then TT no sz el w at0 tk q i j else 0) 0 p + chv no sz el w at0 tk p j (sz p) i L ∧ g = (bt' (Tk t) p && allg L)
theorem chA_mono {P Q : Cd → Nat → Prop} : ∀ {L : List Cd} {b : Nat}, (∀ c b', c ∈ L → b ≤ b' → b' + c.2.2.2.2.2.length ≤ b + (flat L).length → P c b' → Q c b') → chA P b L → chA Q b L := by
  intro L
  induction L with
  | nil => intro b _ _; trivial
  | cons c L ih =>
    intro b h ⟨h1, h2⟩
    have e1 : (flat (c :: L)).length = c.2.2.2.2.2.length + (flat L).length := by
      show (c.2.2.2.2.2 ++ flat L).length = _
      rw [List.length_append]
    refine ⟨h c b (List.mem_cons_self ..) (Nat.le_refl _) (by omega) h1, ih (fun c' b' hc hb hl hp => h c' b' (List.mem_cons_of_mem _ hc) (by omega) (by omega) hp) h2⟩
theorem chA_mem {P : Cd → Nat → Prop} : ∀ {L : List Cd} {b : Nat}, chA P b L → ∀ c, c ∈ L → ∃ b', b ≤ b' ∧ b' + c.2.2.2.2.2.length ≤ b + (flat L).length ∧ P c b' := by
  intro L
  induction L with
  | nil => intro b _ c hc; simp at hc
  | cons c L ih =>
    intro b ⟨h1, h2⟩ c' hc
    have e1 : (flat (c :: L)).length = c.2.2.2.2.2.length + (flat L).length := by
      show (c.2.2.2.2.2 ++ flat L).length = _
      rw [List.length_append]
    rcases List.mem_cons.mp hc with rfl | hc
    · exact ⟨b, Nat.le_refl _, by omega, h1⟩
    · obtain ⟨b', g1, g2, g3⟩ := ih h2 c' hc
      exact ⟨b', by omega, by omega, g3⟩
section MTREE
variable {no : Nat} {sz : Nat → Nat} {el : Nat → Nat → Int64} {w : Nat → Int64} {at0 : Nat → Nat} {tk : Nat → Nat → Nat → Bool} {Tk : Nat → Int32} {Tu Tel Tu' Tel' : Nat → Int32}
theorem trA_tr : ∀ {f b t i j d : Nat} {its : List It} {v : Nat} {g : Bool}, trA Tu Tel no sz el w at0 tk Tk f b t i j d its v g → tr no sz el w at0 tk Tk f t i j d its v g := by
  intro f
  induction f with
  | zero => intro b t i j d its v g h; exact h.elim
  | succ f ih =>
    intro b t i j d its v g h
    rcases h with h | ⟨p, L, h1, h2, h3, h4, h5, h6, h7⟩
    · exact Or.inl h
    · refine Or.inr ⟨p, L, h1, h2, h3, h4, fun c hc => ?_, h6, h7⟩
      obtain ⟨b', -, -, g3⟩ := chA_mem h5 c hc
      exact ih g3.2.2
theorem trA_s : ∀ {f b t i j d : Nat} {its : List It} {v : Nat} {g : Bool}, trA Tu Tel no sz el w at0 tk Tk f b t i j d its v g → trA Tu Tel no sz el w at0 tk Tk (f + 1) b t i j d its v g := by
  intro f
  induction f with
  | zero => intro b t i j d its v g h; exact h.elim
  | succ f ih =>
    intro b t i j d its v g h
    rcases h with h | ⟨p, L, h1, h2, h3, h4, h5, h6, h7⟩
    · exact Or.inl h
    · exact Or.inr ⟨p, L, h1, h2, h3, h4, chA_mono (fun c b' _ _ _ hp => ⟨hp.1, hp.2.1, ih hp.2.2⟩) h5, h6, h7⟩
theorem trA_le {f h b t i j d : Nat} {its : List It} {v : Nat} {g : Bool} (H : trA Tu Tel no sz el w at0 tk Tk f b t i j d its v g) (hg : f ≤ h) : trA Tu Tel no sz el w at0 tk Tk h b t i j d its v g := by
  induction h with
  | zero => have : f = 0 := by omega
            subst this; exact H
  | succ k ih =>
    by_cases q : f = k + 1
    · subst q; exact H
    · exact trA_s (ih (by omega))
theorem trA_pos {f b t i j d : Nat} {its : List It} {v : Nat} {g : Bool} (H : trA Tu Tel no sz el w at0 tk Tk f b t i j d its v g) : 1 ≤ its.length := by
  cases f with
  | zero => exact H.elim
  | succ f =>
    rcases H with ⟨_, _, h, _⟩ | ⟨p, L, _, _, h, _⟩ <;> rw [h]
    · exact Nat.le_refl _
    · rw [List.length_cons]; omega
theorem trA_frame : ∀ {f b t i j d : Nat} {its : List It} {v : Nat} {g : Bool}, (∀ q, b < q → q < b + its.length → Tu' q = Tu q ∧ Tel' q = Tel q) → trA Tu Tel no sz el w at0 tk Tk f b t i j d its v g → trA Tu' Tel' no sz el w at0 tk Tk f b t i j d its v g := by
  intro f
  induction f with
  | zero => intro b t i j d its v g _ h; exact h.elim
  | succ f ih =>
    intro b t i j d its v g hq h
    rcases h with h | ⟨p, L, h1, h2, h3, h4, h5, h6, h7⟩
    · exact Or.inl h
    · refine Or.inr ⟨p, L, h1, h2, h3, h4, chA_mono (fun c b' _ hb hl hp => ?_) h5, h6, h7⟩
      have e1 : its.length = (flat L).length + 1 := by rw [h3, List.length_cons]
      have hp1 := trA_pos hp.2.2
      obtain ⟨q1, q2⟩ := hq b' (by omega) (by omega)
      exact ⟨by rw [q1]; exact hp.1, by rw [q2]; exact hp.2.1, ih (fun q z1 z2 => hq q (by omega) (by omega)) hp.2.2⟩
/-- what is inside says so -/
theorem trA_up : ∀ {f b t i j d : Nat} {its : List It} {v : Nat} {g : Bool}, trA Tu Tel no sz el w at0 tk Tk f b t i j d its v g → ∀ q, b < q → q < b + its.length → ∃ u, b ≤ u ∧ u < q ∧ Tu q = nI u := by
  intro f
  induction f with
  | zero => intro b t i j d its v g h; exact h.elim
  | succ f ih =>
    intro b t i j d its v g h q hq1 hq2
    rcases h with ⟨_, _, h, _⟩ | ⟨p, L, h1, h2, h3, h4, h5, h6, h7⟩
    · rw [h] at hq2
      have : [((0 : Nat), i, j, d)].length = 1 := rfl
      omega
    · have key : ∀ {L : List Cd} {b0 : Nat}, b < b0 → chA (fun c bc => Tu bc = nI b ∧ Tel bc = nI c.2.2.1 ∧ trA Tu Tel no sz el w at0 tk Tk f bc (tyN sz p c.2.2.1) c.1 c.2.1 (d + 1) c.2.2.2.2.2 c.2.2.2.1 c.2.2.2.2.1) b0 L → b0 ≤ q → q < b0 + (flat L).length → ∃ u, b ≤ u ∧ u < q ∧ Tu q = nI u := by
        intro L
        induction L with
        | nil => intro b0 _ _ z1 z2; have : (flat []).length = 0 := rfl
                 omega
        | cons c L ihL =>
          intro b0 hb ⟨g1, g2⟩ z1 z2
          have e1 : (flat (c :: L)).length = c.2.2.2.2.2.length + (flat L).length := by
            show (c.2.2.2.2.2 ++ flat L).length = _
            rw [List.length_append]
          by_cases y : q < b0 + c.2.2.2.2.2.length
          · by_cases y2 : q = b0
            · subst y2
              exact ⟨b, Nat.le_refl _, hb, g1.1⟩
            · obtain ⟨u, u1, u2, u3⟩ := ih g1.2.2 q (by omega) y
              exact ⟨u, by omega, u2, u3⟩
          · exact ihL (by omega) g2 (by omega) (by omega)
      have e2 : its.length = (flat L).length + 1 := by rw [h3, List.length_cons]
      exact key (by omega) h5 (by omega) (by omega)
def hasA (Tu Tel : Nat → Int32) (no : Nat) (sz : Nat → Nat) (el : Nat → Nat → Int64) (w : Nat → Int64) (at0 : Nat → Nat) (tk : Nat → Nat → Nat → Bool) (Tk : Nat → Int32) (F b i j d : Nat) (c : List It) (cc : Nat) (g0 : Bool) : Prop := ∀ t, t ≤ 2 * no → ∃ v, trA Tu Tel no sz el w at0 tk Tk F b t i j d c v (fitE Tk t cc && g0)
def vgA (Tu Tel : Nat → Int32) (no : Nat) (sz : Nat → Nat) (el : Nat → Nat → Int64) (w : Nat → Int64) (at0 : Nat → Nat) (tk : Nat → Nat → Nat → Bool) (Tk : Nat → Int32) (d : Nat) (u : Int32) : List En → Nat → Nat → Nat → Prop
  | [], i, j, _ => i = j
  | e :: A, i, j, b => if e.1 = 95 then e.2.1 = i ∧ i < e.2.2.1 ∧ Tu b = u ∧ (∃ F, hasA Tu Tel no sz el w at0 tk Tk F b i e.2.2.1 d e.2.2.2.2.2 e.2.2.2.1 e.2.2.2.2.1) ∧ vgA Tu Tel no sz el w at0 tk Tk d u A e.2.2.1 j (b + e.2.2.2.2.2.length) else (¬ e.1 = 41 → w i = e.1) ∧ e.2.2.2.2.2 = [] ∧ e.2.2.2.2.1 = true ∧ vgA Tu Tel no sz el w at0 tk Tk d u A (i + 1) j b
theorem vgA_le {d : Nat} {u : Int32} : ∀ {A : List En} {i j b : Nat}, vgA Tu Tel no sz el w at0 tk Tk d u A i j b → i + A.length ≤ j := by
  intro A
  induction A with
  | nil => intro i j b h; have h : i = j := h
           subst h; exact Nat.le_refl _
  | cons e A ih =>
    intro i j b h
    unfold vgA at h
    rw [List.length_cons]
    by_cases q : e.1 = 95
    · rw [if_pos q] at h
      have := ih h.2.2.2.2
      omega
    · rw [if_neg q] at h
      have := ih h.2.2.2
      omega
theorem vgA_snoc {d : Nat} {u : Int32} {e : En} : ∀ {A : List En} {i k j b : Nat}, vgA Tu Tel no sz el w at0 tk Tk d u A i k b → vgA Tu Tel no sz el w at0 tk Tk d u [e] k j (b + (flatA A).length) → vgA Tu Tel no sz el w at0 tk Tk d u (A ++ [e]) i j b := by
  intro A
  induction A with
  | nil => intro i k j b h1 h2; have h1 : i = k := h1
           subst h1; exact h2
  | cons x A ih =>
    intro i k j b h1 h2
    unfold vgA at h1
    show (if x.1 = 95 then _ else _)
    have e1 : (flatA (x :: A)).length = x.2.2.2.2.2.length + (flatA A).length := by
      show (x.2.2.2.2.2 ++ flatA A).length = _
      rw [List.length_append]
    by_cases q : x.1 = 95
    · rw [if_pos q] at h1 ⊢
      exact ⟨h1.1, h1.2.1, h1.2.2.1, h1.2.2.2.1, ih h1.2.2.2.2 (by rw [Nat.add_assoc, ← e1]; exact h2)⟩
    · rw [if_neg q] at h1 ⊢
      refine ⟨h1.1, h1.2.1, h1.2.2.1, ih h1.2.2.2 ?_⟩
      rw [e1, h1.2.1] at h2
      have : ([] : List It).length = 0 := rfl
      rw [this, Nat.zero_add] at h2
      exact h2
theorem vgA_frame {d : Nat} {u : Int32} : ∀ {A : List En} {i j b : Nat}, (∀ q, b ≤ q → q < b + (flatA A).length → Tu' q = Tu q) → (∀ q, b ≤ q → q < b + (flatA A).length → Tel' q = Tel q) → vgA Tu Tel no sz el w at0 tk Tk d u A i j b → vgA Tu' Tel' no sz el w at0 tk Tk d u A i j b := by
  intro A
  induction A with
  | nil => intro i j b _ _ h; exact h
  | cons x A ih =>
    intro i j b hq1 hq2 h1
    unfold vgA at h1 ⊢
    have e1 : (flatA (x :: A)).length = x.2.2.2.2.2.length + (flatA A).length := by
      show (x.2.2.2.2.2 ++ flatA A).length = _
      rw [List.length_append]
    by_cases q : x.1 = 95
    · rw [if_pos q] at h1 ⊢
      obtain ⟨a1, a2, a3, ⟨F, a4⟩, a5⟩ := h1
      obtain ⟨v0, hv0⟩ := a4 0 (by omega)
      have hp0 := trA_pos hv0
      refine ⟨a1, a2, by rw [hq1 b (Nat.le_refl _) (by omega)]; exact a3, ⟨F, fun t ht => ?_⟩, ih (fun q z1 z2 => hq1 q (by omega) (by omega)) (fun q z1 z2 => hq2 q (by omega) (by omega)) a5⟩
      obtain ⟨v, hv⟩ := a4 t ht
      exact ⟨v, trA_frame (fun q z1 z2 => ⟨hq1 q (by omega) (by omega), hq2 q (by omega) (by omega)⟩) hv⟩
    · rw [if_neg q] at h1 ⊢
      obtain ⟨a1, a2, a3, a4⟩ := h1
      rw [a2] at e1
      have e2 : (flatA (x :: A)).length = (flatA A).length := by rw [e1]; exact Nat.zero_add _
      exact ⟨a1, a2, a3, ih (fun q z1 z2 => hq1 q z1 (by omega)) (fun q z1 z2 => hq2 q z1 (by omega)) a4⟩
def upS : List En → Int32
  | [] => -1
  | e :: S => if e.1 = 40 then nI (flatS S).length else upS S
def vA (Tu Tel : Nat → Int32) (no : Nat) (sz : Nat → Nat) (el : Nat → Nat → Int64) (w : Nat → Int64) (at0 : Nat → Nat) (tk : Nat → Nat → Nat → Bool) (Tk : Nat → Int32) : List En → Prop
  | [] => True
  | e :: S => vA Tu Tel no sz el w at0 tk Tk S ∧ (if e.1 = 40 then e.2.1 = pos S ∧ e.2.2.2.2.1 = true ∧ Tu (flatS S).length = upS S else vgA Tu Tel no sz el w at0 tk Tk (nop S) (upS S) [e] (pos S) (pos (e :: S)) (flatS S).length)
theorem vA_frame : ∀ {S : List En}, (∀ q, q < (flatS S).length → Tu' q = Tu q ∧ Tel' q = Tel q) → vA Tu Tel no sz el w at0 tk Tk S → vA Tu' Tel' no sz el w at0 tk Tk S := by
  intro S
  induction S with
  | nil => intro _ _; trivial
  | cons e S ih =>
    intro h ⟨h1, h2⟩
    have e1 : (flatS (e :: S)).length = (flatS S).length + (itE e (nop S)).length := by
      show (flatS S ++ itE e (nop S)).length = _
      rw [List.length_append]
    refine ⟨ih (fun q hq => h q (by omega)) h1, ?_⟩
    by_cases q : e.1 = 40
    · rw [if_pos q] at h2 ⊢
      have e2 : (itE e (nop S)).length = 1 := by unfold itE; rw [if_pos q]; rfl
      exact ⟨h2.1, h2.2.1, by rw [(h _ (by omega)).1]; exact h2.2.2⟩
    · rw [if_neg q] at h2 ⊢
      have e2 : (itE e (nop S)).length = (flatA [e]).length := by
        unfold itE
        rw [if_neg q]
        show _ = (e.2.2.2.2.2 ++ []).length
        rw [List.append_nil]
      exact vgA_frame (fun q _ hq => (h q (by omega)).1) (fun q _ hq => (h q (by omega)).2) h2
theorem flatA_app : ∀ A B : List En, flatA (A ++ B) = flatA A ++ flatA B := by
  intro A
  induction A with
  | nil => intro B; rfl
  | cons x A iha => intro B; show _ ++ flatA (A ++ B) = (_ ++ flatA A) ++ flatA B; rw [iha, List.append_assoc]
theorem upS_seg {o : En} {rest : List En} (ho : o.1 = 40) : ∀ {seg : List En}, (∀ x, x ∈ seg → ¬ x.1 = 40) → upS (seg ++ o :: rest) = nI (flatS rest).length := by
  intro seg
  induction seg with
  | nil => intro _; show (if o.1 = 40 then _ else _) = _; rw [if_pos ho]
  | cons e S ih =>
    intro h
    show (if e.1 = 40 then _ else upS (S ++ o :: rest)) = _
    rw [if_neg (h e (List.mem_cons_self ..)), ih (fun x hx => h x (List.mem_cons_of_mem _ hx))]
theorem vA_seg {o : En} {rest : List En} (ho : o.1 = 40) : ∀ {seg : List En}, (∀ x, x ∈ seg → ¬ x.1 = 40) → vA Tu Tel no sz el w at0 tk Tk (seg ++ o :: rest) → vgA Tu Tel no sz el w at0 tk Tk (nop rest + 1) (nI (flatS rest).length) seg.reverse o.2.1 (pos (seg ++ o :: rest)) ((flatS rest).length + 1) ∧ vA Tu Tel no sz el w at0 tk Tk rest ∧ o.2.1 = pos rest ∧ Tu (flatS rest).length = upS rest := by
  intro seg
  induction seg with
  | nil =>
    intro _ h
    obtain ⟨h1, h2⟩ := h
    rw [if_pos ho] at h2
    refine ⟨?_, h1, h2.1, h2.2.2⟩
    show o.2.1 = pos (o :: rest)
    unfold pos
    rw [if_pos ho]; exact h2.1
  | cons e S ih =>
    intro hs h
    obtain ⟨h1, h2⟩ := h
    have hs' : ∀ x, x ∈ S → ¬ x.1 = 40 := fun x hx => hs x (List.mem_cons_of_mem _ hx)
    obtain ⟨a1, a2, a3, a4⟩ := ih hs' h1
    rw [if_neg (hs e (List.mem_cons_self ..))] at h2
    refine ⟨?_, a2, a3, a4⟩
    rw [List.reverse_cons]
    have e3 : S.append (o :: rest) = S ++ o :: rest := rfl
    have e1 : nop (S.append (o :: rest)) = nop rest + 1 := by
      have := nop_seg (o := o) (rest := rest) (seg := S) hs'
      have e2 : nop (o :: rest) = 1 + nop rest := by
        show (if o.1 = 40 then 1 else 0) + nop rest = _
        rw [if_pos ho]
      rw [e2] at this
      rw [e3, this]; omega
    have e4 : (flatS (S.append (o :: rest))).length = (flatS rest).length + 1 + (flatA S.reverse).length := by
      rw [e3, flatS_seg ho hs', List.length_append, List.length_cons]; omega
    rw [e1, e4, e3, upS_seg ho hs'] at h2
    exact vgA_snoc a1 h2
def telA (Tel : Nat → Int32) : Nat → Nat → List En → Prop
  | _, _, [] => True
  | b, e, x :: A => (x.1 = 95 → Tel b = nI e) ∧ telA Tel (b + x.2.2.2.2.2.length) (e + 1) A
theorem seg_chsA {p dp b0 : Nat} (hno : no ≤ 30) (hp : p < no) (h41 : ∀ e, e < sz p → ¬ el p e = 41) : ∀ {d : Nat} {A : List En} {i j b : Nat}, d ≤ sz p → A.length = d → (∀ e, e < d → el p (sz p - d + e) = rowOf A e) → vgA Tu Tel no sz el w at0 tk Tk dp (nI b0) A i j b → telA Tel b (sz p - d) A → ∃ F L, flat L = flatA A ∧ chs sz el w p j d i L ∧ chA (fun c bc => Tu bc = nI b0 ∧ Tel bc = nI c.2.2.1 ∧ trA Tu Tel no sz el w at0 tk Tk F bc (tyN sz p c.2.2.1) c.1 c.2.1 dp c.2.2.2.2.2 c.2.2.2.1 c.2.2.2.2.1) b L ∧ allg L = segf sz Tk p (sz p - d) A := by
  intro d
  induction d with
  | zero =>
    intro A i j b hd hA he h ht
    have : A = [] := List.eq_nil_of_length_eq_zero hA
    subst this
    exact ⟨0, [], rfl, ⟨h, rfl⟩, trivial, rfl⟩
  | succ d ih =>
    intro A i j b hd hA he h ht
    cases A with
    | nil => cases hA
    | cons e A =>
      rw [List.length_cons] at hA
      have e0 : el p (sz p - (d + 1)) = e.1 := by have := he 0 (by omega); simpa [rowOf] using this
      have he' : ∀ k, k < d → el p (sz p - d + k) = rowOf A k := by
        intro k hk
        have := he (k + 1) (by omega)
        rw [show sz p - (d + 1) + (k + 1) = sz p - d + k by omega] at this
        rw [this]
        simp [rowOf]
      have e1 : sz p - (d + 1) + 1 = sz p - d := by omega
      obtain ⟨t1, t2⟩ := ht
      rw [e1] at t2
      unfold vgA at h
      by_cases q : e.1 = 95
      · rw [if_pos q] at h
        obtain ⟨h1, h2, h5, ⟨F1, h3⟩, h4⟩ := h
        obtain ⟨F2, L, l1, l2, l3, l4⟩ := ih (by omega) (by omega) he' h4 t2
        obtain ⟨v, hv⟩ := h3 (tyN sz p (sz p - (d + 1))) (tyN_le hno hp)
        have hle := vgA_le h4
        refine ⟨max F1 F2, (i, e.2.2.1, sz p - (d + 1), v, fitE Tk (tyN sz p (sz p - (d + 1))) e.2.2.2.1 && e.2.2.2.2.1, e.2.2.2.2.2) :: L, ?_, ?_, ?_, ?_⟩
        · show _ ++ flat L = _ ++ flatA A
          rw [l1]
        · unfold chs
          rw [e0, if_pos q]
          exact ⟨_, L, rfl, rfl, h2, by show e.2.2.1 ≤ j; omega, rfl, l2⟩
        · refine ⟨⟨h5, t1 q, trA_le hv (Nat.le_max_left ..)⟩, ?_⟩
          exact chA_mono (fun c b' _ _ _ hp => ⟨hp.1, hp.2.1, trA_le hp.2.2 (Nat.le_max_right ..)⟩) l3
        · show (_ && allg L) = ((if e.1 = 95 then _ else _) && segf sz Tk p (sz p - (d + 1) + 1) A)
          rw [if_pos q, e1, l4]
      · rw [if_neg q] at h
        obtain ⟨h1, h2, h3, h4⟩ := h
        rw [h2] at t2
        have t2 : telA Tel b (sz p - d) A := t2
        obtain ⟨F2, L, l1, l2, l3, l4⟩ := ih (by omega) (by omega) he' h4 t2
        have hle := vgA_le h4
        refine ⟨F2, L, ?_, ?_, l3, ?_⟩
        · show flat L = _ ++ flatA A
          rw [l1, h2]; rfl
        · unfold chs
          rw [e0, if_neg q]
          exact ⟨by omega, h1 (fun z => h41 (sz p - (d + 1)) (by omega) (by rw [e0]; exact z)), l2⟩
        · show allg L = ((if e.1 = 95 then _ else _) && segf sz Tk p (sz p - (d + 1) + 1) A)
          rw [if_neg q, e1, l4]; rfl
/-- the brackets are shut, and the elements are told -/
theorem shut_vA (hno : no ≤ 30) {p : Nat} (hp : p < no) (hs1 : 1 ≤ sz p) (h41 : ∀ e, e < sz p → ¬ el p e = 41) {seg rest : List En} {o : En} (ho : o.1 = 40) (hseg : ∀ x, x ∈ seg → ¬ x.1 = 40) (fs : sz p = seg.length) (fe : ∀ e, e < sz p → el p e = rowOf seg.reverse e) (h0 : vA Tu Tel no sz el w at0 tk Tk rest) (h1 : vgA Tu Tel no sz el w at0 tk Tk (nop rest + 1) (nI (flatS rest).length) seg.reverse (pos rest) (pos (seg ++ o :: rest)) ((flatS rest).length + 1)) (h2 : o.2.1 = pos rest) (h3 : Tu (flatS rest).length = upS rest) (ht : telA Tel ((flatS rest).length + 1) 0 seg.reverse) : vA Tu Tel no sz el w at0 tk Tk ((95, o.2.1, pos (seg ++ o :: rest), p + 1, segf sz Tk p 0 seg.reverse, (p + 1, o.2.1, pos (seg ++ o :: rest), nop rest) :: flatA seg.reverse) :: rest) := by
  have hlen : seg.reverse.length = sz p := by rw [List.length_reverse, fs]
  obtain ⟨F, L, l1, l2, l3, l4⟩ := seg_chsA (Tk := Tk) hno hp h41 (d := sz p) (Nat.le_refl _) hlen (fun e he => by rw [Nat.sub_self, Nat.zero_add, fe e he]) h1 (by rw [Nat.sub_self]; exact ht)
  have hlt := vgA_le h1
  rw [Nat.sub_self] at l4
  have e95 : ¬ (95 : Int64) = 40 := by decide
  have hpos : pos ((95, o.2.1, pos (seg ++ o :: rest), p + 1, segf sz Tk p 0 seg.reverse, (p + 1, o.2.1, pos (seg ++ o :: rest), nop rest) :: flatA seg.reverse) :: rest) = pos (seg ++ o :: rest) := by
    show (if (95 : Int64) = 40 then _ else if (95 : Int64) = 95 then pos (seg ++ o :: rest) else _) = _
    rw [if_neg e95, if_pos rfl]
  refine ⟨h0, ?_⟩
  rw [if_neg e95, hpos]
  unfold vgA
  rw [if_pos rfl]
  refine ⟨h2, by show pos rest < pos (seg ++ o :: rest); omega, h3, ⟨F + 1, fun t ht => ?_⟩, rfl⟩
  refine ⟨_, Or.inr ⟨p, L, hp, by show pos rest < pos (seg ++ o :: rest); omega, ?_, l2, l3, rfl, ?_⟩⟩
  · show (p + 1, o.2.1, pos (seg ++ o :: rest), nop rest) :: flatA seg.reverse = (p + 1, pos rest, pos (seg ++ o :: rest), nop rest) :: flat L
    rw [l1, h2]
  · show (fitE Tk t (p + 1) && segf sz Tk p 0 seg.reverse) = _
    rw [l4]
    unfold fitE
    simp
end MTREE
