/-! HOW MANY TREES: elements cover words; the suffix count is the prefix count -/
section TREES
variable (no : Nat) (sz : Nat → Nat) (el : Nat → Nat → Int64) (w : Nat → Int64) (at0 : Nat → Nat) (tk : Nat → Nat → Nat → Bool)
def at1 (i j : Nat) : Nat := if j = i + 1 then at0 i else 0
/-- the trees of the words i .. j - 1 that hole e of operator o takes -/
def HV (T : Nat → Nat → Nat → Nat) (o e i j : Nat) : Nat := cap (at1 at0 i j + sm (fun p => if tk o e p = true then T p i j else 0) 0 no)
def AL (T : Nat → Nat → Nat → Nat) (i j : Nat) : Nat := cap (at1 at0 i j + sm (fun p => T p i j) 0 no)
/-- ways in which the last d elements of o cover i .. j - 1 -/
def Wx (T : Nat → Nat → Nat → Nat) (o : Nat) : Nat → Nat → Nat → Nat
  | 0, i, j => if i = j then 1 else 0
  | d + 1, i, j => if el o (sz o - (d + 1)) = 95 then sm (fun m => HV no at0 tk T o (sz o - (d + 1)) i m * Wx T o d m j) (i + 1) (j - i) else if i < j ∧ w i = el o (sz o - (d + 1)) then Wx T o d (i + 1) j else 0
/-- ways in which the first e elements of o cover i .. j - 1 -/
def Fx (T : Nat → Nat → Nat → Nat) (o : Nat) : Nat → Nat → Nat → Nat
  | 0, i, j => if i = j then 1 else 0
  | e + 1, i, j => if el o e = 95 then sm (fun m => Fx T o e i m * HV no at0 tk T o e m j) i (j - i) else if i < j ∧ w (j - 1) = el o e then Fx T o e i (j - 1) else 0
end TREES
section TREES2
variable {no : Nat} {sz : Nat → Nat} {el : Nat → Nat → Int64} {w : Nat → Int64} {at0 : Nat → Nat} {tk : Nat → Nat → Nat → Bool}
theorem Wx_end {T : Nat → Nat → Nat → Nat} {o d j : Nat} : Wx no sz el w at0 tk T o (d + 1) j j = 0 := by
  unfold Wx
  split
  next => rw [Nat.sub_self]; rfl
  next => rw [if_neg (by omega)]
theorem Wx_out {T : Nat → Nat → Nat → Nat} {o : Nat} : ∀ {d i j : Nat}, j < i → Wx no sz el w at0 tk T o d i j = 0 := by
  intro d
  cases d with
  | zero => intro i j h; unfold Wx; rw [if_neg (by omega)]
  | succ d =>
    intro i j h
    unfold Wx
    split
    next => rw [show j - i = 0 by omega]; rfl
    next => rw [if_neg (by omega)]
/-- the middle: what the first e elements cover, times what the others do -/
theorem FW_step {T : Nat → Nat → Nat → Nat} {o e i j : Nat} (hij : i ≤ j) (he : e < sz o) :
    sm (fun m => Fx no el w at0 tk T o e i m * Wx no sz el w at0 tk T o (sz o - e) m j) i (j - i + 1) = sm (fun m => Fx no el w at0 tk T o (e + 1) i m * Wx no sz el w at0 tk T o (sz o - (e + 1)) m j) i (j - i + 1) := by
  obtain ⟨d, hd⟩ : ∃ d, sz o - e = d + 1 := ⟨sz o - e - 1, by omega⟩
  have hd2 : sz o - (e + 1) = d := by omega
  have hd3 : sz o - (d + 1) = e := by omega
  rw [hd, hd2]
  by_cases hh : el o e = 95
  · have e1 : ∀ m, Wx no sz el w at0 tk T o (d + 1) m j = sm (fun k => HV no at0 tk T o e m k * Wx no sz el w at0 tk T o d k j) (m + 1) (j - m) := by
      intro m
      show (if el o (sz o - (d + 1)) = 95 then _ else _) = _
      rw [hd3, if_pos hh]
    have e2 : ∀ m, Fx no el w at0 tk T o (e + 1) i m = sm (fun k => Fx no el w at0 tk T o e i k * HV no at0 tk T o e k m) i (m - i) := by
      intro m
      show (if el o e = 95 then _ else _) = _
      rw [if_pos hh]
    have sw := sm_swap (fun m k => Fx no el w at0 tk T o e i m * (HV no at0 tk T o e m k * Wx no sz el w at0 tk T o d k j)) (j - i) i
    rw [show i + (j - i) = j by omega] at sw
    refine Eq.trans (sm_congr fun m h1 h2 => ?_) (sw.trans (sm_congr fun k h1 h2 => ?_))
    · rw [e1, sm_mull]
    · rw [e2, ← sm_mulr]
      apply sm_congr
      intro m h3 h4
      rw [Nat.mul_assoc]
  · have e1 : ∀ m, Wx no sz el w at0 tk T o (d + 1) m j = if m < j ∧ w m = el o e then Wx no sz el w at0 tk T o d (m + 1) j else 0 := by
      intro m
      show (if el o (sz o - (d + 1)) = 95 then _ else _) = _
      rw [hd3, if_neg hh]
    have e2 : ∀ m, Fx no el w at0 tk T o (e + 1) i m = if i < m ∧ w (m - 1) = el o e then Fx no el w at0 tk T o e i (m - 1) else 0 := by
      intro m
      show (if el o e = 95 then _ else _) = _
      rw [if_neg hh]
    rw [sm_l, sm_s (fun m => Fx no el w at0 tk T o (e + 1) i m * Wx no sz el w at0 tk T o d m j)]
    rw [show i + (j - i) = j by omega, Wx_end, Nat.mul_zero, Nat.add_zero, e2 i, if_neg (by omega), Nat.zero_mul, Nat.zero_add]
    have sh : ∀ (g : Nat → Nat) d a, sm g (a + 1) d = sm (fun m => g (m + 1)) a d := by
      intro g d
      induction d with
      | zero => intro a; rfl
      | succ d ih => intro a; rw [sm_s, sm_s, ih]
    rw [sh]
    apply sm_congr
    intro m h1 h2
    rw [e1, e2]
    by_cases q : w m = el o e
    · rw [if_pos ⟨by omega, q⟩, if_pos ⟨by omega, q⟩]
      rfl
    · rw [if_neg (fun z => q z.2), if_neg (fun z => q z.2)]
      simp
theorem FW {T : Nat → Nat → Nat → Nat} {o i j : Nat} (hij : i ≤ j) : Fx no el w at0 tk T o (sz o) i j = Wx no sz el w at0 tk T o (sz o) i j := by
  have all : ∀ e, e ≤ sz o → sm (fun m => Fx no el w at0 tk T o e i m * Wx no sz el w at0 tk T o (sz o - e) m j) i (j - i + 1) = Wx no sz el w at0 tk T o (sz o) i j := by
    intro e
    induction e with
    | zero =>
      intro _
      rw [sm_one (j := i) (by omega) (by omega)]
      · show (if i = i then 1 else 0) * _ = _
        rw [if_pos rfl, Nat.one_mul]; rfl
      · intro m h1 h2 h3
        show (if i = m then 1 else 0) * _ = _
        rw [if_neg (fun z => h3 z.symm), Nat.zero_mul]
    | succ e ih =>
      intro he
      rw [← FW_step hij (by omega)]
      exact ih (by omega)
  have h := all (sz o) (Nat.le_refl _)
  rw [Nat.sub_self] at h
  rw [sm_one (j := j) (by omega) (by omega)] at h
  · have h1 : Wx no sz el w at0 tk T o 0 j j = 1 := by unfold Wx; rw [if_pos rfl]
    rw [h1, Nat.mul_one] at h
    exact h
  · intro m h1 h2 h3
    have h4 : Wx no sz el w at0 tk T o 0 m j = 0 := by unfold Wx; rw [if_neg h3]
    rw [h4, Nat.mul_zero]
/-- only shorter stretches count -/
theorem HV_congr {T T' : Nat → Nat → Nat → Nat} {o e i j : Nat} (h : ∀ p, p < no → T p i j = T' p i j) : HV no at0 tk T o e i j = HV no at0 tk T' o e i j := by
  unfold HV
  rw [sm_congr (g := fun p => if tk o e p = true then T' p i j else 0)]
  intro p h1 h2
  rw [h p (by omega)]
theorem Wx_congr {T T' : Nat → Nat → Nat → Nat} {o : Nat} {lo hi : Nat} (h : ∀ p i j, p < no → lo ≤ i → j ≤ hi → T p i j = T' p i j) : ∀ {d i j : Nat}, lo ≤ i → j ≤ hi → Wx no sz el w at0 tk T o d i j = Wx no sz el w at0 tk T' o d i j := by
  intro d
  induction d with
  | zero => intro i j _ _; rfl
  | succ d ih =>
    intro i j h1 h2
    unfold Wx
    split
    next =>
      apply sm_congr
      intro m h3 h4
      rw [HV_congr (fun p hp => h p i m hp h1 (by omega)), ih (by omega) h2]
    next =>
      rw [ih (by omega) h2]
/-- of a whole operator: a hole that is first leaves a word at least -/
theorem Wx_top {T T' : Nat → Nat → Nat → Nat} {o i j : Nat} (hs : 1 ≤ sz o) (hf : el o 0 = 95 → 2 ≤ sz o) (h : ∀ p a b, p < no → i ≤ a → b ≤ j → b - a < j - i → T p a b = T' p a b) : Wx no sz el w at0 tk T o (sz o) i j = Wx no sz el w at0 tk T' o (sz o) i j := by
  obtain ⟨d, hd⟩ : ∃ d, sz o = d + 1 := ⟨sz o - 1, by omega⟩
  have inner : ∀ m, i < m → Wx no sz el w at0 tk T o d m j = Wx no sz el w at0 tk T' o d m j := fun m hm => by
    by_cases hmj : m ≤ j
    · exact Wx_congr (lo := m) (hi := j) (fun p a b hp h1 h2 => h p a b hp (by omega) h2 (by omega)) (Nat.le_refl _) (Nat.le_refl _)
    · rw [Wx_out (by omega), Wx_out (by omega)]
  rw [hd]
  unfold Wx
  have e0 : sz o - (d + 1) = 0 := by omega
  rw [e0]
  by_cases hh : el o 0 = 95
  · rw [if_pos hh, if_pos hh]
    apply sm_congr
    intro m h3 h4
    by_cases hm : m = j
    · subst hm
      obtain ⟨d2, rfl⟩ : ∃ d2, d = d2 + 1 := ⟨d - 1, by have := hf hh; omega⟩
      rw [Wx_end, Wx_end, Nat.mul_zero, Nat.mul_zero]
    · rw [HV_congr (fun p hp => h p i m hp (Nat.le_refl _) (by omega) (by omega)), inner m (by omega)]
  · rw [if_neg hh, if_neg hh, inner (i + 1) (by omega)]
end TREES2
section TREES3
variable (no : Nat) (sz : Nat → Nat) (el : Nat → Nat → Int64) (w : Nat → Int64) (at0 : Nat → Nat) (tk : Nat → Nat → Nat → Bool)
def tT : Nat → Nat → Nat → Nat → Nat
  | 0 => fun _ _ _ => 0
  | n + 1 => fun o i j => cap (Wx no sz el w at0 tk (tT n) o (sz o) i j)
/-- THE TREES of the words i .. j - 1 with operator o -/
def TT (o i j : Nat) : Nat := tT no sz el w at0 tk (j - i) o i j
end TREES3
section TREES4
variable {no : Nat} {sz : Nat → Nat} {el : Nat → Nat → Int64} {w : Nat → Int64} {at0 : Nat → Nat} {tk : Nat → Nat → Nat → Bool}
theorem tT_stable (hs : ∀ o, o < no → 1 ≤ sz o ∧ (el o 0 = 95 → 2 ≤ sz o)) : ∀ (L n o i j : Nat), o < no → i < j → j - i ≤ L → L ≤ n → tT no sz el w at0 tk n o i j = tT no sz el w at0 tk L o i j := by
  intro L
  induction L with
  | zero => intro n o i j _ h1 h2; omega
  | succ L ih =>
    intro n o i j ho hij hL hn
    obtain ⟨n, rfl⟩ : ∃ z, n = z + 1 := ⟨n - 1, by omega⟩
    show cap _ = cap _
    rw [Wx_top (hs o ho).1 (hs o ho).2]
    intro p a b hp h1 h2 h3
    by_cases hab : a < b
    · exact ih n p a b hp hab (by omega) (by omega)
    · -- an empty stretch
      have z : ∀ n, tT no sz el w at0 tk n p a b = 0 := by
        intro n
        cases n with
        | zero => rfl
        | succ n =>
          show cap _ = 0
          rw [cap_zero]
          obtain ⟨d, hd⟩ : ∃ d, sz p = d + 1 := ⟨sz p - 1, by have := (hs p hp).1; omega⟩
          rw [hd]
          by_cases e : a = b
          · subst e; exact Wx_end
          · exact Wx_out (by omega)
      rw [z, z]
theorem TT_eq (hs : ∀ o, o < no → 1 ≤ sz o ∧ (el o 0 = 95 → 2 ≤ sz o)) {o i j : Nat} (ho : o < no) (hij : i < j) : TT no sz el w at0 tk o i j = cap (Wx no sz el w at0 tk (TT no sz el w at0 tk) o (sz o) i j) := by
  unfold TT
  obtain ⟨L, hL⟩ : ∃ L, j - i = L + 1 := ⟨j - i - 1, by omega⟩
  rw [hL]
  show cap _ = cap _
  rw [Wx_top (hs o ho).1 (hs o ho).2]
  intro p a b hp h1 h2 h3
  by_cases hab : a < b
  · exact tT_stable hs (b - a) L p a b hp hab (Nat.le_refl _) (by omega)
  · have e : b - a = 0 := by omega
    rw [e]
    cases L with
    | zero => rfl
    | succ L =>
      show cap _ = 0
      rw [cap_zero]
      obtain ⟨d, hd⟩ : ∃ d, sz p = d + 1 := ⟨sz p - 1, by have := (hs p hp).1; omega⟩
      rw [hd]
      by_cases e : a = b
      · subst e; exact Wx_end
      · exact Wx_out (by omega)
end TREES4
