theorem nI_eq0' {a : Nat} (ha : a < 2 ^ 31) : (nI a = 0) = (a = 0) := nI_eq' ha (by decide)
theorem nI_le0' {a : Nat} (ha : a < 2 ^ 31) : (nI a ≤ 0) = (a ≤ 0) := nI_le' ha (by decide)
/-! LOOPS over a counter, with fuel -/
/-- up: from k to N; an end early, or a step -/
theorem lpP {σ α : Type} (L : Nat → Nat → σ → α) (Post : α → Prop) (N : Nat) (I : Nat → σ → Prop) (hx : ∀ n s, I N s → Post (L (n + 1) N s)) (hs : ∀ n k s, k < N → I k s → Post (L (n + 1) k s) ∨ ∃ s', L (n + 1) k s = L n (k + 1) s' ∧ I (k + 1) s') :
    ∀ (d n k : Nat) (s : σ), k + d = N → d < n → I k s → Post (L n k s) := by
  intro d
  induction d with
  | zero =>
    intro n k s h1 h2 h3
    obtain ⟨n, rfl⟩ : ∃ z, n = z + 1 := ⟨n - 1, by omega⟩
    have h1 : k = N := by omega
    subst h1
    exact hx n s h3
  | succ d ih =>
    intro n k s h1 h2 h3
    obtain ⟨n, rfl⟩ : ∃ z, n = z + 1 := ⟨n - 1, by omega⟩
    rcases hs n k s (by omega) h3 with h | ⟨s', h, h4⟩
    · exact h
    · rw [h]
      exact ih n (k + 1) s' (by omega) (by omega) h4
/-- down: from k (so many steps are left) to 0 -/
theorem lpD {σ α : Type} (L : Nat → Nat → σ → α) (Post : α → Prop) (I : Nat → σ → Prop) (hx : ∀ n s, I 0 s → Post (L (n + 1) 0 s)) (hs : ∀ n k s, I (k + 1) s → Post (L (n + 1) (k + 1) s) ∨ ∃ s', L (n + 1) (k + 1) s = L n k s' ∧ I k s') :
    ∀ (k n : Nat) (s : σ), k < n → I k s → Post (L n k s) := by
  intro k
  induction k with
  | zero =>
    intro n s h2 h3
    obtain ⟨n, rfl⟩ : ∃ z, n = z + 1 := ⟨n - 1, by omega⟩
    exact hx n s h3
  | succ k ih =>
    intro n s h2 h3
    obtain ⟨n, rfl⟩ : ∃ z, n = z + 1 := ⟨n - 1, by omega⟩
    rcases hs n k s h3 with h | ⟨s', h, h4⟩
    · exact h
    · rw [h]
      exact ih n s' (by omega) h4
/-- a search: the first place in k, k+1, .. (d of them) -/
def srch (p : Nat → Bool) : Nat → Nat → Option Nat
  | _, 0 => none
  | k, d + 1 => if p k = true then some k else srch p (k + 1) d
theorem lpS {α : Type} (L : Nat → Nat → Option α) (N : Nat) (p : Nat → Bool) (fo : Nat → Option α) (ex : Option α) (hx : ∀ n, L (n + 1) N = ex) (hs : ∀ n k, k < N → L (n + 1) k = if p k = true then fo k else L n (k + 1)) :
    ∀ (d n k : Nat), k + d = N → d < n → L n k = (srch p k d).elim ex fo := by
  intro d
  induction d with
  | zero =>
    intro n k h1 h2
    obtain ⟨n, rfl⟩ : ∃ z, n = z + 1 := ⟨n - 1, by omega⟩
    have h1 : k = N := by omega
    subst h1
    exact hx n
  | succ d ih =>
    intro n k h1 h2
    obtain ⟨n, rfl⟩ : ∃ z, n = z + 1 := ⟨n - 1, by omega⟩
    rw [hs n k (by omega)]
    show _ = (if p k = true then some k else srch p (k + 1) d).elim ex fo
    by_cases h : p k = true
    · rw [if_pos h, if_pos h]; rfl
    · rw [if_neg h, if_neg h]
      exact ih n (k + 1) (by omega) (by omega)
theorem srch_some {p : Nat → Bool} : ∀ {d k j : Nat}, srch p k d = some j → k ≤ j ∧ j < k + d ∧ p j = true ∧ ∀ i, k ≤ i → i < j → p i = false := by
  intro d
  induction d with
  | zero => intro k j h; cases h
  | succ d ih =>
    intro k j h
    unfold srch at h
    by_cases hp : p k = true
    · rw [if_pos hp] at h
      have h := Option.some.inj h
      subst h
      exact ⟨by omega, by omega, hp, fun i a b => by omega⟩
    · rw [if_neg hp] at h
      obtain ⟨a, b, c, e⟩ := ih h
      refine ⟨by omega, by omega, c, fun i h1 h2 => ?_⟩
      by_cases h3 : i = k
      · subst h3; simpa using hp
      · exact e i (by omega) h2
theorem srch_none {p : Nat → Bool} : ∀ {d k : Nat}, srch p k d = none ↔ ∀ i, k ≤ i → i < k + d → p i = false := by
  intro d
  induction d with
  | zero => intro k; exact ⟨fun _ i h1 h2 => by omega, fun _ => rfl⟩
  | succ d ih =>
    intro k
    unfold srch
    by_cases hp : p k = true
    · rw [if_pos hp]
      constructor
      · intro h; cases h
      · intro h
        rw [h k (by omega) (by omega)] at hp
        cases hp
    · rw [if_neg hp, ih]
      constructor
      · intro h i h1 h2
        by_cases h3 : i = k
        · subst h3; simpa using hp
        · exact h i (by omega) (by omega)
      · intro h i h1 h2
        exact h i (by omega) (by omega)
theorem srch_congr {p q : Nat → Bool} : ∀ {d k : Nat}, (∀ i, k ≤ i → i < k + d → p i = q i) → srch p k d = srch q k d := by
  intro d
  induction d with
  | zero => intro k _; rfl
  | succ d ih =>
    intro k h
    unfold srch
    rw [h k (by omega) (by omega), ih (fun i h1 h2 => h i (by omega) (by omega))]
/-- is there one -/
def anyB (p : Nat → Bool) (k d : Nat) : Bool := (srch p k d).isSome
theorem anyB_iff {p : Nat → Bool} {k d : Nat} : anyB p k d = true ↔ ∃ i, k ≤ i ∧ i < k + d ∧ p i = true := by
  unfold anyB
  cases h : srch p k d with
  | none =>
    refine ⟨fun q => (by cases q), fun ⟨i, a, b, c⟩ => ?_⟩
    rw [srch_none.mp h i a b] at c
    cases c
  | some j =>
    obtain ⟨a, b, c, -⟩ := srch_some h
    exact ⟨fun _ => ⟨j, a, b, c⟩, fun _ => rfl⟩
theorem elim_any {α : Type} {p : Nat → Bool} {k d : Nat} {ex fo : Option α} : (srch p k d).elim ex (fun _ => fo) = if anyB p k d = true then fo else ex := by
  unfold anyB
  cases srch p k d <;> rfl
