/-! SUMS that are told up to a thousand millions -/
def cap (x : Nat) : Nat := min x 1000000000
theorem cap_le (x : Nat) : cap x ≤ 1000000000 := by unfold cap; omega
theorem cap_id {x : Nat} (h : x ≤ 1000000000) : cap x = x := by unfold cap; omega
theorem cap_cap (x : Nat) : cap (cap x) = cap x := by unfold cap; omega
theorem cap_addl (a b : Nat) : cap (cap a + b) = cap (a + b) := by unfold cap; omega
theorem cap_addr (a b : Nat) : cap (a + cap b) = cap (a + b) := by unfold cap; omega
theorem cap_mull (a b : Nat) : cap (cap a * b) = cap (a * b) := by
  by_cases h : a ≤ 1000000000
  · rw [cap_id h]
  · have e : cap a = 1000000000 := by unfold cap; omega
    rw [e]
    by_cases hb : b = 0
    · subst hb; simp
    · have h1 : 1000000000 * 1 ≤ 1000000000 * b := Nat.mul_le_mul_left _ (by omega)
      have h2 : 1000000000 * b ≤ a * b := Nat.mul_le_mul_right _ (by omega)
      unfold cap; omega
theorem cap_mulr (a b : Nat) : cap (a * cap b) = cap (a * b) := by rw [Nat.mul_comm, cap_mull, Nat.mul_comm]
theorem cap_zero (x : Nat) : cap x = 0 ↔ x = 0 := by unfold cap; omega
/-- the sum of d numbers from a on -/
def sm (f : Nat → Nat) : Nat → Nat → Nat
  | _, 0 => 0
  | a, d + 1 => f a + sm f (a + 1) d
theorem sm_0 (f : Nat → Nat) (a : Nat) : sm f a 0 = 0 := rfl
theorem sm_s (f : Nat → Nat) (a d : Nat) : sm f a (d + 1) = f a + sm f (a + 1) d := rfl
theorem sm_l (f : Nat → Nat) : ∀ d a, sm f a (d + 1) = sm f a d + f (a + d) := by
  intro d
  induction d with
  | zero => intro a; simp [sm]
  | succ d ih =>
    intro a
    rw [sm_s, ih (a + 1), sm_s]
    have e : a + 1 + d = a + (d + 1) := by omega
    rw [e]; omega
theorem sm_congr {f g : Nat → Nat} : ∀ {d a : Nat}, (∀ i, a ≤ i → i < a + d → f i = g i) → sm f a d = sm g a d := by
  intro d
  induction d with
  | zero => intro a _; rfl
  | succ d ih =>
    intro a h
    rw [sm_s, sm_s, h a (by omega) (by omega), ih (fun i h1 h2 => h i (by omega) (by omega))]
theorem sm_add (f g : Nat → Nat) : ∀ d a, sm (fun i => f i + g i) a d = sm f a d + sm g a d := by
  intro d
  induction d with
  | zero => intro a; rfl
  | succ d ih => intro a; rw [sm_s, sm_s, sm_s, ih]; omega
theorem sm_mull (c : Nat) (f : Nat → Nat) : ∀ d a, sm (fun i => c * f i) a d = c * sm f a d := by
  intro d
  induction d with
  | zero => intro a; rfl
  | succ d ih => intro a; rw [sm_s, sm_s, ih, Nat.mul_add]
theorem sm_mulr (c : Nat) (f : Nat → Nat) : ∀ d a, sm (fun i => f i * c) a d = sm f a d * c := by
  intro d
  induction d with
  | zero => intro a; simp [sm]
  | succ d ih => intro a; rw [sm_s, sm_s, ih, Nat.add_mul]
theorem sm_zero {f : Nat → Nat} : ∀ {d a : Nat}, (∀ i, a ≤ i → i < a + d → f i = 0) → sm f a d = 0 := by
  intro d
  induction d with
  | zero => intro a _; rfl
  | succ d ih => intro a h; rw [sm_s, h a (by omega) (by omega), ih (fun i h1 h2 => h i (by omega) (by omega))]
theorem sm_cat (f : Nat → Nat) : ∀ d1 d2 a, sm f a (d1 + d2) = sm f a d1 + sm f (a + d1) d2 := by
  intro d1
  induction d1 with
  | zero => intro d2 a; simp [sm]
  | succ d1 ih =>
    intro d2 a
    have e : d1 + 1 + d2 = (d1 + d2) + 1 := by omega
    rw [e, sm_s, sm_s, ih]
    have e2 : a + 1 + d1 = a + (d1 + 1) := by omega
    rw [e2]; omega
theorem sm_one {f : Nat → Nat} {a d j : Nat} (h1 : a ≤ j) (h2 : j < a + d) (h : ∀ i, a ≤ i → i < a + d → i ≠ j → f i = 0) : sm f a d = f j := by
  obtain ⟨u, rfl⟩ : ∃ u, j = a + u := ⟨j - a, by omega⟩
  obtain ⟨v, rfl⟩ : ∃ v, d = u + (1 + v) := ⟨d - u - 1, by omega⟩
  rw [sm_cat, sm_cat]
  rw [sm_zero (d := u) (fun i h3 h4 => h i h3 (by omega) (by omega)), sm_zero (d := v) (fun i h3 h4 => h i (by omega) (by omega) (by omega))]
  simp [sm]
/-- a double sum over a ≤ m < k ≤ b, either way -/
theorem sm_swap (g : Nat → Nat → Nat) : ∀ d a, sm (fun m => sm (fun k => g m k) (m + 1) (a + d - m)) a (d + 1) = sm (fun k => sm (fun m => g m k) a (k - a)) a (d + 1) := by
  intro d
  induction d with
  | zero => intro a; simp [sm]
  | succ d ih =>
    intro a
    rw [sm_l, sm_l (fun k => sm (fun m => g m k) a (k - a))]
    have e0 : a + (d + 1) - (a + (d + 1)) = 0 := by omega
    rw [show sm (fun k => g (a + (d + 1)) k) (a + (d + 1) + 1) (a + (d + 1) - (a + (d + 1))) = 0 by rw [e0]; rfl]
    have e1 : sm (fun m => sm (fun k => g m k) (m + 1) (a + (d + 1) - m)) a (d + 1) = sm (fun m => sm (fun k => g m k) (m + 1) (a + d - m) + g m (a + (d + 1))) a (d + 1) := by
      apply sm_congr
      intro m h1 h2
      have e2 : a + (d + 1) - m = (a + d - m) + 1 := by omega
      rw [e2, sm_l]
      have e3 : m + 1 + (a + d - m) = a + (d + 1) := by omega
      rw [e3]
    rw [e1, sm_add, ih]
    have e4 : a + (d + 1) - a = d + 1 := by omega
    rw [e4]
    omega
/-- a running sum, told up to M -/
theorem cap_run (c : Nat) (f : Nat → Nat) (a d : Nat) : cap (cap (c + sm f a d) + cap (f (a + d))) = cap (c + sm f a (d + 1)) := by
  rw [cap_addl, cap_addr, sm_l, Nat.add_assoc]
