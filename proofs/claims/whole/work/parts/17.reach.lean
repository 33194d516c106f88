/-! WAYS of arrows -/
def Rch (nn : Nat) (ar : Nat → Nat → Bool) (a b : Nat) : Prop := ∀ P : Nat → Prop, P a → (∀ x y, P x → x < nn → ar x y = true → P y) → P b
theorem Rch.rf {nn : Nat} {ar : Nat → Nat → Bool} {a : Nat} : Rch nn ar a a := fun _ h _ => h
theorem Rch.step {nn : Nat} {ar : Nat → Nat → Bool} {a x y : Nat} (h : Rch nn ar a x) (hx : x < nn) (hy : ar x y = true) : Rch nn ar a y := fun P h1 h2 => h2 x y (h P h1 h2) hx hy
/-- how many of the first n are in a set -/
def cnt (S : Nat → Bool) : Nat → Nat
  | 0 => 0
  | n + 1 => cnt S n + (if S n = true then 1 else 0)
theorem cnt_le (S : Nat → Bool) : ∀ n, cnt S n ≤ n := by
  intro n
  induction n with
  | zero => exact Nat.le_refl _
  | succ n ih => unfold cnt; split <;> omega
theorem cnt_mono {S T : Nat → Bool} : ∀ {n : Nat}, (∀ q, q < n → S q = true → T q = true) → cnt S n ≤ cnt T n := by
  intro n
  induction n with
  | zero => intro _; exact Nat.le_refl _
  | succ n ih =>
    intro h
    have h1 := ih (fun q hq => h q (by omega))
    unfold cnt
    by_cases hs : S n = true
    · rw [if_pos hs, if_pos (h n (by omega) hs)]; omega
    · rw [if_neg hs]; split <;> omega
theorem cnt_lt {S T : Nat → Bool} : ∀ {n y : Nat}, (∀ q, q < n → S q = true → T q = true) → y < n → S y = false → T y = true → cnt S n < cnt T n := by
  intro n
  induction n with
  | zero => intro y _ h; omega
  | succ n ih =>
    intro y h hy h1 h2
    have hm : cnt S n ≤ cnt T n := cnt_mono (fun q hq => h q (by omega))
    unfold cnt
    by_cases e : y = n
    · subst e
      rw [if_neg (by rw [h1]; decide), if_pos h2]; omega
    · have := ih (fun q hq => h q (by omega)) (by omega) h1 h2
      by_cases hs : S n = true
      · rw [if_pos hs, if_pos (h n (by omega) hs)]; omega
      · rw [if_neg hs]; split <;> omega
theorem cnt_congr {S T : Nat → Bool} : ∀ {n : Nat}, (∀ q, q < n → S q = T q) → cnt S n = cnt T n := by
  intro n h
  have h1 : cnt S n ≤ cnt T n := cnt_mono (fun q hq z => by rw [← h q hq]; exact z)
  have h2 : cnt T n ≤ cnt S n := cnt_mono (fun q hq z => by rw [h q hq]; exact z)
  omega
/-- a set that grows by one -/
theorem cnt_add {S T : Nat → Bool} : ∀ {n y : Nat}, y < n → S y = false → T y = true → (∀ q, q < n → q ≠ y → T q = S q) → cnt T n = cnt S n + 1 := by
  intro n
  induction n with
  | zero => intro y h; omega
  | succ n ih =>
    intro y hy h1 h2 h
    unfold cnt
    by_cases e : y = n
    · subst e
      rw [if_pos h2, if_neg (by rw [h1]; decide), cnt_congr (fun q hq => h q (by omega) (by omega))]
    · rw [ih (by omega) h1 h2 (fun q hq hn => h q (by omega) hn), h n (by omega) (fun z => e z.symm)]
      omega
theorem orR (x y : Int32) (q : Nat) : bt' (x ||| y) q = (bt' x q || bt' y q) := by
  show (x.toBitVec ||| y.toBitVec).getLsbD q = _
  rw [BitVec.getLsbD_or]; rfl
theorem one_bit {p q : Nat} (hp : p < 32) (hq : q < 32) : bt' ((1 : Int32) <<< (nI p &&& 31)) q = decide (q = p) := by
  unfold bt'
  rw [sh_bit p hp, BitVec.getLsbD_twoPow]
  by_cases h : p = q
  · subst h; simp [hp]
  · have h2 : ¬ q = p := fun z => h z.symm
    simp [h, h2]
set_option maxHeartbeats 1000000 in
theorem reaches_ok {R_tighter : Nat → Int32} {nn : Nat} {ar : Nat → Nat → Bool} (hn : nn ≤ 16) (ht : ∀ a b, a < 16 → b < 16 → bt' (R_tighter a) b = ar a b) (hA : ∀ x y, ar x y = true → x < nn ∧ y < nn) {a b : Nat} (ha : a < nn) (hb : b < nn) :
    ∃ v : Int32, m_X4_reaches R_tighter (nI nn) (nI a) (nI b) = some v ∧ (v = 0 ∨ v = 1) ∧ (v = 0 ↔ ¬ Rch nn ar a b) := by
  unfold m_X4_reaches
  -- one pass
  have pass : ∀ (k7 : Int32 → Int32 → Int32 → Option Int32) (x0 : Int32) (r : Nat), (∀ q, q < nn → bt' x0 q = true → Rch nn ar a q) → ∃ x1, m_X4_reaches_19 (nI nn) R_tighter k7 FU (nI b) x0 (nI r) 0 = k7 (nI b) x1 (nI (r + 1)) ∧ (∀ q, q < nn → bt' x0 q = true → bt' x1 q = true) ∧ (∀ q, q < nn → bt' x1 q = true → Rch nn ar a q) ∧ (∀ q y, q < nn → bt' x0 q = true → ar q y = true → bt' x1 y = true) := by
    intro k7 x0 r h0
    refine lpP (fun n q (x : Int32) => m_X4_reaches_19 (nI nn) R_tighter k7 n (nI b) x (nI r) (nI q)) (fun res => ∃ x1, res = k7 (nI b) x1 (nI (r + 1)) ∧ (∀ q, q < nn → bt' x0 q = true → bt' x1 q = true) ∧ (∀ q, q < nn → bt' x1 q = true → Rch nn ar a q) ∧ (∀ q y, q < nn → bt' x0 q = true → ar q y = true → bt' x1 y = true)) nn (fun k x => (∀ q, q < nn → bt' x0 q = true → bt' x q = true) ∧ (∀ q, q < nn → bt' x q = true → Rch nn ar a q) ∧ (∀ q y, q < k → bt' x0 q = true → ar q y = true → bt' x y = true)) ?_ ?_ nn FU 0 x0 (by omega) (by rw [FU_v]; omega) ⟨fun q _ h => h, h0, fun q y h => by omega⟩
    · intro n x hx
      refine ⟨x, ?_, hx.1, hx.2.1, hx.2.2⟩
      show (if nI nn ≤ nI nn then _ else _) = _
      rw [if_pos (by rw [nI_le' (by omega) (by omega)]; omega), i_1, nI_add]
    · intro n q x hq hx
      right
      obtain ⟨h1, h2, h3⟩ := hx
      by_cases hb' : bt' x q = true
      · refine ⟨x ||| R_tighter q, ?_, ?_, ?_, ?_⟩
        · show (if nI nn ≤ nI q then _ else _) = _
          rw [if_neg (by rw [nI_le' (by omega) (by omega)]; omega), hasBit_ok x (by omega)]
          simp (disch := omega) only [ob_i, bi_eq0, gd_nI, nI_cl]
          rw [if_neg (by simpa using hb')]
          show m_X4_reaches_19 _ _ _ _ _ _ _ (nI q + 1) = _
          rw [i_1, nI_add]
        · intro z hz h; rw [orR, h1 z hz h]; rfl
        · intro z hz h
          rw [orR, Bool.or_eq_true] at h
          rcases h with h | h
          · exact h2 z hz h
          · rw [ht q z (by omega) (by omega)] at h
            exact (h2 q hq hb').step hq h
        · intro z y hz hz0 hzy
          rw [orR, Bool.or_eq_true]
          have hy := (hA z y hzy).2
          by_cases e : z = q
          · subst e
            right
            rw [ht z y (by omega) (by omega)]; exact hzy
          · left; exact h3 z y (by omega) hz0 hzy
      · refine ⟨x, ?_, h1, h2, ?_⟩
        · show (if nI nn ≤ nI q then _ else _) = _
          rw [if_neg (by rw [nI_le' (by omega) (by omega)]; omega), hasBit_ok x (by omega)]
          simp (disch := omega) only [ob_i, bi_eq0]
          rw [if_pos hb']
          show m_X4_reaches_19 _ _ _ _ _ _ _ (nI q + 1) = _
          rw [i_1, nI_add]
        · intro z y hz hz0 hzy
          by_cases e : z = q
          · subst e
            exact absurd (h1 z hq hz0) hb'
          · exact h3 z y (by omega) hz0 hzy
  refine lpP (fun n r (x : Int32) => m_X4_reaches_7 (nI nn) R_tighter n (nI b) x (nI r)) (fun res => ∃ v : Int32, res = some v ∧ (v = 0 ∨ v = 1) ∧ (v = 0 ↔ ¬ Rch nn ar a b)) nn (fun r x => bt' x a = true ∧ (∀ q, q < nn → bt' x q = true → Rch nn ar a q) ∧ ((∀ y, y < nn → Rch nn ar a y → bt' x y = true) ∨ r + 1 ≤ cnt (bt' x) nn)) ?_ ?_ nn FU 0 _ (by omega) (by rw [FU_v]; omega) ⟨?_, ?_, ?_⟩
  · intro n x ⟨h1, h2, h3⟩
    have hc : ∀ y, y < nn → Rch nn ar a y → bt' x y = true := by
      rcases h3 with h3 | h3
      · exact h3
      · have := cnt_le (bt' x) nn
        omega
    refine ⟨bi (bt' x b = true), ?_, bi_01 _, ?_⟩
    · show (if nI nn ≤ nI nn then _ else _) = _
      rw [if_pos (by rw [nI_le' (by omega) (by omega)]; omega), hasBit_ok x (by omega)]
      simp only [ob_i, gb_bi]
    · rw [bi_eq0]
      exact ⟨fun q z => q (hc b hb z), fun q z => q (h2 b hb z)⟩
  · intro n r x hr ⟨h1, h2, h3⟩
    right
    obtain ⟨x1, e1, p1, p2, p3⟩ := pass (m_X4_reaches_7 (nI nn) R_tighter n) x r h2
    refine ⟨x1, ?_, p1 a ha h1, p2, ?_⟩
    · show (if nI nn ≤ nI r then _ else _) = _
      rw [if_neg (by rw [nI_le' (by omega) (by omega)]; omega)]
      exact e1
    · rcases h3 with h3 | h3
      · exact Or.inl (fun y hy z => p1 y hy (h3 y hy z))
      · by_cases hg : ∃ y, y < nn ∧ bt' x y = false ∧ bt' x1 y = true
        · obtain ⟨y, y1, y2, y3⟩ := hg
          have := cnt_lt (S := bt' x) (T := bt' x1) p1 y1 y2 y3
          exact Or.inr (by omega)
        · left
          intro y hy z
          have hcl : ∀ q z, q < nn → bt' x q = true → ar q z = true → bt' x z = true := by
            intro q z hq hx hqz
            have h5 := p3 q z hq hx hqz
            have hz := (hA q z hqz).2
            by_cases h6 : bt' x z = true
            · exact h6
            · exact absurd ⟨z, hz, by simpa using h6, h5⟩ hg
          have h6 := z (fun w => bt' x w = true) h1 (fun u v hu hun huv => hcl u v hun hu huv)
          exact p1 y hy h6
  · rw [one_bit (by omega) (by omega)]; simp
  · intro q hq h
    rw [one_bit (by omega) (by omega)] at h
    have : q = a := by simpa using h
    subst this
    exact Rch.rf
  · right
    have h0 : cnt (fun _ => false) nn = 0 := by
      have : ∀ k, cnt (fun _ => false) k = 0 := by
        intro k
        induction k with
        | zero => rfl
        | succ k ih => unfold cnt; rw [ih]; rfl
      exact this nn
    have := cnt_lt (S := fun _ => false) (T := bt' ((1 : Int32) <<< (nI a &&& 31))) (n := nn) (y := a) (fun _ _ h => by cases h) ha rfl (by rw [one_bit (by omega) (by omega)]; simp)
    omega
