/-! the reference: whether arrows lead from a node to another -/
def LI (nn : Nat) (ar : Nat → Nat → Bool) (a : Nat) (S D : Nat → Bool) (sk : Nat → Nat) (n : Nat) : Prop := (∀ x, S x = true → x < nn ∧ Rch nn ar a x) ∧ (∀ x, D x = true → S x = true) ∧ (∀ q, q < n → S (sk q) = true ∧ D (sk q) = false) ∧ (∀ q r, q < n → r < n → sk q = sk r → q = r) ∧ (∀ x, S x = true → D x = true ∨ ∃ q, q < n ∧ sk q = x) ∧ S a = true ∧ cnt S nn = n + cnt D nn
def sB (S : Nat → Bool) (y : Nat) : Nat → Bool := fun q => if q = y then true else S q
theorem sB_s {S : Nat → Bool} {y : Nat} : sB S y y = true := if_pos rfl
theorem sB_n {S : Nat → Bool} {y q : Nat} (h : q ≠ y) : sB S y q = S q := if_neg h
def sN (f : Nat → Nat) (y v : Nat) : Nat → Nat := fun q => if q = y then v else f q
theorem sN_s {S : Nat → Nat} {y v : Nat} : sN S y v y = v := if_pos rfl
theorem sN_n {S : Nat → Nat} {y v q : Nat} (h : q ≠ y) : sN S y v q = S q := if_neg h
theorem nar_1 : vp_nar .boolean 1 = 1 := rfl
theorem nar_0 : vp_nar .boolean 0 = 0 := rfl
section LEADS
variable {nn : Nat} {ar : Nat → Nat → Bool} {Ti : Nat → Int32} {a : Nat}
theorem LI_push {S D : Nat → Bool} {sk : Nat → Nat} {n y : Nat} (h : LI nn ar a S D sk n) (hy : y < nn) (hr : Rch nn ar a y) (hS : S y = false) : LI nn ar a (sB S y) D (sN sk n y) (n + 1) := by
  obtain ⟨h1, h2, h3, h4, h5, h6, h7⟩ := h
  have hD : D y = false := by
    cases z : D y with
    | false => rfl
    | true => rw [h2 y z] at hS; cases hS
  have up : ∀ x, S x = true → sB S y x = true := by
    intro x hx
    by_cases z : x = y
    · rw [z]; exact sB_s
    · rw [sB_n z]; exact hx
  refine ⟨?_, fun x hx => up x (h2 x hx), ?_, ?_, ?_, up a h6, ?_⟩
  · intro x hx
    by_cases z : x = y
    · rw [z]; exact ⟨hy, hr⟩
    · rw [sB_n z] at hx; exact h1 x hx
  · intro q hq
    by_cases z : q = n
    · rw [z, sN_s]; exact ⟨sB_s, hD⟩
    · rw [sN_n z]
      obtain ⟨a1, a2⟩ := h3 q (by omega)
      exact ⟨up _ a1, a2⟩
  · intro q r hq hr' he
    by_cases z : q = n
    · by_cases z2 : r = n
      · omega
      · rw [z, sN_s, sN_n z2] at he
        have := (h3 r (by omega)).1
        rw [← he, hS] at this; cases this
    · by_cases z2 : r = n
      · rw [z2, sN_s, sN_n z] at he
        have := (h3 q (by omega)).1
        rw [he, hS] at this; cases this
      · rw [sN_n z, sN_n z2] at he
        exact h4 q r (by omega) (by omega) he
  · intro x hx
    by_cases z : x = y
    · exact Or.inr ⟨n, by omega, by rw [sN_s, z]⟩
    · rw [sB_n z] at hx
      rcases h5 x hx with h | ⟨q, q1, q2⟩
      · exact Or.inl h
      · exact Or.inr ⟨q, by omega, by rw [sN_n (by omega)]; exact q2⟩
  · rw [cnt_add hy hS sB_s (fun q _ hq => sB_n hq), h7]; omega
theorem LI_pop {S D : Nat → Bool} {sk : Nat → Nat} {n : Nat} (h : LI nn ar a S D sk (n + 1)) : LI nn ar a S (sB D (sk n)) sk n := by
  obtain ⟨h1, h2, h3, h4, h5, h6, h7⟩ := h
  obtain ⟨t1, t2⟩ := h3 n (by omega)
  refine ⟨h1, ?_, ?_, fun q r hq hr he => h4 q r (by omega) (by omega) he, ?_, h6, ?_⟩
  · intro x hx
    by_cases z : x = sk n
    · rw [z]; exact t1
    · rw [sB_n z] at hx; exact h2 x hx
  · intro q hq
    obtain ⟨a1, a2⟩ := h3 q (by omega)
    refine ⟨a1, ?_⟩
    rw [sB_n (fun z => by have := h4 q n (by omega) (by omega) z; omega)]; exact a2
  · intro x hx
    rcases h5 x hx with h | ⟨q, q1, q2⟩
    · left
      by_cases z : x = sk n
      · rw [z]; exact sB_s
      · rw [sB_n z]; exact h
    · by_cases z : q = n
      · left; rw [← q2, z]; exact sB_s
      · exact Or.inr ⟨q, by omega, q2⟩
  · rw [cnt_add (h1 _ t1).1 t2 sB_s (fun q _ hq => sB_n hq)]; omega
def sRep (S : Nat → Bool) (sk : Nat → Nat) (n : Nat) (seen walk : Nat → Int32) : Prop := (∀ q, q < 16 → seen q = bi (S q = true)) ∧ ∀ q, q < n → walk q = nI (sk q)
set_option maxHeartbeats 1000000 in
theorem leads_ok (hn : nn ≤ 16) (ht : ∀ a b, a < 16 → b < 16 → Ti (16 * a + b) = bi (ar a b = true)) (hA : ∀ x y, ar x y = true → x < nn ∧ y < nn) {b : Nat} (ha : a < nn) (hb : b < nn) (seen walk : Nat → Int32) : ∃ (v : Int32) (s w : Nat → Int32), m_X9_leads (nI nn) Ti seen walk (nI a) (nI b) = some (v, s, w) ∧ (v = 0 ∨ v = 1) ∧ (v = 0 ↔ ¬ Rch nn ar a b) := by
  -- what a popped one leads to
  have inner : ∀ (k37 : (Nat → Int32) → (Nat → Int32) → Int32 → Int32 → Option (Int32 × (Nat → Int32) × (Nat → Int32))) (D : Nat → Bool) (x : Nat), x < nn → Rch nn ar a x → D x = true → ∀ (r y fu : Nat) (S : Nat → Bool) (sk : Nat → Nat) (n : Nat) (seen walk : Nat → Int32), y + r = nn → r < fu → LI nn ar a S D sk n → sRep S sk n seen walk → (∀ y', y' < y → ar x y' = true → S y' = true) → ∃ S' sk' n' seen' walk', m_X9_leads_55 (nI nn) Ti k37 fu seen walk (nI b) (nI n) (nI x) (nI y) = k37 seen' walk' (nI b) (nI n') ∧ LI nn ar a S' D sk' n' ∧ sRep S' sk' n' seen' walk' ∧ (∀ z, S z = true → S' z = true) ∧ ∀ y', y' < nn → ar x y' = true → S' y' = true := by
    intro k37 D x hx hrx hDx r
    induction r with
    | zero =>
      intro y fu S sk n seen walk hy hf hL hR hc
      obtain ⟨fu, rfl⟩ : ∃ z, fu = z + 1 := ⟨fu - 1, by omega⟩
      have e0 : m_X9_leads_55 (nI nn) Ti k37 (fu + 1) seen walk (nI b) (nI n) (nI x) (nI y) = m_X9_leads_55 (nI nn) Ti k37 (fu + 1) seen walk (nI b) (nI n) (nI x) (nI y) := rfl
      conv at e0 => rhs; unfold m_X9_leads_55
      rw [if_pos (by rw [nI_le' (by omega) (by omega)]; omega)] at e0
      exact ⟨S, sk, n, seen, walk, e0, hL, hR, fun _ h => h, fun y' hy' => hc y' (by omega)⟩
    | succ r ih =>
      intro y fu S sk n seen walk hy hf hL hR hc
      obtain ⟨fu, rfl⟩ : ∃ z, fu = z + 1 := ⟨fu - 1, by omega⟩
      have hcs := hL.2.2.2.2.2.2
      have hle := cnt_le S nn
      have hD1 : 1 ≤ cnt D nn := by
        have := cnt_lt (S := fun _ => false) (T := D) (n := nn) (y := x) (fun q _ h => by cases h) hx rfl hDx
        omega
      have e0 : m_X9_leads_55 (nI nn) Ti k37 (fu + 1) seen walk (nI b) (nI n) (nI x) (nI y) = m_X9_leads_55 (nI nn) Ti k37 (fu + 1) seen walk (nI b) (nI n) (nI x) (nI y) := rfl
      conv at e0 => rhs; unfold m_X9_leads_55
      unfold m_X9_leads_109 at e0
      rw [if_neg (by rw [nI_le' (by omega) (by omega)]; omega), i_16, pk_mul, nI_add, gd_nI (by omega) (by omega), nI_cl (by omega), ht x y (by omega) (by omega), nI_1] at e0
      by_cases q : ar x y = true
      · rw [if_neg (by rw [bi_eq0]; simpa using q), gd_nI (by omega) (by omega), nI_cl (by omega), hR.1 y (by omega)] at e0
        by_cases q2 : S y = true
        · rw [if_neg (by rw [bi_eq0]; simpa using q2)] at e0
          obtain ⟨S', sk', n', seen', walk', z1, z2⟩ := ih (y + 1) fu S sk n seen walk (by omega) (by omega) hL hR (fun y' hy' ha' => by
            by_cases z : y' = y
            · rw [z]; exact q2
            · exact hc y' (by omega) ha')
          exact ⟨S', sk', n', seen', walk', e0.trans z1, z2⟩
        · have q2 : S y = false := by simpa using q2
          have hn16 : n < 16 := by
            have := cnt_lt (S := S) (T := fun _ => true) (n := nn) (y := y) (fun _ _ _ => rfl) (by omega) q2 rfl
            have := cnt_le (fun _ => true) nn
            omega
          rw [if_pos (by rw [bi_eq0, q2]; decide), gd_nI (by omega) (by omega), gd_nI hn16 (by omega), nI_cl (by omega), nI_1, nar_1] at e0
          obtain ⟨S', sk', n', seen', walk', z1, z2, z3, z4, z5⟩ := ih (y + 1) fu (sB S y) (sN sk n y) (n + 1) (upd seen y 1) (upd walk n (nI y)) (by omega) (by omega) (LI_push hL (by omega) (Rch.step hrx hx q) q2) ⟨fun q' hq' => by
              by_cases z : q' = y
              · rw [z, pk_us, sB_s, bi_t rfl]
              · rw [pk_un z, sB_n z]; exact hR.1 q' hq', fun q' hq' => by
              by_cases z : q' = n
              · rw [z, pk_us, sN_s]
              · rw [pk_un z, sN_n z]; exact hR.2 q' (by omega)⟩ (fun y' hy' ha' => by
            by_cases z : y' = y
            · rw [z]; exact sB_s
            · rw [sB_n z]; exact hc y' (by omega) ha')
          refine ⟨S', sk', n', seen', walk', e0.trans z1, z2, z3, fun z hz => z4 z ?_, z5⟩
          by_cases w : z = y
          · rw [w]; exact sB_s
          · rw [sB_n w]; exact hz
      · rw [if_pos (by rw [bi_eq0]; exact q)] at e0
        obtain ⟨S', sk', n', seen', walk', z1, z2⟩ := ih (y + 1) fu S sk n seen walk (by omega) (by omega) hL hR (fun y' hy' ha' => by
          by_cases z : y' = y
          · rw [z] at ha'; exact absurd ha' q
          · exact hc y' (by omega) ha')
        exact ⟨S', sk', n', seen', walk', e0.trans z1, z2⟩
  have fin : ∀ (fu : Nat) (S D : Nat → Bool) (sk : Nat → Nat) (seen walk : Nat → Int32), LI nn ar a S D sk 0 → sRep S sk 0 seen walk → (∀ x y', D x = true → y' < nn → ar x y' = true → S y' = true) → ∃ (v : Int32) (s w : Nat → Int32), m_X9_leads_37 (nI nn) Ti (fu + 1) seen walk (nI b) (nI 0) = some (v, s, w) ∧ (v = 0 ∨ v = 1) ∧ (v = 0 ↔ ¬ Rch nn ar a b) := by
    intro fu S D sk seen walk hL hR hc
    have e0 : m_X9_leads_37 (nI nn) Ti (fu + 1) seen walk (nI b) (nI 0) = m_X9_leads_37 (nI nn) Ti (fu + 1) seen walk (nI b) (nI 0) := rfl
    conv at e0 => rhs; unfold m_X9_leads_37
    rw [if_pos (show nI 0 ≤ 0 by decide), gd_nI (by omega) (by omega), nI_cl (by omega), hR.1 b (by omega), gb_bi] at e0
    refine ⟨_, _, _, e0, bi_01 _, ?_⟩
    rw [bi_eq0]
    constructor
    · intro h hr
      apply h
      refine hr (fun x => S x = true) hL.2.2.2.2.2.1 (fun x y hx hxn hxy => ?_)
      rcases hL.2.2.2.2.1 x hx with hd | ⟨q, q1, _⟩
      · exact hc x y hd (hA x y hxy).2 hxy
      · omega
    · intro h hs
      exact h (hL.1 b hs).2
  have outer : ∀ (k fu : Nat) (S D : Nat → Bool) (sk : Nat → Nat) (n : Nat) (seen walk : Nat → Int32), nn - cnt D nn ≤ k → k < fu → LI nn ar a S D sk n → sRep S sk n seen walk → (∀ x y', D x = true → y' < nn → ar x y' = true → S y' = true) → ∃ (v : Int32) (s w : Nat → Int32), m_X9_leads_37 (nI nn) Ti fu seen walk (nI b) (nI n) = some (v, s, w) ∧ (v = 0 ∨ v = 1) ∧ (v = 0 ↔ ¬ Rch nn ar a b) := by
    intro k
    induction k with
    | zero =>
      intro fu S D sk n seen walk hk hf hL hR hc
      obtain ⟨fu, rfl⟩ : ∃ z, fu = z + 1 := ⟨fu - 1, by omega⟩
      have hcs := hL.2.2.2.2.2.2
      have hle := cnt_le S nn
      have hn0 : n = 0 := by omega
      subst hn0
      exact fin fu S D sk seen walk hL hR hc
    | succ k ih =>
      intro fu S D sk n seen walk hk hf hL hR hc
      obtain ⟨fu, rfl⟩ : ∃ z, fu = z + 1 := ⟨fu - 1, by omega⟩
      have hcs := hL.2.2.2.2.2.2
      have hle := cnt_le S nn
      cases n with
      | zero => exact fin fu S D sk seen walk hL hR hc
      | succ m =>
        obtain ⟨t1, t2⟩ := hL.2.2.1 m (by omega)
        obtain ⟨t3, t4⟩ := hL.1 _ t1
        have hL' := LI_pop hL
        have hcD : cnt (sB D (sk m)) nn = cnt D nn + 1 := cnt_add t3 t2 sB_s (fun q _ hq => sB_n hq)
        have e0 : m_X9_leads_37 (nI nn) Ti (fu + 1) seen walk (nI b) (nI (m + 1)) = m_X9_leads_37 (nI nn) Ti (fu + 1) seen walk (nI b) (nI (m + 1)) := rfl
        conv at e0 => rhs; unfold m_X9_leads_37
        rw [if_neg (by rw [nI_le0' (by omega)]; omega), pk_m1, gd_nI (by omega) (by omega), nI_cl (by omega), hR.2 m (by omega)] at e0
        obtain ⟨S', sk', n', seen', walk', z1, z2, z3, z4, z5⟩ := inner (m_X9_leads_37 (nI nn) Ti fu) (sB D (sk m)) (sk m) t3 t4 sB_s nn 0 FU S sk m seen walk (by omega) (by rw [FU_v]; omega) hL' ⟨hR.1, fun q hq => hR.2 q (by omega)⟩ (fun y' hy' => by omega)
        obtain ⟨v, s, w, y1, y2⟩ := ih fu S' (sB D (sk m)) sk' n' seen' walk' (by omega) (by omega) z2 z3 (fun x y' hx hy hxy => by
          by_cases z : x = sk m
          · rw [z] at hxy; exact z5 y' hy hxy
          · rw [sB_n z] at hx; exact z4 y' (hc x y' hx hy hxy))
        exact ⟨v, s, w, e0.trans (z1.trans y1), y2⟩
  -- all are unseen
  unfold m_X9_leads
  have cl := lpP (σ := Nat → Int32) (fun k q s => m_X9_leads_2 (nI nn) Ti k s walk (nI a) (nI b) (nI q)) (fun r => ∃ s', (∀ q, q < 16 → s' q = 0) ∧ r = m_X9_leads_37 (nI nn) Ti FU (upd s' a 1) (upd walk 0 (nI a)) (nI b) (nI 1)) 16 (fun q s => ∀ q', q' < q → s q' = 0)
    (fun k s hs => by
      have e0 : m_X9_leads_2 (nI nn) Ti (k + 1) s walk (nI a) (nI b) (nI 16) = m_X9_leads_2 (nI nn) Ti (k + 1) s walk (nI a) (nI b) (nI 16) := rfl
      conv at e0 => rhs; unfold m_X9_leads_2
      have hg : ∀ r : Option (Int32 × (Nat → Int32) × (Nat → Int32)), gd 0 16 r = r := fun r => gd_nI (i := 0) (by omega) (by omega)
      rw [if_pos (show (16 : Int32) ≤ nI 16 by decide), hg, gd_nI (by omega) (by omega), nI_cl (by omega), nar_1] at e0
      exact ⟨s, hs, e0⟩)
    (fun k q s hq hs => by
      right
      have e0 : m_X9_leads_2 (nI nn) Ti (k + 1) s walk (nI a) (nI b) (nI q) = m_X9_leads_2 (nI nn) Ti (k + 1) s walk (nI a) (nI b) (nI q) := rfl
      conv at e0 => rhs; unfold m_X9_leads_2
      rw [if_neg (by rw [i_16, nI_le' (by omega) (by omega)]; omega), gd_nI (by omega) (by omega), nI_cl (by omega), nar_0, nI_1] at e0
      refine ⟨_, e0, fun q' hq' => ?_⟩
      by_cases z : q' = q
      · rw [z, pk_us]
      · rw [pk_un z]; exact hs q' (by omega))
    16 FU 0 seen (by omega) (by rw [FU_v]; omega) (fun q' h => by omega)
  obtain ⟨s', c1, c2⟩ := cl
  have c2 : m_X9_leads_2 (nI nn) Ti FU seen walk (nI a) (nI b) 0 = _ := c2
  rw [c2]
  refine outer nn FU (sB (fun _ => false) a) (fun _ => false) (fun _ => a) 1 _ _ (by omega) (by rw [FU_v]; omega) ⟨?_, fun x hx => absurd hx (show ¬ false = true by decide), fun q _ => ⟨sB_s, rfl⟩, fun q r hq hr _ => (by omega), ?_, sB_s, ?_⟩ ⟨?_, ?_⟩ (fun x y' hx => absurd hx (show ¬ false = true by decide))
  · intro x hx
    by_cases z : x = a
    · rw [z]; exact ⟨ha, Rch.rf⟩
    · rw [sB_n z] at hx; cases hx
  · intro x hx
    by_cases z : x = a
    · exact Or.inr ⟨0, by omega, z.symm⟩
    · rw [sB_n z] at hx; cases hx
  · rw [cnt_add (S := fun _ => false) ha rfl sB_s (fun q _ hq => sB_n hq)]; omega
  · intro q hq
    by_cases z : q = a
    · rw [z, pk_us, sB_s, bi_t rfl]
    · rw [pk_un z, sB_n z, c1 q hq, bi_f (by decide)]
  · intro q hq
    have : q = 0 := by omega
    rw [this, pk_us]
end LEADS
