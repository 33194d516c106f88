/-! a tree by its number: what both sides do -/
def pkN (f : Nat → Nat) : Nat → Nat → Nat → Nat × Nat
  | 0, p, l => (p, l)
  | d + 1, p, l => if l < f p then (p, l) else pkN f d (p + 1) (l - f p)
theorem pkN_ok {f : Nat → Nat} : ∀ {d p l : Nat}, l < sm f p d → p ≤ (pkN f d p l).1 ∧ (pkN f d p l).1 < p + d ∧ (pkN f d p l).2 < f (pkN f d p l).1 ∧ (pkN f d p l).2 ≤ l := by
  intro d
  induction d with
  | zero => intro p l h; rw [sm_0] at h; omega
  | succ d ih =>
    intro p l h
    unfold pkN
    rw [sm_s] at h
    by_cases q : l < f p
    · rw [if_pos q]; exact ⟨Nat.le_refl _, by show p < _; omega, q, Nat.le_refl _⟩
    · rw [if_neg q]
      obtain ⟨a, b, c, e⟩ := ih (p := p + 1) (l := l - f p) (by omega)
      exact ⟨by omega, by omega, c, by omega⟩
theorem pkN_congr {f g : Nat → Nat} : ∀ {d p l : Nat}, (∀ i, p ≤ i → i < p + d → f i = g i) → pkN f d p l = pkN g d p l := by
  intro d
  induction d with
  | zero => intro p l _; rfl
  | succ d ih =>
    intro p l h
    unfold pkN
    rw [h p (by omega) (by omega), ih (fun i h1 h2 => h i (by omega) (by omega))]
/-- what is to be unfolded: first, end, type, number, depth -/
abbrev Jb := Nat × Nat × Nat × Nat × Nat
/-- what a tree is listed as: 0 or operator + 1, first, end, depth -/
abbrev It := Nat × Nat × Nat × Nat
section UNF
/-- a hole's end, and what is left of the number -/
def hk (no : Nat) (sz : Nat → Nat) (el : Nat → Nat → Int64) (w : Nat → Int64) (at0 : Nat → Nat) (tk : Nat → Nat → Nat → Bool) (o j d a l : Nat) : Nat × Nat := pkN (fun m => HV no at0 tk (TT no sz el w at0 tk) o (sz o - (d + 1)) a m * Wx no sz el w at0 tk (TT no sz el w at0 tk) o d m j) (j - a) (a + 1) l
/-- the holes of an operator, d elements being left -/
def chil (no : Nat) (sz : Nat → Nat) (el : Nat → Nat → Int64) (w : Nat → Int64) (at0 : Nat → Nat) (tk : Nat → Nat → Nat → Bool) (o j dp : Nat) : Nat → Nat → Nat → List Jb
  | 0, _, _ => []
  | d + 1, a, l => if el o (sz o - (d + 1)) = 95 then
      (a, (hk no sz el w at0 tk o j d a l).1, tyN sz o (sz o - (d + 1)), (hk no sz el w at0 tk o j d a l).2 / cap (Wx no sz el w at0 tk (TT no sz el w at0 tk) o d (hk no sz el w at0 tk o j d a l).1 j), dp) :: chil no sz el w at0 tk o j dp d (hk no sz el w at0 tk o j d a l).1 ((hk no sz el w at0 tk o j d a l).2 % cap (Wx no sz el w at0 tk (TT no sz el w at0 tk) o d (hk no sz el w at0 tk o j d a l).1 j))
    else chil no sz el w at0 tk o j dp d (a + 1) l
/-- the operator on top -/
def topN (no : Nat) (sz : Nat → Nat) (el : Nat → Nat → Int64) (w : Nat → Int64) (at0 : Nat → Nat) (tk : Nat → Nat → Nat → Bool) (Tk : Nat → Int32) (i j t k : Nat) : Nat × Nat := pkN (fun p => if bt' (Tk t) p = true then TT no sz el w at0 tk p i j else 0) no 0 (k - at1 at0 i j)
def run (no : Nat) (sz : Nat → Nat) (el : Nat → Nat → Int64) (w : Nat → Int64) (at0 : Nat → Nat) (tk : Nat → Nat → Nat → Bool) (Tk : Nat → Int32) : Nat → List Jb → List It
  | 0, _ => []
  | _ + 1, [] => []
  | f + 1, J :: S => if J.2.2.2.1 < at1 at0 J.1 J.2.1 then (0, J.1, J.2.1, J.2.2.2.2) :: run no sz el w at0 tk Tk f S else ((topN no sz el w at0 tk Tk J.1 J.2.1 J.2.2.1 J.2.2.2.1).1 + 1, J.1, J.2.1, J.2.2.2.2) :: run no sz el w at0 tk Tk f (chil no sz el w at0 tk (topN no sz el w at0 tk Tk J.1 J.2.1 J.2.2.1 J.2.2.2.1).1 J.2.1 (J.2.2.2.2 + 1) (sz (topN no sz el w at0 tk Tk J.1 J.2.1 J.2.2.1 J.2.2.2.1).1) J.1 (topN no sz el w at0 tk Tk J.1 J.2.1 J.2.2.1 J.2.2.2.1).2 ++ S)
def vJ (no : Nat) (sz : Nat → Nat) (el : Nat → Nat → Int64) (w : Nat → Int64) (at0 : Nat → Nat) (tk : Nat → Nat → Nat → Bool) (Tk : Nat → Int32) (n : Nat) (J : Jb) : Prop := J.1 < J.2.1 ∧ J.2.1 ≤ n ∧ J.2.2.1 ≤ 2 * no ∧ J.2.2.2.1 < hvN no at0 Tk (TT no sz el w at0 tk) J.2.2.1 J.1 J.2.1
def sumw : List Jb → Nat
  | [] => 0
  | J :: S => (J.2.1 - J.1) + sumw S
theorem sumw_app : ∀ A B : List Jb, sumw (A ++ B) = sumw A + sumw B := by
  intro A
  induction A with
  | nil => intro B; simp [sumw]
  | cons J A ih => intro B; show _ + sumw (A ++ B) = _ + sumw A + sumw B; rw [ih]; omega
def prt (sz : Nat → Nat) (el : Nat → Nat → Int64) (o : Nat) : Nat → Nat
  | 0 => 0
  | d + 1 => (if el o (sz o - (d + 1)) = 95 then 0 else 1) + prt sz el o d
end UNF
section UNF2
variable {no : Nat} {sz : Nat → Nat} {el : Nat → Nat → Int64} {w : Nat → Int64} {at0 : Nat → Nat} {tk : Nat → Nat → Nat → Bool}
theorem prt_pos {o e : Nat} : ∀ {d : Nat}, d ≤ sz o → sz o - d ≤ e → e < sz o → ¬ el o e = 95 → 1 ≤ prt sz el o d := by
  intro d
  induction d with
  | zero => intro _ h1 h2; omega
  | succ d ih =>
    intro h0 h1 h2 h3
    unfold prt
    by_cases q : e = sz o - (d + 1)
    · rw [← q, if_neg h3]; omega
    · have := ih (by omega) (by omega) h2 h3
      omega
/-- the choice of a hole's end -/
theorem hole_pk {o d a j l : Nat} (hM : l < 1000000000) (hh : el o (sz o - (d + 1)) = 95) (hl : l < Wx no sz el w at0 tk (TT no sz el w at0 tk) o (d + 1) a j) {m x : Nat} (hr : hk no sz el w at0 tk o j d a l = (m, x)) :
    a < m ∧ m ≤ j ∧ x < 1000000000 ∧ x < HV no at0 tk (TT no sz el w at0 tk) o (sz o - (d + 1)) a m * Wx no sz el w at0 tk (TT no sz el w at0 tk) o d m j ∧ 1 ≤ cap (Wx no sz el w at0 tk (TT no sz el w at0 tk) o d m j) ∧ x / cap (Wx no sz el w at0 tk (TT no sz el w at0 tk) o d m j) < HV no at0 tk (TT no sz el w at0 tk) o (sz o - (d + 1)) a m ∧ x % cap (Wx no sz el w at0 tk (TT no sz el w at0 tk) o d m j) < Wx no sz el w at0 tk (TT no sz el w at0 tk) o d m j ∧ x % cap (Wx no sz el w at0 tk (TT no sz el w at0 tk) o d m j) < 1000000000 := by
  have eW : Wx no sz el w at0 tk (TT no sz el w at0 tk) o (d + 1) a j = sm (fun m => HV no at0 tk (TT no sz el w at0 tk) o (sz o - (d + 1)) a m * Wx no sz el w at0 tk (TT no sz el w at0 tk) o d m j) (a + 1) (j - a) := by
    show (if el o (sz o - (d + 1)) = 95 then _ else _) = _
    rw [if_pos hh]
  rw [eW] at hl
  unfold hk at hr
  obtain ⟨h1, h2, h3, h4⟩ := pkN_ok hl
  rw [hr] at h1 h2 h3 h4
  dsimp only at h1 h2 h3 h4
  have hp : 0 < HV no at0 tk (TT no sz el w at0 tk) o (sz o - (d + 1)) a m * Wx no sz el w at0 tk (TT no sz el w at0 tk) o d m j := by omega
  have hW : 1 ≤ Wx no sz el w at0 tk (TT no sz el w at0 tk) o d m j := by
    rcases Nat.eq_zero_or_pos (Wx no sz el w at0 tk (TT no sz el w at0 tk) o d m j) with z | z
    · rw [z, Nat.mul_zero] at hp; omega
    · exact z
  have hH : 1 ≤ HV no at0 tk (TT no sz el w at0 tk) o (sz o - (d + 1)) a m := by
    rcases Nat.eq_zero_or_pos (HV no at0 tk (TT no sz el w at0 tk) o (sz o - (d + 1)) a m) with z | z
    · rw [z, Nat.zero_mul] at hp; omega
    · exact z
  have hc : 1 ≤ cap (Wx no sz el w at0 tk (TT no sz el w at0 tk) o d m j) := by
    rcases Nat.eq_zero_or_pos (cap (Wx no sz el w at0 tk (TT no sz el w at0 tk) o d m j)) with z | z
    · rw [cap_zero] at z; omega
    · exact z
  have hcl : cap (Wx no sz el w at0 tk (TT no sz el w at0 tk) o d m j) ≤ Wx no sz el w at0 tk (TT no sz el w at0 tk) o d m j := by unfold cap; omega
  have hm := Nat.mod_lt x (show cap (Wx no sz el w at0 tk (TT no sz el w at0 tk) o d m j) > 0 by omega)
  refine ⟨by omega, by omega, by omega, h3, hc, ?_, by omega, by have := cap_le (Wx no sz el w at0 tk (TT no sz el w at0 tk) o d m j); omega⟩
  by_cases q : Wx no sz el w at0 tk (TT no sz el w at0 tk) o d m j ≤ 1000000000
  · rw [cap_id q]
    exact Nat.div_lt_of_lt_mul (by rw [Nat.mul_comm]; exact h3)
  · have e : cap (Wx no sz el w at0 tk (TT no sz el w at0 tk) o d m j) = 1000000000 := by unfold cap; omega
    rw [e, Nat.div_eq_of_lt (by omega)]; omega
theorem part_pk {o d a j l : Nat} (hh : ¬ el o (sz o - (d + 1)) = 95) (hl : l < Wx no sz el w at0 tk (TT no sz el w at0 tk) o (d + 1) a j) : a < j ∧ w a = el o (sz o - (d + 1)) ∧ l < Wx no sz el w at0 tk (TT no sz el w at0 tk) o d (a + 1) j := by
  rw [Wx_part hh] at hl
  by_cases q : a < j ∧ w a = el o (sz o - (d + 1))
  · rw [if_pos q] at hl; exact ⟨q.1, q.2, hl⟩
  · rw [if_neg q] at hl; omega
theorem chil_ok {Tk : Nat → Int32} (K : TKOK no sz tk Tk) {n o j dp : Nat} (hno : no ≤ 30) (ho : o < no) (hj : j ≤ n) : ∀ {d a l : Nat}, d ≤ sz o → l < 1000000000 → l < Wx no sz el w at0 tk (TT no sz el w at0 tk) o d a j →
    (∀ J, J ∈ chil no sz el w at0 tk o j dp d a l → vJ no sz el w at0 tk Tk n J ∧ J.2.2.2.2 = dp) ∧ sumw (chil no sz el w at0 tk o j dp d a l) + prt sz el o d = j - a := by
  intro d
  induction d with
  | zero =>
    intro a l _ _ hl
    have : Wx no sz el w at0 tk (TT no sz el w at0 tk) o 0 a j = if a = j then 1 else 0 := rfl
    rw [this] at hl
    by_cases q : a = j
    · subst q
      refine ⟨fun J h => ?_, ?_⟩
      · simp [chil] at h
      · simp [chil, sumw, prt]
    · rw [if_neg q] at hl; omega
  | succ d ih =>
    intro a l hd hM hl
    unfold chil prt
    by_cases hh : el o (sz o - (d + 1)) = 95
    · rw [if_pos hh, if_pos hh]
      cases hr : hk no sz el w at0 tk o j d a l with
      | mk m x =>
        obtain ⟨h1, h2, h3, h4, h5, h6, h7, h8⟩ := hole_pk hM hh hl hr
        obtain ⟨i1, i2⟩ := ih (a := m) (l := x % cap (Wx no sz el w at0 tk (TT no sz el w at0 tk) o d m j)) (by omega) h8 h7
        dsimp only
        refine ⟨fun J hJ => ?_, ?_⟩
        · rcases List.mem_cons.mp hJ with rfl | hJ
          · refine ⟨⟨h1, by show m ≤ n; omega, tyN_le hno ho, ?_⟩, rfl⟩
            show x / cap (Wx no sz el w at0 tk (TT no sz el w at0 tk) o d m j) < hvN no at0 Tk (TT no sz el w at0 tk) (tyN sz o (sz o - (d + 1))) a m
            rw [hv_HV K ho (by omega)]
            exact h6
          · exact i1 J hJ
        · show (m - a) + sumw _ + _ = _
          omega
    · rw [if_neg hh, if_neg hh]
      obtain ⟨h1, h2, h3⟩ := part_pk hh hl
      obtain ⟨i1, i2⟩ := ih (a := a + 1) (l := l) (by omega) hM h3
      exact ⟨i1, by omega⟩
/-- the listed items of what covers the elements from e on -/
def cv (no : Nat) (sz : Nat → Nat) (el : Nat → Nat → Int64) (w : Nat → Int64) (at0 : Nat → Nat) : Nat → Nat → Nat → Nat → Nat → Nat → List It → Prop
  | 0, _, _, _, _, _, _ => False
  | f + 1, o, e, i, j, d, its => if e = sz o then i = j ∧ its = [] else if el o e = 95 then ∃ m c r, i < m ∧ m ≤ j ∧ its = c ++ r ∧ ((m = i + 1 ∧ at0 i = 1 ∧ c = [(0, i, m, d)]) ∨ ∃ p b, p < no ∧ c = (p + 1, i, m, d) :: b ∧ cv no sz el w at0 f p 0 i m (d + 1) b) ∧ cv no sz el w at0 f o (e + 1) m j d r else i < j ∧ w i = el o e ∧ cv no sz el w at0 f o (e + 1) (i + 1) j d its
/-- the listed items of one tree -/
def tre (no : Nat) (sz : Nat → Nat) (el : Nat → Nat → Int64) (w : Nat → Int64) (at0 : Nat → Nat) (f i j d : Nat) (c : List It) : Prop := (j = i + 1 ∧ at0 i = 1 ∧ c = [(0, i, j, d)]) ∨ ∃ p b, p < no ∧ c = (p + 1, i, j, d) :: b ∧ cv no sz el w at0 f p 0 i j (d + 1) b
theorem cv_mono : ∀ {f o e i j d : Nat} {its : List It}, cv no sz el w at0 f o e i j d its → cv no sz el w at0 (f + 1) o e i j d its := by
  intro f
  induction f with
  | zero => intro o e i j d its h; exact h.elim
  | succ f ih =>
    intro o e i j d its h
    unfold cv at h ⊢
    by_cases q : e = sz o
    · rw [if_pos q] at h ⊢; exact h
    · rw [if_neg q] at h ⊢
      by_cases hh : el o e = 95
      · rw [if_pos hh] at h ⊢
        obtain ⟨m, c, r, h1, h2, h3, h4, h5⟩ := h
        refine ⟨m, c, r, h1, h2, h3, ?_, ih h5⟩
        rcases h4 with h4 | ⟨p, b, h6, h7, h8⟩
        · exact Or.inl h4
        · exact Or.inr ⟨p, b, h6, h7, ih h8⟩
      · rw [if_neg hh] at h ⊢
        exact ⟨h.1, h.2.1, ih h.2.2⟩
theorem cv_le {f g o e i j d : Nat} {its : List It} (h : cv no sz el w at0 f o e i j d its) (hg : f ≤ g) : cv no sz el w at0 g o e i j d its := by
  induction g with
  | zero => have : f = 0 := by omega
            subst this; exact h
  | succ g ih =>
    by_cases q : f = g + 1
    · subst q; exact h
    · exact cv_mono (ih (by omega))
theorem tre_le {f g i j d : Nat} {its : List It} (h : tre no sz el w at0 f i j d its) (hg : f ≤ g) : tre no sz el w at0 g i j d its := by
  rcases h with h | ⟨p, b, h6, h7, h8⟩
  · exact Or.inl h
  · exact Or.inr ⟨p, b, h6, h7, cv_le h8 hg⟩
/-- a list of trees, one for each that is to be unfolded -/
def trs (no : Nat) (sz : Nat → Nat) (el : Nat → Nat → Int64) (w : Nat → Int64) (at0 : Nat → Nat) (f : Nat) : List Jb → List It → Prop
  | [], its => its = []
  | J :: S, its => ∃ c r, its = c ++ r ∧ tre no sz el w at0 f J.1 J.2.1 J.2.2.2.2 c ∧ trs no sz el w at0 f S r
theorem trs_le {f g : Nat} (hg : f ≤ g) : ∀ {S : List Jb} {its : List It}, trs no sz el w at0 f S its → trs no sz el w at0 g S its := by
  intro S
  induction S with
  | nil => intro its h; exact h
  | cons J S ih =>
    intro its ⟨c, r, h1, h2, h3⟩
    exact ⟨c, r, h1, tre_le h2 hg, ih h3⟩
theorem trs_app {f : Nat} : ∀ {A B : List Jb} {its : List It}, trs no sz el w at0 f (A ++ B) its → ∃ c r, its = c ++ r ∧ trs no sz el w at0 f A c ∧ trs no sz el w at0 f B r := by
  intro A
  induction A with
  | nil => intro B its h; exact ⟨[], its, rfl, rfl, h⟩
  | cons J A ih =>
    intro B its ⟨c, r, h1, h2, h3⟩
    obtain ⟨c', r', h4, h5, h6⟩ := ih h3
    exact ⟨c ++ c', r', by rw [h1, h4, List.append_assoc], ⟨c, c', rfl, h2, h5⟩, h6⟩
/-- what stands in the holes covers the elements -/
theorem chil_cv {o j dp F : Nat} : ∀ {d a l : Nat} {its : List It}, d ≤ sz o → l < 1000000000 → l < Wx no sz el w at0 tk (TT no sz el w at0 tk) o d a j → trs no sz el w at0 F (chil no sz el w at0 tk o j dp d a l) its → cv no sz el w at0 (F + d + 1) o (sz o - d) a j dp its := by
  intro d
  induction d with
  | zero =>
    intro a l its _ _ hl h
    have e0 : Wx no sz el w at0 tk (TT no sz el w at0 tk) o 0 a j = if a = j then 1 else 0 := rfl
    rw [e0] at hl
    unfold cv
    rw [Nat.sub_zero, if_pos rfl]
    by_cases q : a = j
    · exact ⟨q, h⟩
    · rw [if_neg q] at hl; omega
  | succ d ih =>
    intro a l its hd hM hl h
    unfold cv
    rw [if_neg (by omega)]
    unfold chil at h
    have e1 : sz o - (d + 1) + 1 = sz o - d := by omega
    rw [e1]
    by_cases hh : el o (sz o - (d + 1)) = 95
    · rw [if_pos hh] at h ⊢
      cases hr : hk no sz el w at0 tk o j d a l with
      | mk m x =>
        rw [hr] at h
        obtain ⟨h1, h2, h3, h4, h5, h6, h7, h8⟩ := hole_pk hM hh hl hr
        obtain ⟨c, r, k1, k2, k3⟩ := h
        exact ⟨m, c, r, h1, h2, k1, tre_le k2 (by omega), ih (by omega) h8 h7 k3⟩
    · rw [if_neg hh] at h ⊢
      obtain ⟨h1, h2, h3⟩ := part_pk hh hl
      exact ⟨h1, h2, ih (by omega) hM h3 h⟩
theorem hv_lt {Tk : Nat → Int32} {T : Nat → Nat → Nat → Nat} {t i j k : Nat} (h : k < hvN no at0 Tk T t i j) : k < 1000000000 ∧ k < at1 at0 i j + sm (fun p => if bt' (Tk t) p = true then T p i j else 0) 0 no := by
  unfold hvN at h
  have := cap_le (at1 at0 i j + sm (fun p => if bt' (Tk t) p = true then T p i j else 0) 0 no)
  have h2 : cap (at1 at0 i j + sm (fun p => if bt' (Tk t) p = true then T p i j else 0) 0 no) ≤ at1 at0 i j + sm (fun p => if bt' (Tk t) p = true then T p i j else 0) 0 no := by unfold cap; omega
  omega
theorem top_ok {Tk : Nat → Int32} {n : Nat} {J : Jb} (hs : ∀ o, o < no → 1 ≤ sz o ∧ (el o 0 = 95 → 2 ≤ sz o)) (hv : vJ no sz el w at0 tk Tk n J) (hk : ¬ J.2.2.2.1 < at1 at0 J.1 J.2.1) {o r : Nat} (hr : topN no sz el w at0 tk Tk J.1 J.2.1 J.2.2.1 J.2.2.2.1 = (o, r)) : o < no ∧ r < 1000000000 ∧ r < TT no sz el w at0 tk o J.1 J.2.1 ∧ r < Wx no sz el w at0 tk (TT no sz el w at0 tk) o (sz o) J.1 J.2.1 ∧ bt' (Tk J.2.2.1) o = true := by
  obtain ⟨v1, v2, v3, v4⟩ := hv
  obtain ⟨u1, u2⟩ := hv_lt v4
  unfold topN at hr
  obtain ⟨h1, h2, h3, h4⟩ := pkN_ok (f := fun p => if bt' (Tk J.2.2.1) p = true then TT no sz el w at0 tk p J.1 J.2.1 else 0) (d := no) (p := 0) (l := J.2.2.2.1 - at1 at0 J.1 J.2.1) (by omega)
  rw [hr] at h1 h2 h3 h4
  dsimp only at h1 h2 h3 h4
  have ho : o < no := by omega
  by_cases q : bt' (Tk J.2.2.1) o = true
  · rw [if_pos q] at h3
    refine ⟨ho, by omega, h3, ?_, q⟩
    rw [TT_eq hs ho v1] at h3
    have : cap (Wx no sz el w at0 tk (TT no sz el w at0 tk) o (sz o) J.1 J.2.1) ≤ Wx no sz el w at0 tk (TT no sz el w at0 tk) o (sz o) J.1 J.2.1 := by unfold cap; omega
    omega
  · rw [if_neg q] at h3; omega
theorem run_ok {Tk : Nat → Int32} (K : TKOK no sz tk Tk) {n : Nat} (hno : no ≤ 30) (hs : ∀ o, o < no → 1 ≤ sz o ∧ (el o 0 = 95 → 2 ≤ sz o)) (hp : ∀ o, o < no → ∃ e, e < sz o ∧ ¬ el o e = 95) (ha1 : ∀ k, at0 k ≤ 1) : ∀ (f : Nat) (S : List Jb), (∀ J, J ∈ S → vJ no sz el w at0 tk Tk n J) → sumw S ≤ f → ∃ F, trs no sz el w at0 F S (run no sz el w at0 tk Tk f S) := by
  intro f
  induction f with
  | zero =>
    intro S hv hS
    cases S with
    | nil => exact ⟨0, rfl⟩
    | cons J S =>
      have := (hv J (List.mem_cons_self ..)).1
      have e : sumw (J :: S) = (J.2.1 - J.1) + sumw S := rfl
      omega
  | succ f ih =>
    intro S hv hS
    cases S with
    | nil => exact ⟨0, rfl⟩
    | cons J S =>
      have hJ := hv J (List.mem_cons_self ..)
      have e : sumw (J :: S) = (J.2.1 - J.1) + sumw S := rfl
      have hJ1 := hJ.1
      unfold run
      by_cases q : J.2.2.2.1 < at1 at0 J.1 J.2.1
      · rw [if_pos q]
        obtain ⟨F, hF⟩ := ih S (fun J' h => hv J' (List.mem_cons_of_mem _ h)) (by omega)
        have hat : J.2.1 = J.1 + 1 ∧ at0 J.1 = 1 := by
          unfold at1 at q
          by_cases z : J.2.1 = J.1 + 1
          · rw [if_pos z] at q
            have := ha1 J.1
            exact ⟨z, by omega⟩
          · rw [if_neg z] at q; omega
        exact ⟨F, [(0, J.1, J.2.1, J.2.2.2.2)], _, rfl, Or.inl ⟨hat.1, hat.2, rfl⟩, hF⟩
      · rw [if_neg q]
        cases hr : topN no sz el w at0 tk Tk J.1 J.2.1 J.2.2.1 J.2.2.2.1 with
        | mk o r =>
          obtain ⟨ho, h1, h2, h3, h4⟩ := top_ok hs hJ q hr
          obtain ⟨c1, c2⟩ := chil_ok (dp := J.2.2.2.2 + 1) K hno ho hJ.2.1 (Nat.le_refl (sz o)) h1 h3
          obtain ⟨e0, he0, he1⟩ := hp o ho
          have hpp : 1 ≤ prt sz el o (sz o) := prt_pos (Nat.le_refl _) (by omega) he0 he1
          obtain ⟨F, hF⟩ := ih (chil no sz el w at0 tk o J.2.1 (J.2.2.2.2 + 1) (sz o) J.1 r ++ S) (fun J' h => by
            rcases List.mem_append.mp h with h | h
            · exact (c1 J' h).1
            · exact hv J' (List.mem_cons_of_mem _ h)) (by rw [sumw_app]; omega)
          obtain ⟨c, r', k1, k2, k3⟩ := trs_app hF
          have k4 := chil_cv (Nat.le_refl (sz o)) h1 h3 k2
          rw [Nat.sub_self] at k4
          refine ⟨F + sz o + 1, (o + 1, J.1, J.2.1, J.2.2.2.2) :: c, r', ?_, Or.inr ⟨o, c, ho, rfl, k4⟩, trs_le (by omega) k3⟩
          dsimp only
          rw [k1]; rfl
end UNF2
