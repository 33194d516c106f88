/-! the reference reads a written tree: all its words -/
def cn : List En → Nat
  | [] => 0
  | e :: S => (if e.1 = 40 then 0 else 1) + cn S
theorem cn_le : ∀ S : List En, cn S ≤ S.length := by
  intro S
  induction S with
  | nil => exact Nat.le_refl _
  | cons e S ih => show _ + cn S ≤ S.length + 1; split <;> omega
def repD (Sd : Nat → Int64) (Stt Sf Ot : Nat → Int32) : List En → Prop
  | [] => True
  | e :: S => (if e.1 = 40 then Sf (nop S) = nI (cn S) ∧ Ot (nop S) = nI (flatS S).length else (e.1 = 95 → Stt (cn S) = nI (flatS S).length) ∧ (¬ e.1 = 95 → Stt (cn S) = -1 ∧ Sd (cn S) = (if e.1 = 41 then 95 else e.1))) ∧ repD Sd Stt Sf Ot S
theorem repD_frame {Sd Sd' : Nat → Int64} {Stt Sf Ot Stt' Sf' Ot' : Nat → Int32} : ∀ {S : List En}, (∀ q, q < cn S → Sd' q = Sd q ∧ Stt' q = Stt q) → (∀ q, q < nop S → Sf' q = Sf q ∧ Ot' q = Ot q) → repD Sd Stt Sf Ot S → repD Sd' Stt' Sf' Ot' S := by
  intro S
  induction S with
  | nil => intro _ _ _; trivial
  | cons e S ih =>
    intro h1 h2 ⟨h3, h4⟩
    have e1 : cn (e :: S) = (if e.1 = 40 then 0 else 1) + cn S := rfl
    have e2 : nop (e :: S) = (if e.1 = 40 then 1 else 0) + nop S := rfl
    refine ⟨?_, ih (fun q hq => h1 q (by omega)) (fun q hq => h2 q (by omega)) h4⟩
    by_cases q : e.1 = 40
    · rw [if_pos q] at h3 e2 ⊢
      obtain ⟨z1, z2⟩ := h2 (nop S) (by omega)
      rw [z1, z2]; exact h3
    · rw [if_neg q] at h3 e1 ⊢
      obtain ⟨z1, z2⟩ := h1 (cn S) (by omega)
      rw [z1, z2]; exact h3
def itR (To Tf Tw : Nat → Int32) (L : List It) : Prop := ∀ q it, L[q]? = some it → To q = topv it.1 ∧ Tf q = nI it.2.1 ∧ (it.2.1 < it.2.2.1 → Tw q = nI (it.2.2.1 - it.2.1))
theorem itR_push {To Tf Tw To' Tf' Tw' : Nat → Int32} {L : List It} {it : It} (h : itR To Tf Tw L) (h1 : ∀ q, q < L.length → To' q = To q ∧ Tf' q = Tf q ∧ Tw' q = Tw q) (h2 : To' L.length = topv it.1 ∧ Tf' L.length = nI it.2.1 ∧ (it.2.1 < it.2.2.1 → Tw' L.length = nI (it.2.2.1 - it.2.1))) : itR To' Tf' Tw' (L ++ [it]) := by
  intro q x hq
  by_cases z : q < L.length
  · rw [List.getElem?_append_left z] at hq
    obtain ⟨a, b, c⟩ := h1 q z
    rw [a, b, c]; exact h q x hq
  · rw [List.getElem?_append_right (by omega)] at hq
    by_cases y : q = L.length
    · subst y
      rw [Nat.sub_self] at hq
      have hq : it = x := Option.some.inj hq
      subst hq; exact h2
    · obtain ⟨k, hk⟩ : ∃ k, q - L.length = k + 1 := ⟨q - L.length - 1, by omega⟩
      rw [hk] at hq
      simp at hq
theorem up_ok {Sd : Nat → Int64} {Stt Sf Ot : Nat → Int32} : ∀ {S : List En}, repD Sd Stt Sf Ot S → (nop S = 0 → upS S = -1) ∧ (1 ≤ nop S → Ot (nop S - 1) = upS S) := by
  intro S
  induction S with
  | nil => intro _; exact ⟨fun _ => rfl, fun h => absurd h (by decide)⟩
  | cons e S ih =>
    intro ⟨h3, h4⟩
    obtain ⟨a1, a2⟩ := ih h4
    have e2 : nop (e :: S) = (if e.1 = 40 then 1 else 0) + nop S := rfl
    have e3 : upS (e :: S) = (if e.1 = 40 then nI (flatS S).length else upS S) := rfl
    by_cases q : e.1 = 40
    · rw [if_pos q] at h3 e2 e3
      rw [e3]
      exact ⟨fun z => by omega, fun _ => by rw [e2, show 1 + nop S - 1 = nop S by omega]; exact h3.2⟩
    · rw [if_neg q, Nat.zero_add] at e2
      rw [if_neg q] at e3
      rw [e2, e3]
      exact ⟨a1, a2⟩
def stC (Sd : Nat → Int64) (Stt : Nat → Int32) : Nat → Nat → List En → Prop
  | _, _, [] => True
  | q, b, x :: A => (x.1 = 95 → Stt q = nI b) ∧ (¬ x.1 = 95 → Stt q = -1 ∧ Sd q = (if x.1 = 41 then 95 else x.1)) ∧ stC Sd Stt (q + 1) (b + x.2.2.2.2.2.length) A
theorem stC_snoc {Sd : Nat → Int64} {Stt : Nat → Int32} {e : En} : ∀ {A : List En} {q b : Nat}, stC Sd Stt q b A → stC Sd Stt (q + A.length) (b + (flatA A).length) [e] → stC Sd Stt q b (A ++ [e]) := by
  intro A
  induction A with
  | nil => intro q b _ h; exact h
  | cons x A ih =>
    intro q b ⟨h1, h2, h3⟩ h
    refine ⟨h1, h2, ih h3 ?_⟩
    have e1 : (flatA (x :: A)).length = x.2.2.2.2.2.length + (flatA A).length := by
      show (x.2.2.2.2.2 ++ flatA A).length = _
      rw [List.length_append]
    rw [List.length_cons, e1] at h
    rw [show q + 1 + A.length = q + (A.length + 1) by omega, Nat.add_assoc]
    exact h
theorem stC_stA {Sd : Nat → Int64} {Stt : Nat → Int32} : ∀ {A : List En} {q b : Nat}, stC Sd Stt q b A → b + (flatA A).length < 2 ^ 31 → stA Sd Stt q A := by
  intro A
  induction A with
  | nil => intro q b _ _ e x h; simp at h
  | cons y A ih =>
    intro q b ⟨h1, h2, h3⟩ hb e x hx
    have e1 : (flatA (y :: A)).length = y.2.2.2.2.2.length + (flatA A).length := by
      show (y.2.2.2.2.2 ++ flatA A).length = _
      rw [List.length_append]
    cases e with
    | zero =>
      have hx : y = x := by simpa using hx
      subst hx
      exact ⟨fun z => ⟨b, by omega, h1 z⟩, h2⟩
    | succ e =>
      have := ih h3 (by omega) e x (by simpa using hx)
      rw [show q + (e + 1) = q + 1 + e by omega]
      exact this
theorem cn_seg {o : En} {rest : List En} (ho : o.1 = 40) : ∀ {seg : List En}, (∀ x, x ∈ seg → ¬ x.1 = 40) → cn (seg ++ o :: rest) = cn rest + seg.length := by
  intro seg
  induction seg with
  | nil => intro _; show (if o.1 = 40 then 0 else 1) + cn rest = _; rw [if_pos ho]; exact Nat.zero_add _
  | cons e S ih =>
    intro h
    show (if e.1 = 40 then 0 else 1) + cn (S ++ o :: rest) = _
    rw [if_neg (h e (List.mem_cons_self ..)), ih (fun x hx => h x (List.mem_cons_of_mem _ hx)), List.length_cons]; omega
theorem repD_seg {Sd : Nat → Int64} {Stt Sf Ot : Nat → Int32} {o : En} {rest : List En} (ho : o.1 = 40) : ∀ {seg : List En}, (∀ x, x ∈ seg → ¬ x.1 = 40) → repD Sd Stt Sf Ot (seg ++ o :: rest) → stC Sd Stt (cn rest) ((flatS rest).length + 1) seg.reverse ∧ repD Sd Stt Sf Ot (o :: rest) := by
  intro seg
  induction seg with
  | nil => intro _ h; exact ⟨trivial, h⟩
  | cons e S ih =>
    intro hs ⟨h1, h2⟩
    have hs' : ∀ x, x ∈ S → ¬ x.1 = 40 := fun x hx => hs x (List.mem_cons_of_mem _ hx)
    obtain ⟨a1, a2⟩ := ih hs' h2
    rw [if_neg (hs e (List.mem_cons_self ..))] at h1
    have e3 : S.append (o :: rest) = S ++ o :: rest := rfl
    refine ⟨?_, a2⟩
    rw [List.reverse_cons]
    apply stC_snoc a1
    rw [e3, cn_seg ho hs', flatS_seg ho hs', List.length_append, List.length_cons, show (flatS rest).length + ((flatA S.reverse).length + 1) = (flatS rest).length + 1 + (flatA S.reverse).length by omega] at h1
    rw [List.length_reverse]
    exact ⟨h1.1, h1.2, trivial⟩
def RM (w Cw0 Cw : Nat → Int64) (To Tf Tw : Nat → Int32) (tn : Int32) (Ot : Nat → Int32) (Sd : Nat → Int64) (Stt Sf : Nat → Int32) (sn : Int32) (S : List En) : Prop :=
  (∀ k, k < pos S → k < 40 → Cw (40 + k) = w k) ∧ (∀ k, k < 40 → Cw k = Cw0 k) ∧ repD Sd Stt Sf Ot S ∧ itR To Tf Tw (flatS S) ∧ tn = nI (flatS S).length ∧ sn = nI (cn S)
section MTOLD
variable {C : Nat → Int32} {E : Nat → Int64} {no : Nat} {sz : Nat → Nat} {el : Nat → Nat → Int64} {w : Nat → Int64} {at0 : Nat → Nat} {tk : Nat → Nat → Nat → Bool} {Tk : Nat → Int32} {Wd Cw0 : Nat → Int64} {wc : Nat}
/-- the elements are told -/
theorem elements_ok (G : RG C E (nI no) no sz el) {p x1 fr : Nat} (hp : p < no) (hx1 : x1 < 760) {k19 : (Nat → Int64) → (Nat → Int32) → (Nat → Int32) → (Nat → Int32) → (Nat → Int32) → (Nat → Int32) → Int32 → (Nat → Int32) → (Nat → Int64) → (Nat → Int32) → (Nat → Int32) → Int32 → Int32 → Int32 → Int32 → Int32 → Option (Int32 × (Nat → Int64) × (Nat → Int32) × (Nat → Int32) × (Nat → Int32) × (Nat → Int32) × (Nat → Int32) × Int32 × (Nat → Int32) × (Nat → Int64) × (Nat → Int32) × (Nat → Int32) × Int32)} {Cw : Nat → Int64} {To Tf Tw Tu : Nat → Int32} {tn : Int32} {Ot : Nat → Int32} {Sd : Nat → Int64} {Stt Sf : Nat → Int32} {sn x2 x4 x7 : Int32} (hSf : Sf x1 = nI fr) {d : Nat} {u : Int32} : ∀ (A : List En) (e b i j fu : Nat) (Tel : Nat → Int32), e + A.length = sz p → fr + sz p ≤ 750 → b + (flatA A).length ≤ 751 → A.length < fu → stC Sd Stt (fr + e) b A → vgA Tu Tel no sz el w at0 tk Tk d u A i j b →
    ∃ Tel' fu', m_X9_readTold_175 (nI no) (nI wc) E C Wd k19 fu Cw To Tf Tw Tu Tel tn Ot Sd Stt Sf sn (nI x1) x2 x4 x7 (nI p) (nI e) = m_X9_readTold_175 (nI no) (nI wc) E C Wd k19 (fu' + 1) Cw To Tf Tw Tu Tel' tn Ot Sd Stt Sf sn (nI x1) x2 x4 x7 (nI p) (nI (sz p)) ∧ telA Tel' b e A ∧ vgA Tu Tel' no sz el w at0 tk Tk d u A i j b ∧ ∀ q, q < b → Tel' q = Tel q := by
  have hno : no ≤ 30 := G.2.1
  obtain ⟨g1, g2, g3, g4⟩ := G.2.2 p hp
  intro A
  induction A with
  | nil =>
    intro e b i j fu Tel he hfr hb hfu hS hv
    obtain ⟨fu, rfl⟩ : ∃ z, fu = z + 1 := ⟨fu - 1, by omega⟩
    have he : e = sz p := by simpa using he
    subst he
    exact ⟨Tel, fu, rfl, trivial, hv, fun _ _ => rfl⟩
  | cons x A ih =>
    intro e b i j fu Tel he hfr hb hfu hS hv
    obtain ⟨fu, rfl⟩ : ∃ z, fu = z + 1 := ⟨fu - 1, by omega⟩
    rw [List.length_cons] at he hfu
    obtain ⟨s1, s2, s3⟩ := hS
    have e1 : (flatA (x :: A)).length = x.2.2.2.2.2.length + (flatA A).length := by
      show (x.2.2.2.2.2 ++ flatA A).length = _
      rw [List.length_append]
    have e0 : m_X9_readTold_175 (nI no) (nI wc) E C Wd k19 (fu + 1) Cw To Tf Tw Tu Tel tn Ot Sd Stt Sf sn (nI x1) x2 x4 x7 (nI p) (nI e) = m_X9_readTold_175 (nI no) (nI wc) E C Wd k19 (fu + 1) Cw To Tf Tw Tu Tel tn Ot Sd Stt Sf sn (nI x1) x2 x4 x7 (nI p) (nI e) := rfl
    conv at e0 => rhs; unfold m_X9_readTold_175
    rw [gd_nI (by omega) (by omega), nI_cl (by omega), g1, if_neg (by rw [nI_le' (by omega) (by omega)]; omega), gd_nI (by omega) (by omega), nI_cl (by omega), hSf, nI_add, gd_nI (by omega) (by omega), nI_cl (by omega)] at e0
    have eN : ∀ T : Nat → Int32, m_X9_readTold_217 (nI no) (nI wc) E C Wd k19 (m_X9_readTold_175 (nI no) (nI wc) E C Wd k19 fu) Cw To Tf Tw Tu T tn Ot Sd Stt Sf sn (nI x1) x2 x4 x7 (nI p) (nI e) = m_X9_readTold_175 (nI no) (nI wc) E C Wd k19 fu Cw To Tf Tw Tu T tn Ot Sd Stt Sf sn (nI x1) x2 x4 x7 (nI p) (nI (e + 1)) := by
      intro T
      unfold m_X9_readTold_217
      rw [nI_1]
    unfold vgA at hv
    by_cases q : x.1 = 95
    · rw [if_pos q] at hv
      obtain ⟨a1, a2, a3, ⟨F, a4⟩, a5⟩ := hv
      obtain ⟨v0, hv0⟩ := a4 0 (by omega)
      have hp0 := trA_pos hv0
      rw [s1 q, if_neg (by rw [i_0, nI_lt' (by omega) (by omega)]; omega), gd_nI (by omega) (by omega), nI_cl (by omega), eN] at e0
      obtain ⟨Tel', fu', z1, z2, z3, z4⟩ := ih (e + 1) (b + x.2.2.2.2.2.length) x.2.2.1 j fu (upd Tel b (nI e)) (by omega) hfr (by omega) (by omega) s3 (vgA_frame (fun _ _ _ => rfl) (fun q' h1 _ => pk_un (by omega)) a5)
      refine ⟨Tel', fu', e0.trans z1, ⟨fun _ => by rw [z4 b (by omega), pk_us], z2⟩, ?_, fun q' hq' => by rw [z4 q' (by omega), pk_un (by omega)]⟩
      unfold vgA
      rw [if_pos q]
      refine ⟨a1, a2, a3, ⟨F, fun t ht => ?_⟩, z3⟩
      obtain ⟨v, hv⟩ := a4 t ht
      exact ⟨v, trA_frame (fun q' h1 h2 => ⟨rfl, by rw [z4 q' (by omega), pk_un (by omega)]⟩) hv⟩
    · rw [if_neg q] at hv
      obtain ⟨a1, a2, a3, a4⟩ := hv
      rw [(s2 q).1, if_pos (by decide), eN] at e0
      have hl0 : x.2.2.2.2.2.length = 0 := by rw [a2]; rfl
      rw [hl0, Nat.add_zero] at s3
      obtain ⟨Tel', fu', z1, z2, z3, z4⟩ := ih (e + 1) b (i + 1) j fu Tel (by omega) hfr (by omega) (by omega) s3 a4
      refine ⟨Tel', fu', e0.trans z1, ⟨fun z => absurd z q, by rw [hl0, Nat.add_zero]; exact z2⟩, ?_, z4⟩
      unfold vgA
      rw [if_neg q]
      exact ⟨a1, a2, a3, z3⟩
def goodS (S : List En) : Prop := S = [] ∨ botO S = true ∨ hd95 S = true
theorem good_0 {S : List En} (h : goodS S) (h0 : nop S = 0) (h95 : hd95 S = false) : S = [] := by
  rcases h with h | h | h
  · exact h
  · have := botO_nop h; omega
  · rw [h95] at h; cases h
theorem good_1 {S : List En} (h : goodS S) (h0 : 1 ≤ nop S) : botO S = true := by
  rcases h with h | h | h
  · subst h; exact absurd h0 (by decide)
  · exact h
  · cases S with
    | nil => cases h
    | cons e S =>
      by_cases q : S = []
      · subst q
        have h : (e.1 == 95) = true := h
        have h : e.1 = 95 := by simpa using h
        have h0 : 1 ≤ (if e.1 = 40 then 1 else 0) + 0 := h0
        rw [h, if_neg (by decide)] at h0
        omega
      · rw [hd95_2 q] at h; cases h
theorem hd_good {S : List En} (h : goodS S) (h95 : hd95 S = true) {v : Int64} {S' : List En} (hs : stepM no sz el Tk S v = some S') : badS S' := by
  cases S with
  | nil => cases h95
  | cons e S =>
    by_cases q : S = []
    · subst q
      have h95 : (e.1 == 95) = true := h95
      have h95 : e.1 = 95 := by simpa using h95
      rcases stepM_cases hs with ⟨_, hs⟩ | ⟨_, x, rfl, _⟩
      · exfalso
        unfold shutS spl at hs
        rw [if_neg (by rw [h95]; decide)] at hs
        cases hs
      · refine Or.inr ⟨by simp, ?_, rfl⟩
        rw [botO_cons (by simp)]
        show (e.1 == 40) = false
        rw [h95]; rfl
    · rw [hd95_2 q] at h95; cases h95
/-- an open bracket -/
theorem open_ok {Cw : Nat → Int64} {To Tf Tw Tu Tel : Nat → Int32} {tn : Int32} {Ot : Nat → Int32} {Sd : Nat → Int64} {Stt Sf : Nat → Int32} {sn : Int32} {S : List En} {k fu : Nat} {v : Int64} (R : RM w Cw0 Cw To Tf Tw tn Ot Sd Stt Sf sn S) (V : vA Tu Tel no sz el w at0 tk Tk S) (hgood : goodS S) (h95 : hd95 S = false) (hk : k < wc) (hwc : wc ≤ 750) (hv : Wd k = v) (hl : S.length ≤ k) (hf : (flatS S).length ≤ k) (hp : pos S ≤ k) (q : v = 40) : ∃ S' Cw' To' Tf' Tw' Tu' Tel' tn' Ot' Sd' Stt' Sf' sn', stepM no sz el Tk S v = some S' ∧ m_X9_readTold_19 (nI no) (nI wc) E C Wd (fu + 1) Cw To Tf Tw Tu Tel tn Ot Sd Stt Sf sn (nI (nop S)) (nI (pos S)) 0 (nI k) = m_X9_readTold_19 (nI no) (nI wc) E C Wd fu Cw' To' Tf' Tw' Tu' Tel' tn' Ot' Sd' Stt' Sf' sn' (nI (nop S')) (nI (pos S')) (bi (hd95 S' = true)) (nI (k + 1)) ∧ RM w Cw0 Cw' To' Tf' Tw' tn' Ot' Sd' Stt' Sf' sn' S' ∧ vA Tu' Tel' no sz el w at0 tk Tk S' ∧ goodS S' := by
  have hcn := cn_le S
  have hnop := nop_le S
  obtain ⟨r1, r2, r3, r4, r5, r6⟩ := R
  obtain ⟨u1, u2⟩ := up_ok r3
  have e40 : ¬ (40 : Int64) = 95 := by decide
  have e41 : ¬ (40 : Int64) = 41 := by decide
  have e0 : m_X9_readTold_19 (nI no) (nI wc) E C Wd (fu + 1) Cw To Tf Tw Tu Tel tn Ot Sd Stt Sf sn (nI (nop S)) (nI (pos S)) 0 (nI k) = m_X9_readTold_19 (nI no) (nI wc) E C Wd (fu + 1) Cw To Tf Tw Tu Tel tn Ot Sd Stt Sf sn (nI (nop S)) (nI (pos S)) 0 (nI k) := rfl
  conv at e0 => rhs; unfold m_X9_readTold_19
  rw [if_neg (by rw [nI_le' (by omega) (by omega)]; omega), gd_nI (by omega) (by omega), if_pos rfl, nI_cl (by omega), hv, if_pos ((lg_cmp_eq _ _).mpr q)] at e0
  have e1 : m_X9_readTold_70 (nI no) (nI wc) E C Wd (m_X9_readTold_19 (nI no) (nI wc) E C Wd fu) Cw To Tf Tw Tu Tel tn Ot Sd Stt Sf sn (nI (nop S)) (nI (pos S)) 0 (nI k) (upS S) = m_X9_readTold_19 (nI no) (nI wc) E C Wd fu Cw (upd To (flatS S).length (-1)) (upd Tf (flatS S).length (nI (pos S))) Tw (upd Tu (flatS S).length (upS S)) (upd Tel (flatS S).length (-1)) (nI ((flatS S).length + 1)) (upd Ot (nop S) (nI (flatS S).length)) Sd Stt (upd Sf (nop S) sn) sn (nI (nop S + 1)) (nI (pos S)) 0 (nI (k + 1)) := by
    unfold m_X9_readTold_70 m_X9_newTold
    rw [r5]
    simp (disch := omega) only [gd_nI, nI_cl]
    rw [ob_i]
    dsimp only
    unfold m_X9_readTold_347
    rw [nI_1, nI_1, nI_1, nI_pred]
  have e2 : m_X9_readTold_19 (nI no) (nI wc) E C Wd (fu + 1) Cw To Tf Tw Tu Tel tn Ot Sd Stt Sf sn (nI (nop S)) (nI (pos S)) 0 (nI k) = m_X9_readTold_70 (nI no) (nI wc) E C Wd (m_X9_readTold_19 (nI no) (nI wc) E C Wd fu) Cw To Tf Tw Tu Tel tn Ot Sd Stt Sf sn (nI (nop S)) (nI (pos S)) 0 (nI k) (upS S) := by
    rw [e0]
    by_cases z : nop S = 0
    · rw [if_pos (by rw [z]; rfl), u1 z]
    · rw [if_neg (by rw [nI_eq0' (by omega)]; exact z)]
      obtain ⟨m, hm⟩ : ∃ m, nop S = m + 1 := ⟨nop S - 1, by omega⟩
      rw [← u2 (by omega), hm, nI_pred, gd_nI (by omega) (by omega), nI_cl (by omega)]
      rfl
  have hfl : flatS ((40, pos S, 0, 0, true, []) :: S) = flatS S ++ [(0, pos S, pos S, nop S)] := by
    show flatS S ++ itE _ _ = _
    unfold itE
    rw [if_pos rfl]
  have hpp : pos ((40, pos S, 0, 0, true, []) :: S) = pos S := by
    show (if (40 : Int64) = 40 then pos S else _) = _
    rw [if_pos rfl]
  have hnn : nop ((40, pos S, 0, 0, true, []) :: S) = nop S + 1 := by
    show (if (40 : Int64) = 40 then 1 else 0) + nop S = _
    rw [if_pos rfl]; omega
  have hcc : cn ((40, pos S, 0, 0, true, []) :: S) = cn S := by
    show (if (40 : Int64) = 40 then 0 else 1) + cn S = _
    rw [if_pos rfl]; omega
  have h9 : hd95 ((40, pos S, 0, 0, true, []) :: S) = false := by
    by_cases z : S = []
    · subst z; rfl
    · exact hd95_2 z
  refine ⟨(40, pos S, 0, 0, true, []) :: S, Cw, upd To (flatS S).length (-1), upd Tf (flatS S).length (nI (pos S)), Tw, upd Tu (flatS S).length (upS S), upd Tel (flatS S).length (-1), nI ((flatS S).length + 1), upd Ot (nop S) (nI (flatS S).length), Sd, Stt, upd Sf (nop S) sn, sn, ?_, ?_, ⟨?_, r2, ?_, ?_, ?_, ?_⟩, ?_, ?_⟩
  · unfold stepM stepR
    rw [if_neg (by rw [q]; decide), if_neg (by rw [q]; decide), if_neg (by rw [q]; decide), if_pos q]
  · rw [e2, e1, hnn, hpp, h9, bi_f (by decide)]
  · rw [hpp]; exact r1
  · refine ⟨?_, repD_frame (fun _ _ => ⟨rfl, rfl⟩) (fun q' hq' => ⟨pk_un (by omega), pk_un (by omega)⟩) r3⟩
    rw [if_pos rfl, pk_us, pk_us]
    exact ⟨r6, rfl⟩
  · rw [hfl]
    exact itR_push r4 (fun q' hq' => ⟨pk_un (by omega), pk_un (by omega), rfl⟩) ⟨pk_us, pk_us, fun z => absurd z (Nat.lt_irrefl _)⟩
  · rw [hfl, List.length_append]; rfl
  · rw [hcc]; exact r6
  · refine ⟨vA_frame (fun q' hq' => ⟨pk_un (by omega), pk_un (by omega)⟩) V, ?_⟩
    rw [if_pos rfl, pk_us]
    exact ⟨rfl, rfl, rfl⟩
  · by_cases z : S = []
    · subst z; exact Or.inr (Or.inl rfl)
    · refine Or.inr (Or.inl ?_)
      rw [botO_cons z]
      rcases hgood with h | h | h
      · exact absurd h z
      · exact h
      · rw [h95] at h; cases h
/-- a word is put by -/
theorem wordM_ok (k19 : (Nat → Int64) → (Nat → Int32) → (Nat → Int32) → (Nat → Int32) → (Nat → Int32) → (Nat → Int32) → Int32 → (Nat → Int32) → (Nat → Int64) → (Nat → Int32) → (Nat → Int32) → Int32 → Int32 → Int32 → Int32 → Int32 → Option (Int32 × (Nat → Int64) × (Nat → Int32) × (Nat → Int32) × (Nat → Int32) × (Nat → Int32) × (Nat → Int32) × Int32 × (Nat → Int32) × (Nat → Int64) × (Nat → Int32) × (Nat → Int32) × Int32)) {Cw : Nat → Int64} {p k : Nat} {v : Int64} (hp : p ≤ 750) (hv : w p = v) (h1 : ∀ k, k < p → k < 40 → Cw (40 + k) = w k) (h2 : ∀ k, k < 40 → Cw k = Cw0 k) (To Tf Tw Tu Tel : Nat → Int32) (tn : Int32) (Ot : Nat → Int32) (Sd : Nat → Int64) (Stt Sf : Nat → Int32) (sn x1 x3 : Int32) : ∃ Cw', m_X9_readTold_327 (nI no) (nI wc) E C Wd k19 Cw To Tf Tw Tu Tel tn Ot Sd Stt Sf sn x1 (nI p) x3 (nI k) v = k19 Cw' To Tf Tw Tu Tel tn Ot Sd Stt Sf sn x1 (nI (p + 1)) x3 (nI (k + 1)) ∧ (∀ k, k < p + 1 → k < 40 → Cw' (40 + k) = w k) ∧ (∀ k, k < 40 → Cw' k = Cw0 k) := by
  have e1 : ∀ N, m_X9_readTold_344 (nI no) (nI wc) E C Wd k19 N To Tf Tw Tu Tel tn Ot Sd Stt Sf sn x1 (nI p) x3 (nI k) = k19 N To Tf Tw Tu Tel tn Ot Sd Stt Sf sn x1 (nI (p + 1)) x3 (nI (k + 1)) := by
    intro N
    unfold m_X9_readTold_344 m_X9_readTold_347
    rw [nI_1, nI_1]
  have e0 : m_X9_readTold_327 (nI no) (nI wc) E C Wd k19 Cw To Tf Tw Tu Tel tn Ot Sd Stt Sf sn x1 (nI p) x3 (nI k) v = m_X9_readTold_327 (nI no) (nI wc) E C Wd k19 Cw To Tf Tw Tu Tel tn Ot Sd Stt Sf sn x1 (nI p) x3 (nI k) v := rfl
  conv at e0 => rhs; unfold m_X9_readTold_327
  rw [e0]
  by_cases q : 40 ≤ p
  · rw [if_pos (by rw [i_40, nI_le' (by omega) (by omega)]; exact q), e1]
    exact ⟨Cw, rfl, fun k hk h4 => h1 k (by omega) h4, h2⟩
  · rw [if_neg (by rw [i_40, nI_le' (by omega) (by omega)]; exact q), i_40, nI_add, gd_nI (by omega) (by omega), nI_cl (by omega), e1]
    refine ⟨_, rfl, fun k hk h4 => ?_, fun k hk => by rw [pk_uLn (by omega)]; exact h2 k hk⟩
    by_cases z : k = p
    · subst z; rw [pk_uLs]; exact hv.symm
    · rw [pk_uLn (by omega)]; exact h1 k (by omega) h4
/-- a part, or a hole's word -/
theorem part_ok (G : RG C E (nI no) no sz el) {Cw : Nat → Int64} {To Tf Tw Tu Tel : Nat → Int32} {tn : Int32} {Ot : Nat → Int32} {Sd : Nat → Int64} {Stt Sf : Nat → Int32} {sn : Int32} {S : List En} {k fu : Nat} {v : Int64} (R : RM w Cw0 Cw To Tf Tw tn Ot Sd Stt Sf sn S) (V : vA Tu Tel no sz el w at0 tk Tk S) (hgood : goodS S) (h95 : hd95 S = false) (hk : k < wc) (hwc : wc ≤ 750) (hv : Wd k = v) (hl : S.length ≤ k) (hf : (flatS S).length ≤ k) (hp : pos S ≤ k) (q1 : ¬ v = 40) (q2 : ¬ v = 41) (hwv : w (pos S) = v) (qa : atomB no sz el v = false) (h1 : 1 ≤ nop S) : ∃ S' Cw' To' Tf' Tw' Tu' Tel' tn' Ot' Sd' Stt' Sf' sn', stepM no sz el Tk S v = some S' ∧ m_X9_readTold_19 (nI no) (nI wc) E C Wd (fu + 1) Cw To Tf Tw Tu Tel tn Ot Sd Stt Sf sn (nI (nop S)) (nI (pos S)) 0 (nI k) = m_X9_readTold_19 (nI no) (nI wc) E C Wd fu Cw' To' Tf' Tw' Tu' Tel' tn' Ot' Sd' Stt' Sf' sn' (nI (nop S')) (nI (pos S')) (bi (hd95 S' = true)) (nI (k + 1)) ∧ RM w Cw0 Cw' To' Tf' Tw' tn' Ot' Sd' Stt' Sf' sn' S' ∧ vA Tu' Tel' no sz el w at0 tk Tk S' ∧ goodS S' := by
  have hcn := cn_le S
  have hnop := nop_le S
  have hb := good_1 hgood h1
  have hS0 : ¬ S = [] := by intro z; subst z; cases hb
  obtain ⟨r1, r2, r3, r4, r5, r6⟩ := R
  have e0 : m_X9_readTold_19 (nI no) (nI wc) E C Wd (fu + 1) Cw To Tf Tw Tu Tel tn Ot Sd Stt Sf sn (nI (nop S)) (nI (pos S)) 0 (nI k) = m_X9_readTold_19 (nI no) (nI wc) E C Wd (fu + 1) Cw To Tf Tw Tu Tel tn Ot Sd Stt Sf sn (nI (nop S)) (nI (pos S)) 0 (nI k) := rfl
  conv at e0 => rhs; unfold m_X9_readTold_19
  rw [if_neg (by rw [nI_le' (by omega) (by omega)]; omega), gd_nI (by omega) (by omega), if_pos rfl, nI_cl (by omega), hv, if_neg (fun z => q1 ((lg_cmp_eq _ _).mp z)), if_neg (fun z => q2 ((lg_cmp_eq _ _).mp z)), mAtom_ok G v, ob_i, if_pos (by rw [bi_eq0, qa]; decide), if_neg (by rw [nI_eq0' (by omega)]; omega)] at e0
  unfold m_X9_stand at e0
  rw [r6, gd_nI (by omega) (by omega), gd_nI (by omega) (by omega), ob_i, nI_cl (by omega)] at e0
  obtain ⟨Cw', c1, c2, c3⟩ := wordM_ok (no := no) (wc := wc) (E := E) (C := C) (Wd := Wd) (m_X9_readTold_19 (nI no) (nI wc) E C Wd fu) (k := k) (by omega) hwv r1 r2 To Tf Tw Tu Tel tn Ot (vp_updL Sd (cn S) v) (upd Stt (cn S) (-1)) Sf (nI (cn S) + 1) (nI (nop S)) 0
  have e1 := e0.trans c1
  obtain ⟨x, hstep, hx1, hx2, hx3, hx5⟩ : ∃ x : Int64, stepM no sz el Tk S v = some ((x, pos S, 0, 0, true, []) :: S) ∧ ¬ x = 40 ∧ ¬ x = 95 ∧ v = (if x = 41 then 95 else x) ∧ (¬ x = 41 → w (pos S) = x) := by
    by_cases q : v = 95
    · refine ⟨41, ?_, by decide, by decide, by rw [if_pos rfl]; exact q, fun z => absurd rfl z⟩
      unfold stepM
      rw [if_pos q]
    · refine ⟨v, ?_, q1, q, by rw [if_neg q2], fun _ => hwv⟩
      have hpt : partB no sz el v = true := by
        unfold atomB at qa
        have : (v == 95) = false := by simpa using q
        rw [this] at qa
        simpa using qa
      unfold stepM stepR
      rw [if_neg q, if_neg q, if_neg q2, if_neg q1, if_pos hpt]
  have hfl : flatS ((x, pos S, 0, 0, true, []) :: S) = flatS S := by
    show flatS S ++ itE _ _ = _
    unfold itE
    rw [if_neg hx1]; exact List.append_nil _
  have hpp : pos ((x, pos S, 0, 0, true, []) :: S) = pos S + 1 := by
    show (if x = 40 then pos S else if x = 95 then _ else _) = _
    rw [if_neg hx1, if_neg hx2]
  have hnn : nop ((x, pos S, 0, 0, true, []) :: S) = nop S := by
    show (if x = 40 then 1 else 0) + nop S = _
    rw [if_neg hx1]; omega
  have hcc : cn ((x, pos S, 0, 0, true, []) :: S) = cn S + 1 := by
    show (if x = 40 then 0 else 1) + cn S = _
    rw [if_neg hx1]; omega
  refine ⟨(x, pos S, 0, 0, true, []) :: S, Cw', To, Tf, Tw, Tu, Tel, tn, Ot, vp_updL Sd (cn S) v, upd Stt (cn S) (-1), Sf, nI (cn S) + 1, hstep, ?_, ⟨?_, c3, ?_, ?_, ?_, ?_⟩, ?_, ?_⟩
  · rw [hnn, hpp, hd95_2 hS0, bi_f (by decide)]
    rw [r6]
    exact e1
  · rw [hpp]; exact c2
  · refine ⟨?_, repD_frame (fun q' hq' => ⟨pk_uLn (by omega), pk_un (by omega)⟩) (fun _ _ => ⟨rfl, rfl⟩) r3⟩
    rw [if_neg hx1, pk_us, pk_uLs]
    exact ⟨fun z => absurd z hx2, fun _ => ⟨rfl, hx3⟩⟩
  · rw [hfl]; exact r4
  · rw [hfl]; exact r5
  · rw [hcc, nI_1]
  · refine ⟨V, ?_⟩
    rw [if_neg hx1, hpp]
    unfold vgA
    rw [if_neg hx2]
    exact ⟨hx5, rfl, rfl, rfl⟩
  · exact Or.inr (Or.inl (by rw [botO_cons hS0]; exact hb))
/-- an atom -/
theorem atom_ok (G : RG C E (nI no) no sz el) (ha : ∀ k, at0 k = atN no sz el w k) {Cw : Nat → Int64} {To Tf Tw Tu Tel : Nat → Int32} {tn : Int32} {Ot : Nat → Int32} {Sd : Nat → Int64} {Stt Sf : Nat → Int32} {sn : Int32} {S : List En} {k fu : Nat} {v : Int64} (R : RM w Cw0 Cw To Tf Tw tn Ot Sd Stt Sf sn S) (V : vA Tu Tel no sz el w at0 tk Tk S) (hgood : goodS S) (h95 : hd95 S = false) (hk : k < wc) (hwc : wc ≤ 750) (hv : Wd k = v) (hl : S.length ≤ k) (hf : (flatS S).length ≤ k) (hp : pos S ≤ k) (q1 : ¬ v = 40) (q2 : ¬ v = 41) (hwv : w (pos S) = v) (qa : atomB no sz el v = true) : ∃ S' Cw' To' Tf' Tw' Tu' Tel' tn' Ot' Sd' Stt' Sf' sn', stepM no sz el Tk S v = some S' ∧ m_X9_readTold_19 (nI no) (nI wc) E C Wd (fu + 1) Cw To Tf Tw Tu Tel tn Ot Sd Stt Sf sn (nI (nop S)) (nI (pos S)) 0 (nI k) = m_X9_readTold_19 (nI no) (nI wc) E C Wd fu Cw' To' Tf' Tw' Tu' Tel' tn' Ot' Sd' Stt' Sf' sn' (nI (nop S')) (nI (pos S')) (bi (hd95 S' = true)) (nI (k + 1)) ∧ RM w Cw0 Cw' To' Tf' Tw' tn' Ot' Sd' Stt' Sf' sn' S' ∧ vA Tu' Tel' no sz el w at0 tk Tk S' ∧ goodS S' := by
  have hcn := cn_le S
  have hnop := nop_le S
  obtain ⟨r1, r2, r3, r4, r5, r6⟩ := R
  obtain ⟨u1, u2⟩ := up_ok r3
  have e95 : ¬ (95 : Int64) = 40 := by decide
  have hq95 : ¬ v = 95 ∧ ¬ partB no sz el v = true := by
    unfold atomB at qa
    rw [Bool.and_eq_true] at qa
    exact ⟨by simpa using qa.1, by simpa using qa.2⟩
  have e0 : m_X9_readTold_19 (nI no) (nI wc) E C Wd (fu + 1) Cw To Tf Tw Tu Tel tn Ot Sd Stt Sf sn (nI (nop S)) (nI (pos S)) 0 (nI k) = m_X9_readTold_19 (nI no) (nI wc) E C Wd (fu + 1) Cw To Tf Tw Tu Tel tn Ot Sd Stt Sf sn (nI (nop S)) (nI (pos S)) 0 (nI k) := rfl
  conv at e0 => rhs; unfold m_X9_readTold_19
  rw [if_neg (by rw [nI_le' (by omega) (by omega)]; omega), gd_nI (by omega) (by omega), if_pos rfl, nI_cl (by omega), hv, if_neg (fun z => q1 ((lg_cmp_eq _ _).mp z)), if_neg (fun z => q2 ((lg_cmp_eq _ _).mp z)), mAtom_ok G v, ob_i, if_neg (by rw [bi_eq0, qa]; decide)] at e0
  have e2 : m_X9_readTold_19 (nI no) (nI wc) E C Wd (fu + 1) Cw To Tf Tw Tu Tel tn Ot Sd Stt Sf sn (nI (nop S)) (nI (pos S)) 0 (nI k) = m_X9_readTold_279 (nI no) (nI wc) E C Wd (m_X9_readTold_19 (nI no) (nI wc) E C Wd fu) Cw To Tf Tw Tu Tel tn Ot Sd Stt Sf sn (nI (nop S)) (nI (pos S)) (nI k) v (upS S) := by
    rw [e0]
    by_cases z : nop S = 0
    · rw [if_pos (by rw [z]; rfl), u1 z]
    · rw [if_neg (by rw [nI_eq0' (by omega)]; exact z)]
      obtain ⟨m, hm⟩ : ∃ m, nop S = m + 1 := ⟨nop S - 1, by omega⟩
      rw [← u2 (by omega), hm, nI_pred, gd_nI (by omega) (by omega), nI_cl (by omega)]
      rfl
  have hfl : flatS ((95, pos S, pos S + 1, 0, true, [(0, pos S, pos S + 1, nop S)]) :: S) = flatS S ++ [(0, pos S, pos S + 1, nop S)] := by
    show flatS S ++ itE _ _ = _
    unfold itE
    rw [if_neg e95]
  have hpp : pos ((95, pos S, pos S + 1, 0, true, [(0, pos S, pos S + 1, nop S)]) :: S) = pos S + 1 := by
    show (if (95 : Int64) = 40 then pos S else if (95 : Int64) = 95 then _ else _) = _
    rw [if_neg e95, if_pos rfl]
  have hnn : nop ((95, pos S, pos S + 1, 0, true, [(0, pos S, pos S + 1, nop S)]) :: S) = nop S := by
    show (if (95 : Int64) = 40 then 1 else 0) + nop S = _
    rw [if_neg e95]; omega
  have hcc : cn ((95, pos S, pos S + 1, 0, true, [(0, pos S, pos S + 1, nop S)]) :: S) = cn S + 1 := by
    show (if (95 : Int64) = 40 then 0 else 1) + cn S = _
    rw [if_neg e95]; omega
  have h9 : bi (hd95 ((95, pos S, pos S + 1, 0, true, [(0, pos S, pos S + 1, nop S)]) :: S) = true) = bi (nop S = 0) := by
    apply bi_congr
    constructor
    · intro z
      by_cases z2 : S = []
      · subst z2; rfl
      · rw [hd95_2 z2] at z; cases z
    · intro z
      have := good_0 hgood z h95
      subst this; rfl
  obtain ⟨Cw', c1, c2, c3⟩ := wordM_ok (no := no) (wc := wc) (E := E) (C := C) (Wd := Wd) (m_X9_readTold_19 (nI no) (nI wc) E C Wd fu) (k := k) (by omega) hwv r1 r2 (upd To (flatS S).length (-1)) (upd Tf (flatS S).length (nI (pos S))) (upd Tw (flatS S).length 1) (upd Tu (flatS S).length (upS S)) (upd Tel (flatS S).length (-1)) (nI ((flatS S).length + 1)) Ot (vp_updL Sd (cn S) 0) (upd Stt (cn S) (nI (flatS S).length)) Sf (nI (cn S + 1)) (nI (nop S)) (bi (nop S = 0))
  have e3 : m_X9_readTold_279 (nI no) (nI wc) E C Wd (m_X9_readTold_19 (nI no) (nI wc) E C Wd fu) Cw To Tf Tw Tu Tel tn Ot Sd Stt Sf sn (nI (nop S)) (nI (pos S)) (nI k) v (upS S) = m_X9_readTold_327 (nI no) (nI wc) E C Wd (m_X9_readTold_19 (nI no) (nI wc) E C Wd fu) Cw (upd To (flatS S).length (-1)) (upd Tf (flatS S).length (nI (pos S))) (upd Tw (flatS S).length 1) (upd Tu (flatS S).length (upS S)) (upd Tel (flatS S).length (-1)) (nI ((flatS S).length + 1)) Ot (vp_updL Sd (cn S) 0) (upd Stt (cn S) (nI (flatS S).length)) Sf (nI (cn S + 1)) (nI (nop S)) (nI (pos S)) (bi (nop S = 0)) (nI k) v := by
    unfold m_X9_readTold_279 m_X9_newTold m_X9_stand
    rw [r5, r6]
    simp (disch := omega) only [gd_nI, nI_cl]
    rw [ob_i]
    dsimp only
    rw [nI_1, nI_pred]
    simp (disch := omega) only [gd_nI, nI_cl]
    rw [ob_i]
    dsimp only
    unfold m_X9_readTold_309
    rw [nI_1]
    by_cases z : nop S = 0
    · rw [if_pos (by rw [z]; rfl), bi_t z]
    · rw [if_neg (by rw [nI_eq0' (by omega)]; exact z), bi_f z]
  refine ⟨(95, pos S, pos S + 1, 0, true, [(0, pos S, pos S + 1, nop S)]) :: S, Cw', upd To (flatS S).length (-1), upd Tf (flatS S).length (nI (pos S)), upd Tw (flatS S).length 1, upd Tu (flatS S).length (upS S), upd Tel (flatS S).length (-1), nI ((flatS S).length + 1), Ot, vp_updL Sd (cn S) 0, upd Stt (cn S) (nI (flatS S).length), Sf, nI (cn S + 1), ?_, ?_, ⟨?_, c3, ?_, ?_, ?_, ?_⟩, ?_, ?_⟩
  · unfold stepM stepR
    rw [if_neg hq95.1, if_neg hq95.1, if_neg q2, if_neg q1, if_neg hq95.2]
  · rw [hnn, hpp, h9]
    exact e2.trans (e3.trans c1)
  · rw [hpp]; exact c2
  · refine ⟨?_, repD_frame (fun q' hq' => ⟨pk_uLn (by omega), pk_un (by omega)⟩) (fun _ _ => ⟨rfl, rfl⟩) r3⟩
    rw [if_neg e95, pk_us]
    exact ⟨fun _ => rfl, fun z => absurd rfl z⟩
  · rw [hfl]
    exact itR_push r4 (fun q' hq' => ⟨pk_un (by omega), pk_un (by omega), pk_un (by omega)⟩) ⟨pk_us, pk_us, fun _ => by rw [pk_us]; show (1 : Int32) = nI (pos S + 1 - pos S); rw [Nat.add_sub_cancel_left]; rfl⟩
  · rw [hfl, List.length_append]; rfl
  · rw [hcc]
  · refine ⟨vA_frame (fun q' hq' => ⟨pk_un (by omega), pk_un (by omega)⟩) V, ?_⟩
    rw [if_neg e95, hpp]
    unfold vgA
    rw [if_pos rfl]
    refine ⟨rfl, by show pos S < pos S + 1; omega, pk_us, ⟨1, fun t ht => ⟨0, Or.inl ⟨rfl, ?_, rfl, rfl, ?_⟩⟩⟩, rfl⟩
    · rw [ha]
      unfold atN
      rw [hwv, if_pos qa]
    · show (fitE Tk t 0 && true) = true
      rfl
  · by_cases z : S = []
    · subst z; exact Or.inr (Or.inr rfl)
    · refine Or.inr (Or.inl ?_)
      rw [botO_cons z]
      rcases hgood with h | h | h
      · exact absurd h z
      · exact h
      · rw [h95] at h; cases h
end MTOLD
