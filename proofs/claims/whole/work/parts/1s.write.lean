/-! what is written of a tree -/
def opn : List It → Nat → List Int64
  | [], _ => []
  | it :: L, x => (if it.1 ≠ 0 ∧ it.2.1 = x then [40] else []) ++ opn L x
def cls : List It → Nat → List Int64
  | [], _ => []
  | it :: L, x => (if it.1 ≠ 0 ∧ it.2.2.1 = x then [41] else []) ++ cls L x
def PP (w : Nat → Int64) (its : List It) : Nat → Nat → List Int64
  | _, 0 => []
  | i, d + 1 => opn its i ++ ([w i] ++ (cls its (i + 1) ++ PP w its (i + 1) d))
theorem opn_app (x : Nat) : ∀ A B : List It, opn (A ++ B) x = opn A x ++ opn B x := by
  intro A
  induction A with
  | nil => intro B; rfl
  | cons it A ih => intro B; show _ ++ opn (A ++ B) x = (_ ++ opn A x) ++ opn B x; rw [ih, List.append_assoc]
theorem cls_app (x : Nat) : ∀ A B : List It, cls (A ++ B) x = cls A x ++ cls B x := by
  intro A
  induction A with
  | nil => intro B; rfl
  | cons it A ih => intro B; show _ ++ cls (A ++ B) x = (_ ++ cls A x) ++ cls B x; rw [ih, List.append_assoc]
theorem opn_no {x : Nat} : ∀ {A : List It}, (∀ it, it ∈ A → it.2.1 ≠ x) → opn A x = [] := by
  intro A
  induction A with
  | nil => intro _; rfl
  | cons it A ih =>
    intro h
    show _ ++ opn A x = []
    rw [if_neg (fun z => h it (List.mem_cons_self ..) z.2), ih (fun it' h' => h it' (List.mem_cons_of_mem _ h'))]
    rfl
theorem cls_no {x : Nat} : ∀ {A : List It}, (∀ it, it ∈ A → it.2.2.1 ≠ x) → cls A x = [] := by
  intro A
  induction A with
  | nil => intro _; rfl
  | cons it A ih =>
    intro h
    show _ ++ cls A x = []
    rw [if_neg (fun z => h it (List.mem_cons_self ..) z.2), ih (fun it' h' => h it' (List.mem_cons_of_mem _ h'))]
    rfl
theorem cls_comm (x : Nat) : ∀ A : List It, [41] ++ cls A x = cls A x ++ [41] := by
  intro A
  induction A with
  | nil => rfl
  | cons it A ih =>
    show [41] ++ (_ ++ cls A x) = (_ ++ cls A x) ++ [41]
    split
    · rw [List.append_assoc, ← ih]
    · exact ih
theorem PP_congr {w : Nat → Int64} {A B : List It} : ∀ {d i : Nat}, (∀ q, i ≤ q → q < i + d → opn A q = opn B q ∧ cls A (q + 1) = cls B (q + 1)) → PP w A i d = PP w B i d := by
  intro d
  induction d with
  | zero => intro i _; rfl
  | succ d ih =>
    intro i h
    unfold PP
    rw [(h i (by omega) (by omega)).1, (h i (by omega) (by omega)).2, ih (fun q h1 h2 => h q (by omega) (by omega))]
theorem PP_cat {w : Nat → Int64} {A : List It} : ∀ (d1 d2 i : Nat), PP w A i (d1 + d2) = PP w A i d1 ++ PP w A (i + d1) d2 := by
  intro d1
  induction d1 with
  | zero => intro d2 i; rw [Nat.zero_add]; rfl
  | succ d1 ih =>
    intro d2 i
    rw [show d1 + 1 + d2 = (d1 + d2) + 1 by omega]
    show opn A i ++ ([w i] ++ (cls A (i + 1) ++ PP w A (i + 1) (d1 + d2))) = (opn A i ++ ([w i] ++ (cls A (i + 1) ++ PP w A (i + 1) d1))) ++ PP w A (i + (d1 + 1)) d2
    rw [ih d2 (i + 1), show i + 1 + d1 = i + (d1 + 1) by omega]
    simp [List.append_assoc]
theorem PP_tail {w : Nat → Int64} {o i m dp : Nat} {b : List It} : ∀ (k s : Nat), i < s → s + (k + 1) = m → PP w ((o + 1, i, m, dp) :: b) s (k + 1) = PP w b s (k + 1) ++ [41] := by
  intro k
  induction k with
  | zero =>
    intro s h1 h2
    show (((if o + 1 ≠ 0 ∧ i = s then [40] else []) ++ opn b s) ++ ([w s] ++ (((if o + 1 ≠ 0 ∧ m = s + 1 then [41] else []) ++ cls b (s + 1)) ++ []))) = (opn b s ++ ([w s] ++ (cls b (s + 1) ++ []))) ++ [41]
    rw [if_neg (by omega), if_pos (by omega), cls_comm]
    simp [List.append_assoc]
  | succ k ih =>
    intro s h1 h2
    have e := ih (s + 1) (by omega) (by omega)
    show (((if o + 1 ≠ 0 ∧ i = s then [40] else []) ++ opn b s) ++ ([w s] ++ (((if o + 1 ≠ 0 ∧ m = s + 1 then [41] else []) ++ cls b (s + 1)) ++ PP w ((o + 1, i, m, dp) :: b) (s + 1) (k + 1)))) = (opn b s ++ ([w s] ++ (cls b (s + 1) ++ PP w b (s + 1) (k + 1)))) ++ [41]
    rw [if_neg (by omega), if_neg (by omega), e]
    simp [List.append_assoc]
theorem PP_node {w : Nat → Int64} {o i m dp : Nat} {b : List It} (h : i < m) : PP w ((o + 1, i, m, dp) :: b) i (m - i) = 40 :: (PP w b i (m - i) ++ [41]) := by
  obtain ⟨d, hd⟩ : ∃ d, m - i = d + 1 := ⟨m - i - 1, by omega⟩
  rw [hd]
  show (((if o + 1 ≠ 0 ∧ i = i then [40] else []) ++ opn b i) ++ ([w i] ++ (((if o + 1 ≠ 0 ∧ m = i + 1 then [41] else []) ++ cls b (i + 1)) ++ PP w ((o + 1, i, m, dp) :: b) (i + 1) d))) = 40 :: ((opn b i ++ ([w i] ++ (cls b (i + 1) ++ PP w b (i + 1) d))) ++ [41])
  rw [if_pos (by omega)]
  cases d with
  | zero =>
    rw [if_pos (by omega), cls_comm]
    show ([40] ++ opn b i) ++ ([w i] ++ ((cls b (i + 1) ++ [41]) ++ [])) = 40 :: ((opn b i ++ ([w i] ++ (cls b (i + 1) ++ []))) ++ [41])
    simp [List.append_assoc]
  | succ d =>
    rw [if_neg (by omega), PP_tail d (i + 1) (by omega) (by omega)]
    simp [List.append_assoc]
section WR
variable {C : Nat → Int32} {E : Nat → Int64} {no : Nat} {sz : Nat → Nat} {el : Nat → Nat → Int64} {w : Nat → Int64} {at0 : Nat → Nat}
theorem cv_rng : ∀ {f o e i j d : Nat} {its : List It}, cv no sz el w at0 f o e i j d its → i ≤ j ∧ ∀ it, it ∈ its → i ≤ it.2.1 ∧ it.2.1 < it.2.2.1 ∧ it.2.2.1 ≤ j := by
  intro f
  induction f with
  | zero => intro o e i j d its h; exact h.elim
  | succ f ih =>
    intro o e i j d its h
    unfold cv at h
    by_cases q : e = sz o
    · rw [if_pos q] at h
      obtain ⟨rfl, rfl⟩ := h
      exact ⟨Nat.le_refl _, fun it h => by simp at h⟩
    · rw [if_neg q] at h
      by_cases hh : el o e = 95
      · rw [if_pos hh] at h
        obtain ⟨m, c, r, h1, h2, h3, h4, h5⟩ := h
        obtain ⟨r1, r2⟩ := ih h5
        refine ⟨by omega, fun it hit => ?_⟩
        rw [h3] at hit
        rcases List.mem_append.mp hit with hit | hit
        · rcases h4 with ⟨h6, _, h7⟩ | ⟨p, b, _, h7, h8⟩
          · rw [h7] at hit
            simp at hit
            rw [hit]
            exact ⟨Nat.le_refl _, h1, h2⟩
          · rw [h7] at hit
            obtain ⟨b1, b2⟩ := ih h8
            rcases List.mem_cons.mp hit with rfl | hit
            · exact ⟨Nat.le_refl _, h1, h2⟩
            · have := b2 it hit
              exact ⟨by omega, by omega, by omega⟩
        · have := r2 it hit
          exact ⟨by omega, by omega, by omega⟩
      · rw [if_neg hh] at h
        obtain ⟨h1, h2, h3⟩ := h
        obtain ⟨r1, r2⟩ := ih h3
        refine ⟨by omega, fun it hit => ?_⟩
        have := r2 it hit
        exact ⟨by omega, by omega, by omega⟩
theorem PP_split {i m j : Nat} {c r : List It} (h1 : i ≤ m) (h2 : m ≤ j) (hc : ∀ it, it ∈ c → i ≤ it.2.1 ∧ it.2.1 < it.2.2.1 ∧ it.2.2.1 ≤ m) (hr : ∀ it, it ∈ r → m ≤ it.2.1 ∧ it.2.1 < it.2.2.1 ∧ it.2.2.1 ≤ j) : PP w (c ++ r) i (j - i) = PP w c i (m - i) ++ PP w r m (j - m) := by
  rw [show j - i = (m - i) + (j - m) by omega, PP_cat, show i + (m - i) = m by omega]
  congr 1
  · apply PP_congr
    intro q q1 q2
    rw [opn_app, cls_app, opn_no (A := r) (fun it hit => by have := hr it hit; omega), cls_no (A := r) (fun it hit => by have := hr it hit; omega)]
    simp
  · apply PP_congr
    intro q q1 q2
    rw [opn_app, cls_app, opn_no (A := c) (fun it hit => by have := hc it hit; omega), cls_no (A := c) (fun it hit => by have := hc it hit; omega)]
    simp
theorem PP_nil : ∀ {i : Nat}, PP w [] i 0 = [] := fun {_} => rfl
def itW (Io If : Nat → Int32) (b : Nat) (L : List It) : Prop := ∀ q it, L[q]? = some it → Io (b + q) = topv it.1 ∧ If (b + q) = nI it.2.1
theorem itW_l {Io If : Nat → Int32} {b : Nat} {c r : List It} (h : itW Io If b (c ++ r)) : itW Io If b c := by
  intro q it hq
  refine h q it ?_
  obtain ⟨z, -⟩ := List.getElem?_eq_some_iff.mp hq
  rw [List.getElem?_append_left z]; exact hq
theorem itW_r {Io If : Nat → Int32} {b : Nat} {c r : List It} (h : itW Io If b (c ++ r)) : itW Io If (b + c.length) r := by
  intro q it hq
  have := h (c.length + q) it (by rw [List.getElem?_append_right (by omega), show c.length + q - c.length = q by omega]; exact hq)
  rw [Nat.add_assoc]; exact this
set_option maxHeartbeats 4000000 in
theorem wtree (G : RG C E (nI no) no sz el) {n0 : Nat} (hn : n0 ≤ 40) {Cw : Nat → Int64} (hw : ∀ k, k < n0 → Cw (40 * 0 + k) = w k) {Io If : Nat → Int32} {xt : Int32} : ∀ (f o e i j d : Nat) (its : List It), cv no sz el w at0 f o e i j d its → ∀ (next deep : Nat) (l : List Nat) (B oi oe : Nat → Int32) (g n r : Nat), o < no → e ≤ sz o → j ≤ n0 → 1 ≤ deep → deep + its.length ≤ 100 → next + its.length ≤ 100 → itW Io If next its → oi (deep - 1) = nI o → oe (deep - 1) = nI e → rpB B l → (apL l (PP w its i (j - i))).length ≤ 600 → r + 20 * its.length + (sz o - e) ≤ g → r + 20 * its.length + 20 ≤ 60000 →
    ∃ B' oi' oe' g', m_X9_write_87 xt E C Cw Io If (m_X9_write_21 xt E C Cw Io If (n + its.length)) g B (nI l.length) oi oe (nI next) (nI deep) 0 = m_X9_write_87 xt E C Cw Io If (m_X9_write_21 xt E C Cw Io If n) g' B' (nI (apL l (PP w its i (j - i))).length) oi' oe' (nI (next + its.length)) (nI deep) 0 ∧ rpB B' (apL l (PP w its i (j - i))) ∧ (∀ q, q < deep → oi' q = oi q) ∧ (∀ q, q + 1 < deep → oe' q = oe q) ∧ oe' (deep - 1) = nI (sz o) ∧ r ≤ g' := by
  have hno : no ≤ 30 := G.2.1
  intro f
  induction f with
  | zero => intro o e i j d its h; exact h.elim
  | succ f ih =>
    intro o e i j d its h next deep l B oi oe g n r ho he hj hd1 hd2 hn2 hit hoi hoe hB hL hg hr
    obtain ⟨g1, g2, g3, g4⟩ := G.2.2 o ho
    unfold cv at h
    by_cases q : e = sz o
    · rw [if_pos q] at h
      obtain ⟨rfl, rfl⟩ := h
      rw [Nat.sub_self] at hL ⊢
      exact ⟨B, oi, oe, g, rfl, hB, fun _ _ => rfl, fun _ _ => rfl, by rw [hoe, q], by omega⟩
    · rw [if_neg q] at h
      obtain ⟨g0, rfl⟩ : ∃ z, g = z + 1 := ⟨g - 1, by omega⟩
      have ed : nI deep - 1 = nI (deep - 1) := by rw [i_1, pk_sub hd1]
      have e0 : ∀ N, m_X9_write_87 xt E C Cw Io If (m_X9_write_21 xt E C Cw Io If N) (g0 + 1) B (nI l.length) oi oe (nI next) (nI deep) 0 = m_X9_write_87 xt E C Cw Io If (m_X9_write_21 xt E C Cw Io If N) (g0 + 1) B (nI l.length) oi oe (nI next) (nI deep) 0 := fun _ => rfl
      conv at e0 => intro N; rhs; unfold m_X9_write_87
      have e1 : ∀ N, m_X9_write_87 xt E C Cw Io If (m_X9_write_21 xt E C Cw Io If N) (g0 + 1) B (nI l.length) oi oe (nI next) (nI deep) 0 = if bi (el o e = 95) = 0 then Option.bind (m_X9_put B (nI l.length) (el o e)) (fun r_13 => m_X9_write_87 xt E C Cw Io If (m_X9_write_21 xt E C Cw Io If N) g0 r_13.1 r_13.2 oi (upd oe (deep - 1) (nI (e + 1))) (nI next) (nI deep) (bi (el o e = 95))) else m_X9_write_87 xt E C Cw Io If (m_X9_write_21 xt E C Cw Io If N) g0 B (nI l.length) oi (upd oe (deep - 1) (nI (e + 1))) (nI next) (nI deep) (bi (el o e = 95)) := by
        intro N
        refine (e0 N).trans ?_
        rw [if_neg (by rw [nI_le0' (by omega)]; omega), if_pos rfl, ed, nI_cl (by omega), hoi, hoe, nI_cl (by omega), g1]
        rw [gd_nI (by omega) (by omega), gd_nI (by omega) (by omega), gd_nI (by omega) (by omega), if_neg (by rw [nI_eq' (by omega) (by omega)]; exact q), gd_nI (by omega) (by omega), gd_nI (by omega) (by omega), mHole_ok G ho (by omega), ob_i, i_9, pk_mul, nI_add, gd_nI (by omega) (by omega), nI_cl (by omega), Nat.mul_comm 9 o, g4 e (by omega), nI_1]
        rfl
      by_cases hh : el o e = 95
      · rw [if_pos hh] at h
        obtain ⟨m, c, r', h1, h2, h3, h4, h5⟩ := h
        subst h3
        rw [bi_t hh] at e1
        obtain ⟨g00, rfl⟩ : ∃ z, g0 = z + 1 := ⟨g0 - 1, by
          have : 1 ≤ c.length := by
            rcases h4 with ⟨_, _, h7⟩ | ⟨p, b, _, h7, _⟩ <;> rw [h7] <;> simp
          rw [List.length_append] at hg; omega⟩
        -- to the item
        have e2 : ∀ N, m_X9_write_87 xt E C Cw Io If (m_X9_write_21 xt E C Cw Io If N) (g00 + 1 + 1) B (nI l.length) oi oe (nI next) (nI deep) 0 = m_X9_write_21 xt E C Cw Io If N B (nI l.length) oi (upd oe (deep - 1) (nI (e + 1))) (nI next) (nI deep) 1 := by
          intro N
          rw [e1 N, if_neg (by decide)]
          show (if nI deep ≤ 0 then _ else (if (1 : Int32) = 0 then _ else _)) = _
          rw [if_neg (by rw [nI_le0' (by omega)]; omega), if_neg (by decide)]
          rfl
        obtain ⟨rr1, rr2⟩ := cv_rng h5
        have hlc : (c ++ r').length = c.length + r'.length := List.length_append
        rcases h4 with ⟨h6, h7, h8⟩ | ⟨p, b, hp, h8, h9⟩
        · -- an atom
          subst h8
          have hPP : PP w ([(0, i, m, d)] ++ r') i (j - i) = [w i] ++ PP w r' m (j - m) := by
            rw [PP_split (m := m) (by omega) h2 (fun it hit => by simp at hit; rw [hit]; exact ⟨Nat.le_refl _, h1, Nat.le_refl _⟩) rr2]
            congr 1
            rw [h6, show i + 1 - i = 1 by omega]
            show ((if (0 : Nat) ≠ 0 ∧ i = i then [40] else []) ++ []) ++ ([w i] ++ (((if (0 : Nat) ≠ 0 ∧ i + 1 = i + 1 then [41] else []) ++ []) ++ [])) = [w i]
            rw [if_neg (by omega), if_neg (by omega)]; rfl
          rw [hPP, apL_app] at hL ⊢
          have hL1 : (ap l (w i)).length ≤ 600 := by
            have := apL_le (PP w r' m (j - m)) (apL l [w i])
            have eap : apL l [w i] = ap l (w i) := rfl
            rw [eap] at this hL; omega
          have eap : apL l [w i] = ap l (w i) := rfl
          rw [eap] at hL ⊢
          obtain ⟨B1, b1, b2⟩ := put_ok hB (w i) hL1
          rw [hlc] at hd2 hn2 hg hr ⊢
          have hc1 : ([(0, i, m, d)] : List It).length = 1 := rfl
          rw [hc1] at hd2 hn2 hg hr ⊢
          obtain ⟨o1, o2⟩ := hit 0 (0, i, m, d) rfl
          have hwi : Cw i = w i := by have := hw i (by omega); simpa using this
          obtain ⟨B', oi', oe', g', k1, k2, k3, k4, k5, k6⟩ := ih o (e + 1) m j d r' h5 (next + 1) deep (ap l (w i)) B1 oi (upd oe (deep - 1) (nI (e + 1))) FU n r ho (by omega) hj hd1 (by omega) (by omega) (itW_r hit) hoi pk_us b2 hL (by rw [FU_v]; omega) (by omega)
          refine ⟨B', oi', oe', g', ?_, k2, k3, fun q' hq' => by rw [k4 q' hq', pk_un (by omega)], k5, k6⟩
          rw [e2, show n + (1 + r'.length) = (n + r'.length) + 1 by omega]
          have e6 : ∀ V : Nat → Int32, m_X9_write_21 xt E C Cw Io If ((n + r'.length) + 1) B (nI l.length) oi V (nI next) (nI deep) 1 = m_X9_write_21 xt E C Cw Io If ((n + r'.length) + 1) B (nI l.length) oi V (nI next) (nI deep) 1 := fun _ => rfl
          conv at e6 => intro V; rhs; unfold m_X9_write_21
          rw [e6]
          rw [Nat.add_zero] at o1 o2
          have o1' : Io next = -1 := o1.trans (show topv 0 = -1 from rfl)
          have o2' : If next = nI i := o2
          rw [if_neg (by decide), gd_nI (by omega) (by omega), nI_cl (by omega), o1', if_neg (show ¬ (0 : Int32) ≤ -1 by decide), gd_nI (by omega) (by omega), o2', gd_nI (by omega) (by omega), nI_cl (by omega), hwi, b1, ob_i]
          unfold m_X9_write_81
          dsimp only
          rw [nI_1, k1, show next + 1 + r'.length = next + (1 + r'.length) by omega]
        · -- an operator
          subst h8
          obtain ⟨bb1, bb2⟩ := cv_rng h9
          obtain ⟨gp1, gp2, gp3, gp4⟩ := G.2.2 p hp
          have hPP : PP w (((p + 1, i, m, d) :: b) ++ r') i (j - i) = [40] ++ (PP w b i (m - i) ++ ([41] ++ PP w r' m (j - m))) := by
            rw [PP_split (m := m) (by omega) h2 (fun it hit => by
              rcases List.mem_cons.mp hit with rfl | hit
              · exact ⟨Nat.le_refl _, h1, Nat.le_refl _⟩
              · exact bb2 it hit) rr2, PP_node h1]
            simp [List.append_assoc]
          have hfin : apL l (PP w (((p + 1, i, m, d) :: b) ++ r') i (j - i)) = apL (ap (apL (ap l 40) (PP w b i (m - i))) 41) (PP w r' m (j - m)) := by
            rw [hPP, apL_app, apL_app, apL_app]; rfl
          rw [hfin] at hL ⊢
          have hL3 := apL_le (PP w r' m (j - m)) (ap (apL (ap l 40) (PP w b i (m - i))) 41)
          have hL2 := (ap_len (apL (ap l 40) (PP w b i (m - i))) 41).1
          have hL1 := apL_le (PP w b i (m - i)) (ap l 40)
          obtain ⟨B1, b1, b2⟩ := put_ok hB 40 (by omega)
          rw [hlc] at hd2 hn2 hg hr ⊢
          have hc1 : (((p + 1, i, m, d) :: b) : List It).length = b.length + 1 := rfl
          rw [hc1] at hd2 hn2 hg hr ⊢
          obtain ⟨o1, o2⟩ := hit 0 (p + 1, i, m, d) rfl
          rw [Nat.add_zero, topv_s] at o1
          have hitb : itW Io If (next + 1) b := by
            have := itW_l hit
            intro q' it hq'
            have := this (q' + 1) it hq'
            rw [show next + 1 + q' = next + (q' + 1) by omega]; exact this
          obtain ⟨B2, oi2, oe2, g2', k1, k2, k3, k4, k5, k6⟩ := ih p 0 i m (d + 1) b h9 (next + 1) (deep + 1) (ap l 40) B1 (upd oi deep (nI p)) (upd (upd oe (deep - 1) (nI (e + 1))) deep 0) FU (n + r'.length) (r + 20 * r'.length + 20) hp (by omega) (by omega) (by omega) (by omega) (by omega) hitb pk_us pk_us b2 (by omega) (by rw [FU_v]; omega) (by omega)
          obtain ⟨g3', rfl⟩ : ∃ z, g2' = z + 1 := ⟨g2' - 1, by omega⟩
          obtain ⟨B3, b3, b4⟩ := put_ok k2 41 (by omega)
          have hoi2 : oi2 (deep - 1) = nI o := by rw [k3 (deep - 1) (by omega), pk_un (by omega)]; exact hoi
          have hoe2 : oe2 (deep - 1) = nI (e + 1) := by rw [k4 (deep - 1) (by omega), pk_un (by omega), pk_us]
          obtain ⟨B', oi', oe', g', m1, m2, m3, m4, m5, m6⟩ := ih o (e + 1) m j d r' h5 (next + 1 + b.length) deep (ap (apL (ap l 40) (PP w b i (m - i))) 41) B3 oi2 oe2 g3' n r ho (by omega) hj hd1 (by omega) (by omega) (by have := itW_r hit; rw [hc1] at this; rw [show next + 1 + b.length = next + (b.length + 1) by omega]; exact this) hoi2 hoe2 b4 hL (by omega) (by omega)
          refine ⟨B', oi', oe', g', ?_, m2, fun q' hq' => by rw [m3 q' hq', k3 q' (by omega), pk_un (by omega)], fun q' hq' => by rw [m4 q' hq', k4 q' (by omega), pk_un (by omega), pk_un (by omega)], m5, m6⟩
          rw [e2, show n + (b.length + 1 + r'.length) = (n + r'.length + b.length) + 1 by omega]
          have e6 : ∀ V : Nat → Int32, m_X9_write_21 xt E C Cw Io If ((n + r'.length + b.length) + 1) B (nI l.length) oi V (nI next) (nI deep) 1 = m_X9_write_21 xt E C Cw Io If ((n + r'.length + b.length) + 1) B (nI l.length) oi V (nI next) (nI deep) 1 := fun _ => rfl
          conv at e6 => intro V; rhs; unfold m_X9_write_21
          rw [e6]
          rw [if_neg (by decide), gd_nI (by omega) (by omega), nI_cl (by omega), o1, if_pos (by rw [i_0, nI_le' (by omega) (by omega)]; omega), b1, ob_i, gd_nI (by omega) (by omega), gd_nI (by omega) (by omega), nI_cl (by omega)]
          unfold m_X9_write_81
          dsimp only
          rw [nI_1, nI_1, k1]
          -- the bracket
          have ed2 : nI (deep + 1) - 1 = nI deep := nI_pred deep
          have hoi3 : oi2 deep = nI p := by rw [k3 deep (by omega), pk_us]
          have hoe3 : oe2 deep = nI (sz p) := k5
          have e5 : m_X9_write_87 xt E C Cw Io If (m_X9_write_21 xt E C Cw Io If (n + r'.length)) (g3' + 1) B2 (nI (apL (ap l 40) (PP w b i (m - i))).length) oi2 oe2 (nI (next + 1 + b.length)) (nI (deep + 1)) 0 = m_X9_write_87 xt E C Cw Io If (m_X9_write_21 xt E C Cw Io If (n + r'.length)) (g3' + 1) B2 (nI (apL (ap l 40) (PP w b i (m - i))).length) oi2 oe2 (nI (next + 1 + b.length)) (nI (deep + 1)) 0 := rfl
          conv at e5 => rhs; unfold m_X9_write_87
          rw [if_neg (by rw [nI_le0' (by omega)]; omega), if_pos rfl, ed2, nI_cl (by omega), hoi3, hoe3, nI_cl (by omega), gp1, gd_nI (by omega) (by omega), gd_nI (by omega) (by omega), gd_nI (by omega) (by omega), if_pos rfl, b3, ob_i, i_m1] at e5
          rw [e5]
          unfold m_X9_write_185
          dsimp only
          rw [m1, show next + 1 + b.length + r'.length = next + (b.length + 1 + r'.length) by omega]
      · -- a part
        rw [if_neg hh] at h
        obtain ⟨h1, h2, h3⟩ := h
        rw [bi_f hh] at e1
        obtain ⟨rr1, rr2⟩ := cv_rng h3
        have hPP : PP w its i (j - i) = [w i] ++ PP w its (i + 1) (j - (i + 1)) := by
          rw [show j - i = (j - (i + 1)) + 1 by omega]
          show opn its i ++ ([w i] ++ (cls its (i + 1) ++ _)) = _
          rw [opn_no (fun it hit => by have := rr2 it hit; omega), cls_no (fun it hit => by have := rr2 it hit; omega)]
          rfl
        rw [hPP, apL_app] at hL ⊢
        have eap : apL l [w i] = ap l (w i) := rfl
        rw [eap] at hL ⊢
        have hL1 := apL_le (PP w its (i + 1) (j - (i + 1))) (ap l (w i))
        obtain ⟨B1, b1, b2⟩ := put_ok hB (w i) (by omega)
        obtain ⟨B', oi', oe', g', k1, k2, k3, k4, k5, k6⟩ := ih o (e + 1) (i + 1) j d its h3 next deep (ap l (w i)) B1 oi (upd oe (deep - 1) (nI (e + 1))) g0 n r ho (by omega) hj hd1 hd2 hn2 hit hoi pk_us b2 hL (by omega) hr
        refine ⟨B', oi', oe', g', ?_, k2, k3, fun q' hq' => by rw [k4 q' hq', pk_un (by omega)], k5, k6⟩
        rw [e1, if_pos rfl, ← h2, b1, ob_i]
        exact k1
/-- the reference writes -/
theorem mwrite_ok (G : RG C E (nI no) no sz el) {n : Nat} (hn1 : 1 ≤ n) (hn : n ≤ 40) {Cw : Nat → Int64} (hw : ∀ k, k < n → Cw (40 * 0 + k) = w k) {Io If : Nat → Int32} {F : Nat} {its : List It} (hT : tre no sz el w at0 F 0 n 0 its) (hits : its.length ≤ 40) (hit : itW Io If 0 its) (hL : (apL [] (PP w its 0 n)).length ≤ 600) (B : Nat → Int32) (x : Int32) (oi oe : Nat → Int32) :
    ∃ B' oi' oe', m_X9_write E C Cw 1 Io If B x oi oe = some (nI (apL [] (PP w its 0 n)).length, B', nI (apL [] (PP w its 0 n)).length, oi', oe') ∧ rpB B' (apL [] (PP w its 0 n)) := by
  have hno : no ≤ 30 := G.2.1
  unfold m_X9_write
  rw [if_neg (by decide)]
  have hB0 : rpB B [] := fun q b h => by simp at h
  have hF1 : FU = (FU - 1) + 1 := by decide
  rcases hT with ⟨h1, h2, h3⟩ | ⟨p, b, hp, h3, h4⟩
  · subst h3
    have hPP : PP w [(0, 0, n, 0)] 0 n = [w 0] := by
      rw [h1]
      show ((if (0 : Nat) ≠ 0 ∧ 0 = 0 then [40] else []) ++ []) ++ ([w 0] ++ (((if (0 : Nat) ≠ 0 ∧ 0 + 1 = 0 + 1 then [41] else []) ++ []) ++ [])) = [w 0]
      rw [if_neg (by omega), if_neg (by omega)]; rfl
    rw [hPP] at hL ⊢
    obtain ⟨o1, o2⟩ := hit 0 (0, 0, n, 0) rfl
    rw [Nat.add_zero] at o1 o2
    have hw0 : Cw 0 = w 0 := by have := hw 0 (by omega); simpa using this
    obtain ⟨B1, b1, b2⟩ := put_ok hB0 (w 0) hL
    refine ⟨B1, oi, oe, ?_, b2⟩
    have e0 : ∀ k, m_X9_write_21 1 E C Cw Io If (k + 2) B 0 oi oe 0 0 1 = some (nI (ap [] (w 0)).length, B1, nI (ap [] (w 0)).length, oi, oe) := by
      intro k
      have e1 : m_X9_write_21 1 E C Cw Io If (k + 2) B (nI ([] : List Nat).length) oi oe (nI 0) (nI 0) 1 = m_X9_write_21 1 E C Cw Io If (k + 2) B (nI ([] : List Nat).length) oi oe (nI 0) (nI 0) 1 := rfl
      conv at e1 => rhs; unfold m_X9_write_21
      refine Eq.trans e1 ?_
      have o1' : Io 0 = -1 := o1.trans (show topv 0 = -1 from rfl)
      rw [if_neg (by decide), gd_nI (by omega) (by omega), nI_cl (by omega), o1', if_neg (show ¬ (0 : Int32) ≤ -1 by decide), gd_nI (by omega) (by omega), o2]
      rw [gd_nI (by show 0 < 80; omega) (by omega), nI_cl (by show 0 < 2 ^ 31; omega)]
      show Option.bind (m_X9_put B (nI ([] : List Nat).length) (Cw 0)) _ = _
      rw [hw0, b1, ob_i]
      rfl
    have := e0 (FU - 2)
    rw [show FU - 2 + 2 = FU by decide] at this
    exact this
  · subst h3
    have hpp := PP_node (w := w) (o := p) (dp := 0) (b := b) (show 0 < n by omega)
    rw [Nat.sub_zero] at hpp
    rw [hpp] at hL ⊢
    have hfin : apL [] (40 :: (PP w b 0 n ++ [41])) = ap (apL (ap [] 40) (PP w b 0 n)) 41 := by
      show apL (ap [] 40) (PP w b 0 n ++ [41]) = _
      rw [apL_app]; rfl
    rw [hfin] at hL ⊢
    have hL2 := (ap_len (apL (ap [] 40) (PP w b 0 n)) 41).1
    have hL1 := apL_le (PP w b 0 n) (ap [] 40)
    obtain ⟨B1, b1, b2⟩ := put_ok hB0 40 (by omega)
    obtain ⟨o1, o2⟩ := hit 0 (p + 1, 0, n, 0) rfl
    rw [Nat.add_zero, topv_s] at o1
    rw [List.length_cons] at hits
    obtain ⟨gp1, gp2, gp3, gp4⟩ := G.2.2 p hp
    have hitb : itW Io If 1 b := by
      intro q' it hq'
      have := hit (q' + 1) it hq'
      rw [show 1 + q' = 0 + (q' + 1) by omega]; exact this
    obtain ⟨k, hk⟩ : ∃ k, FU = (k + 1 + b.length) + 1 := ⟨FU - 2 - b.length, by rw [FU_v]; omega⟩
    obtain ⟨B2, oi2, oe2, g2', k1, k2, k3, k4, k5, k6⟩ := wtree G hn hw (xt := 1) F p 0 0 n 1 b h4 1 1 (ap [] 40) B1 (upd oi 0 (nI p)) (upd oe 0 0) FU (k + 1) 100 hp (by omega) (Nat.le_refl _) (by omega) (by omega) (by omega) hitb pk_us pk_us b2 (by rw [Nat.sub_zero]; omega) (by rw [FU_v]; omega) (by omega)
    rw [Nat.sub_zero] at k1 k2
    obtain ⟨g3', rfl⟩ : ∃ z, g2' = z + 2 := ⟨g2' - 2, by omega⟩
    obtain ⟨B3, b3, b4⟩ := put_ok k2 41 (by omega)
    refine ⟨B3, oi2, oe2, ?_, b4⟩
    have e0 : m_X9_write_21 1 E C Cw Io If ((k + 1 + b.length) + 1) B 0 oi oe 0 0 1 = some (nI (ap (apL (ap [] 40) (PP w b 0 n)) 41).length, B3, nI (ap (apL (ap [] 40) (PP w b 0 n)) 41).length, oi2, oe2) := by
      have e1 : m_X9_write_21 1 E C Cw Io If ((k + 1 + b.length) + 1) B (nI ([] : List Nat).length) oi oe (nI 0) (nI 0) 1 = m_X9_write_21 1 E C Cw Io If ((k + 1 + b.length) + 1) B (nI ([] : List Nat).length) oi oe (nI 0) (nI 0) 1 := rfl
      conv at e1 => rhs; unfold m_X9_write_21
      refine Eq.trans e1 ?_
      rw [if_neg (by decide), gd_nI (by omega) (by omega), nI_cl (by omega), o1, if_pos (by rw [i_0, nI_le' (by omega) (by omega)]; omega), b1, ob_i]
      rw [gd_nI (by omega) (by omega), gd_nI (by omega) (by omega)]
      unfold m_X9_write_81
      dsimp only
      rw [nI_1, k1]
      have hoi3 : oi2 0 = nI p := by rw [k3 0 (by omega), pk_us]
      have hoe3 : oe2 0 = nI (sz p) := k5
      have e5 : m_X9_write_87 1 E C Cw Io If (m_X9_write_21 1 E C Cw Io If (k + 1)) (g3' + 2) B2 (nI (apL (ap [] 40) (PP w b 0 n)).length) oi2 oe2 (nI (1 + b.length)) (nI 1) 0 = m_X9_write_87 1 E C Cw Io If (m_X9_write_21 1 E C Cw Io If (k + 1)) (g3' + 2) B2 (nI (apL (ap [] 40) (PP w b 0 n)).length) oi2 oe2 (nI (1 + b.length)) (nI 1) 0 := rfl
      conv at e5 => rhs; unfold m_X9_write_87
      rw [if_neg (by decide), if_pos rfl, show nI 1 - 1 = nI 0 from rfl, nI_cl (by omega), hoi3, hoe3, nI_cl (by omega), gp1, gd_nI (by omega) (by omega), gd_nI (by omega) (by omega), gd_nI (by omega) (by omega), if_pos rfl, b3, ob_i] at e5
      rw [e5]
      rfl
    rw [← hk] at e0
    exact e0
end WR
