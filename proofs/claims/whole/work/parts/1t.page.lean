/-! the class's page; how long it is at most -/
def cst : List Int64 → Nat
  | [] => 0
  | v :: L => (1 + (tbk v 8).length) + cst L
theorem cst_app : ∀ A B : List Int64, cst (A ++ B) = cst A + cst B := by
  intro A
  induction A with
  | nil => intro B; simp [cst]
  | cons v A ih => intro B; show _ + cst (A ++ B) = _ + cst A + cst B; rw [ih]; omega
theorem apL_cst : ∀ (A : List Int64) (l : List Nat), (apL l A).length ≤ l.length + cst A := by
  intro A
  induction A with
  | nil => intro l; exact Nat.le_refl _
  | cons v A ih =>
    intro l
    have h1 := ih (ap l v)
    have h2 := (ap_len l v).2
    show (apL (ap l v) A).length ≤ l.length + ((1 + (tbk v 8).length) + cst A)
    omega
theorem cst_opn (x : Nat) : ∀ A : List It, cst (opn A x) = 2 * (opn A x).length := by
  intro A
  induction A with
  | nil => rfl
  | cons it A ih =>
    show cst (_ ++ opn A x) = 2 * (_ ++ opn A x).length
    rw [cst_app, ih, List.length_append]
    split
    · have : cst [40] = 2 := by decide
      rw [this]; simp; omega
    · simp [cst]
theorem cst_cls (x : Nat) : ∀ A : List It, cst (cls A x) = 2 * (cls A x).length := by
  intro A
  induction A with
  | nil => rfl
  | cons it A ih =>
    show cst (_ ++ cls A x) = 2 * (_ ++ cls A x).length
    rw [cst_app, ih, List.length_append]
    split
    · have : cst [41] = 2 := by decide
      rw [this]; simp; omega
    · simp [cst]
theorem sm_ind (P : Prop) [Decidable P] (a i d : Nat) : sm (fun x => if P ∧ a = x then 1 else 0) i d ≤ 1 := by
  by_cases h : i ≤ a ∧ a < i + d
  · rw [sm_one (j := a) h.1 h.2 (fun q _ _ hq => if_neg (fun z => hq z.2.symm))]
    split <;> omega
  · rw [sm_zero (fun q h1 h2 => if_neg (fun z => h (by rw [z.2]; exact ⟨h1, h2⟩)))]
    omega
theorem nopn : ∀ (A : List It) (i d : Nat), sm (fun x => (opn A x).length) i d ≤ A.length := by
  intro A
  induction A with
  | nil => intro i d; have e : sm (fun x => (opn [] x).length) i d = 0 := sm_zero (fun _ _ _ => rfl); rw [e]; exact Nat.le_refl _
  | cons it A ih =>
    intro i d
    have h1 := ih i d
    have h2 := sm_ind (it.1 ≠ 0) it.2.1 i d
    have e : sm (fun x => (opn (it :: A) x).length) i d = sm (fun x => (if it.1 ≠ 0 ∧ it.2.1 = x then 1 else 0) + (opn A x).length) i d := by
      apply sm_congr
      intro x _ _
      show ((if it.1 ≠ 0 ∧ it.2.1 = x then [40] else []) ++ opn A x).length = _
      rw [List.length_append]
      split <;> rfl
    rw [e, sm_add, List.length_cons]
    omega
theorem ncls : ∀ (A : List It) (i d : Nat), sm (fun x => (cls A x).length) i d ≤ A.length := by
  intro A
  induction A with
  | nil => intro i d; have e : sm (fun x => (cls [] x).length) i d = 0 := sm_zero (fun _ _ _ => rfl); rw [e]; exact Nat.le_refl _
  | cons it A ih =>
    intro i d
    have h1 := ih i d
    have h2 := sm_ind (it.1 ≠ 0) it.2.2.1 i d
    have e : sm (fun x => (cls (it :: A) x).length) i d = sm (fun x => (if it.1 ≠ 0 ∧ it.2.2.1 = x then 1 else 0) + (cls A x).length) i d := by
      apply sm_congr
      intro x _ _
      show ((if it.1 ≠ 0 ∧ it.2.2.1 = x then [41] else []) ++ cls A x).length = _
      rw [List.length_append]
      split <;> rfl
    rw [e, sm_add, List.length_cons]
    omega
theorem cst_PP (w : Nat → Int64) (A : List It) : ∀ (d i : Nat), cst (PP w A i d) ≤ 9 * d + 2 * sm (fun x => (opn A x).length) i d + 2 * sm (fun x => (cls A x).length) (i + 1) d := by
  intro d
  induction d with
  | zero => intro i; exact Nat.zero_le _
  | succ d ih =>
    intro i
    have h1 := ih (i + 1)
    have h2 := tbk_len (w i) 8
    show cst (opn A i ++ ([w i] ++ (cls A (i + 1) ++ PP w A (i + 1) d))) ≤ _
    rw [cst_app, cst_app, cst_app, cst_opn, cst_cls, sm_s, sm_s]
    have h3 : cst [w i] = 1 + (tbk (w i) 8).length := rfl
    omega
theorem PP_600 (w : Nat → Int64) {A : List It} {n : Nat} (hn : n ≤ 40) (hA : A.length ≤ 40) : (apL [] (PP w A 0 n)).length ≤ 600 := by
  have h1 := apL_cst (PP w A 0 n) []
  have h2 := cst_PP w A n 0
  have h3 := nopn A 0 n
  have h4 := ncls A (0 + 1) n
  have h5 : ([] : List Nat).length = 0 := rfl
  omega
theorem topv_m1 (c : Nat) (hc : c ≤ 40) : (topv c = -1) ↔ c = 0 := by
  have : ∀ c, c ≤ 40 → ((topv c = -1) ↔ c = 0) := by decide +kernel
  exact this c hc
set_option maxHeartbeats 1000000 in
theorem fillP_ok {n : Nat} (hn : n ≤ 40) {Cw : Nat → Int64} {w : Nat → Int64} (hw : ∀ k, k < n → Cw k = w k) {Tt Tf Te Td : Nat → Int32} {its : List It} (hT : itT Tt Tf Te Td its) (hl : its.length ≤ 40) (hits : ∀ it, it ∈ its → it.1 ≤ 40 ∧ it.2.1 ≤ 40 ∧ it.2.2.1 ≤ 40) (B : Nat → Int32) (x0 : Int32) :
    ∃ B', m_X1_fill B x0 Cw (nI n) Tt Tf Te (nI its.length) = some (B', nI (apL [] (PP w its 0 n)).length) ∧ rpB B' (apL [] (PP w its 0 n)) := by
  have hL := PP_600 w hn hl
  generalize hFIN : apL [] (PP w its 0 n) = FIN at hL ⊢
  have item : ∀ k, k < its.length → ∃ it, its[k]? = some it ∧ its.drop k = it :: its.drop (k + 1) ∧ it.1 ≤ 40 ∧ it.2.1 ≤ 40 ∧ it.2.2.1 ≤ 40 := by
    intro k hk
    have h3 := hits its[k] (List.getElem_mem hk)
    exact ⟨its[k], List.getElem?_eq_getElem hk, (List.drop_eq_getElem_cons hk), h3⟩
  -- brackets behind a word
  have L72 : ∀ (k7 : (Nat → Int32) → Int32 → Int32 → Option ((Nat → Int32) × Int32)) (x : Nat) (B : Nat → Int32) (l : List Nat), x < n → rpB B l → apL l (cls its (x + 1) ++ PP w its (x + 1) (n - (x + 1))) = FIN → ∃ B' l', m_X1_fill_72 (nI n) (nI its.length) Cw Tt Tf Te k7 FU B (nI l.length) (nI x) 0 = k7 B' (nI l'.length) (nI (x + 1)) ∧ rpB B' l' ∧ apL l' (PP w its (x + 1) (n - (x + 1))) = FIN := by
    intro k7 x B l hx hB hl0
    refine lpP (fun f k (s : (Nat → Int32) × List Nat) => m_X1_fill_72 (nI n) (nI its.length) Cw Tt Tf Te k7 f s.1 (nI s.2.length) (nI x) (nI k)) (fun r => ∃ B' l', r = k7 B' (nI l'.length) (nI (x + 1)) ∧ rpB B' l' ∧ apL l' (PP w its (x + 1) (n - (x + 1))) = FIN) its.length (fun k s => rpB s.1 s.2 ∧ apL s.2 (cls (its.drop k) (x + 1) ++ PP w its (x + 1) (n - (x + 1))) = FIN) ?_ ?_ its.length FU 0 (B, l) (by omega) (by rw [FU_v]; omega) ⟨hB, by rw [List.drop_zero]; exact hl0⟩
    · intro f s ⟨s1, s2⟩
      rw [List.drop_length] at s2
      refine ⟨s.1, s.2, ?_, s1, s2⟩
      show (if nI its.length ≤ nI its.length then (k7 s.1 (nI s.2.length) (nI x + 1)) else _) = _
      rw [if_pos (by rw [nI_le' (by omega) (by omega)]; omega), nI_1]
    · intro f k s hk ⟨s1, s2⟩
      right
      obtain ⟨it, i1, i2, i3, i4, i5⟩ := item k hk
      obtain ⟨t1, t2, t3, t4⟩ := hT k it i1
      have e0 : m_X1_fill_72 (nI n) (nI its.length) Cw Tt Tf Te k7 (f + 1) s.1 (nI s.2.length) (nI x) (nI k) = m_X1_fill_72 (nI n) (nI its.length) Cw Tt Tf Te k7 (f + 1) s.1 (nI s.2.length) (nI x) (nI k) := rfl
      conv at e0 => rhs; unfold m_X1_fill_72
      unfold m_X7_size m_X7_top m_X7_end m_X1_fill_110 at e0
      rw [ob_i, if_neg (by rw [nI_le' (by omega) (by omega)]; omega), gd_nI (by omega) (by omega), ob_i, gd_nI (by omega) (by omega), ob_i, nI_cl (by omega), t1, t3, nI_1, nI_1] at e0
      rw [i2] at s2
      have s2' : apL s.2 (((if it.1 ≠ 0 ∧ it.2.2.1 = x + 1 then [41] else []) ++ cls (its.drop (k + 1)) (x + 1)) ++ PP w its (x + 1) (n - (x + 1))) = FIN := s2
      by_cases q : it.1 = 0
      · rw [if_pos ((topv_m1 _ i3).mpr q)] at e0
        rw [if_neg (fun z => z.1 q)] at s2'
        exact ⟨s, e0, s1, s2'⟩
      · rw [if_neg (fun z => q ((topv_m1 _ i3).mp z))] at e0
        by_cases q2 : it.2.2.1 = x + 1
        · rw [if_pos ⟨q, q2⟩, List.append_assoc, apL_app] at s2'
          have s3 : apL (ap s.2 41) (cls (its.drop (k + 1)) (x + 1) ++ PP w its (x + 1) (n - (x + 1))) = FIN := s2'
          have hle := apL_le (cls (its.drop (k + 1)) (x + 1) ++ PP w its (x + 1) (n - (x + 1))) (ap s.2 41)
          rw [s3] at hle
          obtain ⟨B1, b1, b2⟩ := append_ok s1 41 (by omega)
          rw [if_pos (by rw [q2]), b1, ob_i] at e0
          exact ⟨(B1, ap s.2 41), e0, b2, s3⟩
        · rw [if_neg (by rw [nI_eq' (by omega) (by omega)]; exact q2)] at e0
          rw [if_neg (fun z => q2 z.2)] at s2'
          exact ⟨s, e0, s1, s2'⟩
  -- brackets before a word, and the word
  have L18 : ∀ (k7 : (Nat → Int32) → Int32 → Int32 → Option ((Nat → Int32) × Int32)) (x : Nat) (B : Nat → Int32) (l : List Nat), x < n → rpB B l → apL l (PP w its x (n - x)) = FIN → ∃ B' l', m_X1_fill_18 (nI n) (nI its.length) Cw Tt Tf Te k7 FU B (nI l.length) (nI x) 0 = k7 B' (nI l'.length) (nI (x + 1)) ∧ rpB B' l' ∧ apL l' (PP w its (x + 1) (n - (x + 1))) = FIN := by
    intro k7 x B l hx hB hl0
    rw [show n - x = (n - (x + 1)) + 1 by omega] at hl0
    have hl1 : apL l (opn its x ++ ([w x] ++ (cls its (x + 1) ++ PP w its (x + 1) (n - (x + 1))))) = FIN := hl0
    refine lpP (fun f k (s : (Nat → Int32) × List Nat) => m_X1_fill_18 (nI n) (nI its.length) Cw Tt Tf Te k7 f s.1 (nI s.2.length) (nI x) (nI k)) (fun r => ∃ B' l', r = k7 B' (nI l'.length) (nI (x + 1)) ∧ rpB B' l' ∧ apL l' (PP w its (x + 1) (n - (x + 1))) = FIN) its.length (fun k s => rpB s.1 s.2 ∧ apL s.2 (opn (its.drop k) x ++ ([w x] ++ (cls its (x + 1) ++ PP w its (x + 1) (n - (x + 1))))) = FIN) ?_ ?_ its.length FU 0 (B, l) (by omega) (by rw [FU_v]; omega) ⟨hB, by rw [List.drop_zero]; exact hl1⟩
    · intro f s ⟨s1, s2⟩
      rw [List.drop_length] at s2
      have s3 : apL (ap s.2 (w x)) (cls its (x + 1) ++ PP w its (x + 1) (n - (x + 1))) = FIN := s2
      have hle := apL_le (cls its (x + 1) ++ PP w its (x + 1) (n - (x + 1))) (ap s.2 (w x))
      rw [s3] at hle
      obtain ⟨B1, b1, b2⟩ := append_ok s1 (w x) (by omega)
      obtain ⟨B', l', k1, k2, k3⟩ := L72 k7 x B1 (ap s.2 (w x)) hx b2 s3
      refine ⟨B', l', ?_, k2, k3⟩
      show (if nI its.length ≤ nI its.length then (Option.bind (m_X0_word Cw (nI x)) (fun r_15 => Option.bind (m_X1_append s.1 (nI s.2.length) r_15) (fun r_17 => m_X1_fill_72 (nI n) (nI its.length) Cw Tt Tf Te k7 FU r_17.1 r_17.2 (nI x) 0))) else _) = _
      unfold m_X0_word
      rw [if_pos (by rw [nI_le' (by omega) (by omega)]; omega), gd_nI (by omega) (by omega), ob_i, nI_cl (by omega), hw x hx, b1, ob_i]
      exact k1
    · intro f k s hk ⟨s1, s2⟩
      right
      obtain ⟨it, i1, i2, i3, i4, i5⟩ := item k hk
      obtain ⟨t1, t2, t3, t4⟩ := hT k it i1
      have e0 : m_X1_fill_18 (nI n) (nI its.length) Cw Tt Tf Te k7 (f + 1) s.1 (nI s.2.length) (nI x) (nI k) = m_X1_fill_18 (nI n) (nI its.length) Cw Tt Tf Te k7 (f + 1) s.1 (nI s.2.length) (nI x) (nI k) := rfl
      conv at e0 => rhs; unfold m_X1_fill_18
      unfold m_X7_size m_X7_top m_X7_first m_X1_fill_54 at e0
      rw [ob_i, if_neg (by rw [nI_le' (by omega) (by omega)]; omega), gd_nI (by omega) (by omega), ob_i, gd_nI (by omega) (by omega), ob_i, nI_cl (by omega), t1, t2, nI_1] at e0
      rw [i2] at s2
      have s2' : apL s.2 (((if it.1 ≠ 0 ∧ it.2.1 = x then [40] else []) ++ opn (its.drop (k + 1)) x) ++ ([w x] ++ (cls its (x + 1) ++ PP w its (x + 1) (n - (x + 1))))) = FIN := s2
      by_cases q : it.1 = 0
      · rw [if_pos ((topv_m1 _ i3).mpr q)] at e0
        rw [if_neg (fun z => z.1 q)] at s2'
        exact ⟨s, e0, s1, s2'⟩
      · rw [if_neg (fun z => q ((topv_m1 _ i3).mp z))] at e0
        by_cases q2 : it.2.1 = x
        · rw [if_pos ⟨q, q2⟩, List.append_assoc, apL_app] at s2'
          have s3 : apL (ap s.2 40) (opn (its.drop (k + 1)) x ++ ([w x] ++ (cls its (x + 1) ++ PP w its (x + 1) (n - (x + 1))))) = FIN := s2'
          have hle := apL_le (opn (its.drop (k + 1)) x ++ ([w x] ++ (cls its (x + 1) ++ PP w its (x + 1) (n - (x + 1))))) (ap s.2 40)
          rw [s3] at hle
          obtain ⟨B1, b1, b2⟩ := append_ok s1 40 (by omega)
          rw [if_pos (by rw [q2]), b1, ob_i] at e0
          exact ⟨(B1, ap s.2 40), e0, b2, s3⟩
        · rw [if_neg (by rw [nI_eq' (by omega) (by omega)]; exact q2)] at e0
          rw [if_neg (fun z => q2 z.2)] at s2'
          exact ⟨s, e0, s1, s2'⟩
  unfold m_X1_fill
  have key := lpP (fun f x (s : (Nat → Int32) × List Nat) => m_X1_fill_7 (nI n) (nI its.length) Cw Tt Tf Te f s.1 (nI s.2.length) (nI x)) (fun r => ∃ B', r = some (B', nI FIN.length) ∧ rpB B' FIN) n (fun x s => rpB s.1 s.2 ∧ apL s.2 (PP w its x (n - x)) = FIN) ?_ ?_ n FU 0 (B, []) (by omega) (by rw [FU_v]; omega) ⟨fun q b h => by simp at h, hFIN⟩
  · exact key
  · intro f s ⟨s1, s2⟩
    rw [Nat.sub_self] at s2
    have s3 : s.2 = FIN := s2
    refine ⟨s.1, ?_, by rw [← s3]; exact s1⟩
    show (if nI n ≤ nI n then (some (s.1, nI s.2.length)) else _) = _
    rw [if_pos (by rw [nI_le' (by omega) (by omega)]; omega), s3]
  · intro f x s hx ⟨s1, s2⟩
    right
    obtain ⟨B', l', k1, k2, k3⟩ := L18 (m_X1_fill_7 (nI n) (nI its.length) Cw Tt Tf Te f) x s.1 s.2 hx s1 s2
    refine ⟨(B', l'), ?_, k2, k3⟩
    show (if nI n ≤ nI x then _ else _) = _
    rw [if_neg (by rw [nI_le' (by omega) (by omega)]; omega)]
    exact k1
