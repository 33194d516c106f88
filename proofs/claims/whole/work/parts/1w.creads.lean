/-! the class reads a written tree: all its words -/
theorem step_len {no : Nat} {sz : Nat → Nat} {el : Nat → Nat → Int64} {Tk : Nat → Int32} {S S' : List En} {v : Int64} (h : stepR no sz el Tk S v = some S') : S'.length ≤ S.length + 1 ∧ (flatS S').length ≤ (flatS S).length + 1 ∧ pos S' = pos S + (if v = 40 ∨ v = 41 then 0 else 1) := by
  have e95 : ¬ (95 : Int64) = 40 := by decide
  unfold stepR at h
  by_cases q1 : v = 95
  · rw [if_pos q1] at h; cases h
  · rw [if_neg q1] at h
    by_cases q2 : v = 41
    · rw [if_pos q2] at h
      rw [if_pos (Or.inr q2)]
      unfold shutS at h
      cases hs : spl S with
      | none => rw [hs] at h; cases h
      | some r =>
        obtain ⟨seg, o, rest⟩ := r
        rw [hs] at h
        dsimp only [Option.bind] at h
        obtain ⟨a1, a2, a3⟩ := spl_ok hs
        cases hf : findN no sz el (rowOf seg.reverse) 0 seg.length with
        | none => rw [hf] at h; cases h
        | some p =>
          rw [hf] at h
          have h := Option.some.inj h
          subst h
          refine ⟨?_, ?_, ?_⟩
          · rw [a1, List.length_cons, List.length_append, List.length_cons]; omega
          · have hfl := flatS_seg (rest := rest) a2 a3
            show (flatS rest ++ itE _ _).length ≤ _
            unfold itE
            rw [if_neg e95, a1, hfl, List.length_append, List.length_append]
            show _ + (_ :: flatA seg.reverse).length ≤ _ + (_ :: flatA seg.reverse).length + 1
            rw [List.length_cons, List.length_cons]; omega
          · show (if (95 : Int64) = 40 then _ else if (95 : Int64) = 95 then pos S else _) = _
            rw [if_neg e95, if_pos rfl]; rfl
    · rw [if_neg q2] at h
      by_cases q3 : v = 40
      · rw [if_pos q3] at h
        have h := Option.some.inj h
        subst h
        rw [if_pos (Or.inl q3)]
        refine ⟨Nat.le_refl _, ?_, ?_⟩
        · show (flatS S ++ itE _ _).length ≤ _
          unfold itE
          rw [if_pos rfl, List.length_append]; exact Nat.le_refl _
        · show (if (40 : Int64) = 40 then pos S else _) = _
          rw [if_pos rfl]; rfl
      · rw [if_neg q3] at h
        rw [if_neg (by intro z; rcases z with z | z; exact q3 z; exact q2 z)]
        by_cases q4 : partB no sz el v = true
        · rw [if_pos q4] at h
          have h := Option.some.inj h
          subst h
          refine ⟨Nat.le_refl _, ?_, ?_⟩
          · show (flatS S ++ itE _ _).length ≤ _
            unfold itE
            rw [if_neg q3, List.length_append]; exact Nat.le_succ _
          · show (if v = 40 then _ else if v = 95 then _ else _) = _
            rw [if_neg q3, if_neg q1]
        · rw [if_neg q4] at h
          have h := Option.some.inj h
          subst h
          refine ⟨Nat.le_refl _, ?_, ?_⟩
          · show (flatS S ++ itE _ _).length ≤ _
            unfold itE
            rw [if_neg e95, List.length_append]; exact Nat.le_refl _
          · show (if (95 : Int64) = 40 then _ else if (95 : Int64) = 95 then _ else _) = _
            rw [if_neg e95, if_pos rfl]
def hd95 : List En → Bool
  | [e] => e.1 == 95
  | _ => false
/-- what stands in the end is one tree -/
def told (no : Nat) (sz : Nat → Nat) (el : Nat → Nat → Int64) (Tk : Nat → Int32) (ws : List Int64) (S0 : List En) : Prop := ∃ S, rdS no sz el Tk ws S0 = some S ∧ hd95 S = true
section CREADS
variable {R_size : Nat → Int32} {R_elements : Nat → Int64} {F Lt : Nat → Int32} {no : Nat} {sz : Nat → Nat} {el : Nat → Nat → Int64} {w : Nat → Int64} {at0 : Nat → Nat} {tk : Nat → Nat → Nat → Bool} {Tk : Nat → Int32}
/-- a word of the told row is put by -/
theorem word_ok {Ew : Nat → Int64} {p : Nat} {v : Int64} (hp : p < 2 ^ 30) (hv : w p = v) (h : ∀ k, k < p → k < 40 → Ew k = w k) (Sg : Nat → Int64) (Mk : Nat → Int32) (a b c : Int32) (Tt Tf Te Td : Nat → Int32) (t : Int32) : ∃ Ew', m_X3_readWord_119 (nI no) R_size F Lt R_elements Ew Sg Mk (nI p) a b c Tt Tf Te Td t v = some (1, Ew', Sg, Mk, nI (p + 1), a, b, c, Tt, Tf, Te, Td, t) ∧ ∀ k, k < p + 1 → k < 40 → Ew' k = w k := by
  have e0 : ∀ N, m_X3_readWord_119 (nI no) R_size F Lt R_elements N Sg Mk (nI p) a b c Tt Tf Te Td t v = m_X3_readWord_119 (nI no) R_size F Lt R_elements N Sg Mk (nI p) a b c Tt Tf Te Td t v := fun N => rfl
  conv at e0 => intro N; rhs; unfold m_X3_readWord_119
  have e1 : ∀ N, m_X3_readWord_138 (nI no) R_size F Lt R_elements N Sg Mk (nI p) a b c Tt Tf Te Td t = some (1, N, Sg, Mk, nI (p + 1), a, b, c, Tt, Tf, Te, Td, t) := by
    intro N
    unfold m_X3_readWord_138
    rw [nI_1]
  rw [e0 Ew]
  by_cases q : 40 ≤ p
  · rw [if_pos (by rw [i_40, nI_le' (by omega) (by omega)]; exact q), e1]
    exact ⟨_, rfl, fun k hk h4 => h k (by omega) h4⟩
  · rw [if_neg (by rw [i_40, nI_le' (by omega) (by omega)]; exact q), gd_nI (by omega) (by omega), nI_cl (by omega), e1]
    refine ⟨_, rfl, fun k hk h4 => ?_⟩
    by_cases z : k = p
    · subst z; rw [pk_uLs]; exact hv.symm
    · rw [pk_uLn z]; exact h k (by omega) h4
set_option maxHeartbeats 1000000 in
theorem readWord_ok (G : RG R_size R_elements (nI no) no sz el) (Q : GrOK F Lt no sz el tk) (K : TKOK no sz tk Tk) {Ew Sg : Nat → Int64} {Mk Tt Tf Te Td : Nat → Int32} {xs xh xd xm xt : Int32} {S : List En} (R : RC w Ew Sg Mk xs xh xd xm Tt Tf Te Td xt S) (hd : hdS no S) (hl : S.length < 750) (hf : (flatS S).length < 750) (hp : pos S < 750) {v : Int64} (hw : ¬ v = 40 → ¬ v = 41 → w (pos S) = v) :
    (stepR no sz el Tk S v = none ∧ ∃ r, m_X3_readWord Ew Sg Mk xs xh xd xm R_size F Lt R_elements (nI no) Tt Tf Te Td xt v = some r ∧ r.1 = 0) ∨ ∃ S' Ew' Sg' Mk' xs' xh' xd' xm' Tt' Tf' Te' Td' xt', stepR no sz el Tk S v = some S' ∧ m_X3_readWord Ew Sg Mk xs xh xd xm R_size F Lt R_elements (nI no) Tt Tf Te Td xt v = some (1, Ew', Sg', Mk', xs', xh', xd', xm', Tt', Tf', Te', Td', xt') ∧ RC w Ew' Sg' Mk' xs' xh' xd' xm' Tt' Tf' Te' Td' xt' S' ∧ hdS no S' := by
  have hstep := fun S' => step_len (S' := S') (no := no) (sz := sz) (el := el) (Tk := Tk) (S := S) (v := v)
  have e95 : ¬ (95 : Int64) = 40 := by decide
  have e0 : m_X3_readWord Ew Sg Mk xs xh xd xm R_size F Lt R_elements (nI no) Tt Tf Te Td xt v = m_X3_readWord Ew Sg Mk xs xh xd xm R_size F Lt R_elements (nI no) Tt Tf Te Td xt v := rfl
  conv at e0 => rhs; unfold m_X3_readWord
  rw [e0]
  unfold stepR at hstep ⊢
  by_cases q1 : v = 95
  · rw [if_pos ((lg_cmp_eq _ _).mpr q1), if_pos q1]
    exact Or.inl ⟨rfl, _, rfl, rfl⟩
  · rw [if_neg (fun z => q1 ((lg_cmp_eq _ _).mp z)), if_neg q1]
    rw [if_neg q1] at hstep
    by_cases q2 : v = 41
    · rw [if_pos ((lg_cmp_eq _ _).mpr q2), if_pos q2]
      rw [if_pos q2] at hstep
      have hsh := shut_ok G Q K R hd hl hf
      cases hS : shutS no sz el Tk S with
      | none =>
        rw [hS] at hsh
        obtain ⟨a, b, c, d, e, f, h⟩ := hsh
        rw [h, ob_i]
        exact Or.inl ⟨rfl, _, rfl, rfl⟩
      | some S' =>
        rw [hS] at hsh
        obtain ⟨Sg', xh', xd', xm', Tt', Te', h1, h2, h3⟩ := hsh
        rw [h1, ob_i]
        have hpp := (hstep S' hS).2.2
        rw [if_pos (Or.inr q2), Nat.add_zero] at hpp
        exact Or.inr ⟨S', Ew, Sg', Mk, xs, xh', xd', xm', Tt', Tf, Te', Td, xt, rfl, rfl, h2 hpp, h3⟩
    · rw [if_neg (fun z => q2 ((lg_cmp_eq _ _).mp z)), if_neg q2]
      rw [if_neg q2] at hstep
      obtain ⟨r1, r2, r3, r4, r5, r6, r7, r8, r9⟩ := R
      by_cases q3 : v = 40
      · rw [if_pos ((lg_cmp_eq _ _).mpr q3), if_pos q3]
        obtain ⟨Tt', Tf', Te', Td', a1, a2⟩ := add_ok r8 (pos S) (pos S) (nop S)
        obtain ⟨Sg', Mk', b1, b2⟩ := push_ok (e := (40, pos S, 0, 0, true, [])) (m := (if (flatS S).length < 40 then nI (flatS S).length else -1)) r2 hl (by
          by_cases z : (flatS S).length < 40
          · rw [if_pos z, if_pos ⟨Or.inl rfl, z⟩]
          · rw [if_neg z, if_neg (fun y => z y.2)])
        rw [r3, r5, r9, r4, a1, ob_i]
        dsimp only at b1 ⊢
        rw [b1, ob_i]
        have hfl : flatS ((40, pos S, 0, 0, true, []) :: S) = flatS S ++ [(0, pos S, pos S, nop S)] := by
          show flatS S ++ itE _ _ = _
          unfold itE
          rw [if_pos rfl]
        have hpp : pos ((40, pos S, 0, 0, true, []) :: S) = pos S := by
          show (if (40 : Int64) = 40 then pos S else _) = _
          rw [if_pos rfl]
        have hnn : nop ((40, pos S, 0, 0, true, []) :: S) = nop S + 1 := by
          show (if (40 : Int64) = 40 then 1 else 0) + nop S = _
          rw [if_pos rfl]; omega
        refine Or.inr ⟨_, Ew, Sg', Mk', nI (pos S), _, _, xm, Tt', Tf', Te', Td', _, rfl, rfl, ⟨?_, b2, ?_, rfl, ?_, r6, ?_, ?_, ?_⟩, hd, fun z => absurd z (show ¬ (40 : Int64) = 95 by decide), fun _ => ⟨rfl, rfl⟩⟩
        · rw [hpp]; exact r1
        · rw [hpp]
        · rw [hnn, nI_1]
        · intro hl4
          rw [hfl, List.length_append] at hl4
          rw [r7 (by omega)]; rfl
        · rw [hfl]; exact a2
        · rw [hfl]
      · rw [if_neg (fun z => q3 ((lg_cmp_eq _ _).mp z)), if_neg q3, isPart_ok G v, ob_i]
        have hwv := hw q3 q2
        by_cases q4 : partB no sz el v = true
        · rw [if_pos q4, if_neg (by rw [bi_eq0]; simpa using q4)]
          obtain ⟨Sg', Mk', b1, b2⟩ := push_ok (e := (v, pos S, 0, 0, true, [])) (m := -1) r2 hl (by
            rw [if_neg (fun y => by rcases y.1 with z | z; exact q3 z; exact q1 z)])
          dsimp only at b1
          rw [r3, r4, b1, ob_i]
          obtain ⟨Ew', c1, c2⟩ := word_ok (no := no) (R_size := R_size) (F := F) (Lt := Lt) (R_elements := R_elements) (by omega) hwv r1 Sg' Mk' (nI ((v, pos S, 0, 0, true, []) :: S : List En).length) xd xm Tt Tf Te Td xt
          dsimp only
          rw [c1]
          have hfl : flatS ((v, pos S, 0, 0, true, []) :: S) = flatS S := by
            show flatS S ++ itE _ _ = _
            unfold itE
            rw [if_neg q3]; exact List.append_nil _
          have hpp : pos ((v, pos S, 0, 0, true, []) :: S) = pos S + 1 := by
            show (if v = 40 then pos S else if v = 95 then _ else _) = _
            rw [if_neg q3, if_neg q1]
          have hnn : nop ((v, pos S, 0, 0, true, []) :: S) = nop S := by
            show (if v = 40 then 1 else 0) + nop S = _
            rw [if_neg q3]; omega
          refine Or.inr ⟨_, Ew', Sg', Mk', _, _, xd, xm, Tt, Tf, Te, Td, xt, rfl, rfl, ⟨?_, b2, ?_, rfl, ?_, r6, ?_, ?_, ?_⟩, hd, fun z => absurd z q1, fun _ => ⟨rfl, rfl⟩⟩
          · rw [hpp]; exact c2
          · rw [hpp]
          · rw [hnn]; exact r5
          · intro hl4
            rw [hfl] at hl4
            rw [r7 hl4]; rfl
          · rw [hfl]; exact r8
          · rw [hfl]; exact r9
        · rw [if_neg q4, if_pos (by rw [bi_eq0]; exact q4)]
          obtain ⟨Tt', Tf', Te', Td', a1, a2⟩ := add_ok r8 (pos S) (pos S + 1) (nop S)
          obtain ⟨Sg', Mk', b1, b2⟩ := push_ok (e := (95, pos S, pos S + 1, 0, true, [(0, pos S, pos S + 1, nop S)])) (m := (if (flatS S).length < 40 then nI (flatS S).length else -1)) r2 hl (by
            by_cases z : (flatS S).length < 40
            · rw [if_pos z, if_pos ⟨Or.inr rfl, z⟩]
            · rw [if_neg z, if_neg (fun y => z y.2)])
          rw [r3, r5, r9, r4, nI_1, a1, ob_i]
          dsimp only at b1 ⊢
          rw [b1, ob_i]
          obtain ⟨Ew', c1, c2⟩ := word_ok (no := no) (R_size := R_size) (F := F) (Lt := Lt) (R_elements := R_elements) (by omega) hwv r1 Sg' Mk' (nI ((95, pos S, pos S + 1, 0, true, [(0, pos S, pos S + 1, nop S)]) :: S : List En).length) (nI (nop S)) xm Tt' Tf' Te' Td' (nI (min (flatS S ++ [(0, pos S, pos S + 1, nop S)]).length 40))
          dsimp only
          rw [c1]
          have hfl : flatS ((95, pos S, pos S + 1, 0, true, [(0, pos S, pos S + 1, nop S)]) :: S) = flatS S ++ [(0, pos S, pos S + 1, nop S)] := by
            show flatS S ++ itE _ _ = _
            unfold itE
            rw [if_neg e95]
          have hpp : pos ((95, pos S, pos S + 1, 0, true, [(0, pos S, pos S + 1, nop S)]) :: S) = pos S + 1 := by
            show (if (95 : Int64) = 40 then pos S else if (95 : Int64) = 95 then _ else _) = _
            rw [if_neg e95, if_pos rfl]
          have hnn : nop ((95, pos S, pos S + 1, 0, true, [(0, pos S, pos S + 1, nop S)]) :: S) = nop S := by
            show (if (95 : Int64) = 40 then 1 else 0) + nop S = _
            rw [if_neg e95]; omega
          refine Or.inr ⟨_, Ew', Sg', Mk', _, _, _, xm, Tt', Tf', Te', Td', _, rfl, rfl, ⟨?_, b2, ?_, rfl, ?_, r6, ?_, ?_, ?_⟩, hd, fun _ => ⟨Nat.zero_le _, [], rfl⟩, fun z => absurd rfl z⟩
          · rw [hpp]; exact c2
          · rw [hpp]
          · rw [hnn]
          · intro hl4
            rw [hfl, List.length_append] at hl4
            rw [r7 (by omega)]; rfl
          · rw [hfl]; exact a2
          · rw [hfl]
theorem reads29_ok (G : RG R_size R_elements (nI no) no sz el) (Q : GrOK F Lt no sz el tk) (K : TKOK no sz tk Tk) {all : List Int64} (hw : w = wOf all) {n_row : Nat} {row : Nat → Int64} {ws0 : List Int64} (hrow : lat row ws0) (hn : ws0.length ≤ n_row) (hnb : n_row < 2 ^ 30) (h750 : ws0.length ≤ 750) : ∀ (ws : List Int64) (k fu : Nat) {Ew Sg : Nat → Int64} {Mk Tt Tf Te Td : Nat → Int32} {xs xh xd xm xt : Int32} {S : List En}, ws0.drop k = ws → ws.length + k = ws0.length → RC w Ew Sg Mk xs xh xd xm Tt Tf Te Td xt S → hdS no S → S.length ≤ k → (flatS S).length ≤ k → pos S ≤ k → all.drop (pos S) = nb ws → ws.length < fu →
    (¬ told no sz el Tk ws S ∧ ∃ r, m_X3_reads_29 (nI no) R_size F Lt R_elements n_row row fu Ew Sg Mk xs xh xd xm Tt Tf Te Td xt (nI ws0.length) (nI k) = some r ∧ r.1 = 0) ∨ ∃ S' Ew' Sg' Mk' xs' xh' xd' xm' Tt' Tf' Te' Td' xt', rdS no sz el Tk ws S = some S' ∧ hd95 S' = true ∧ m_X3_reads_29 (nI no) R_size F Lt R_elements n_row row fu Ew Sg Mk xs xh xd xm Tt Tf Te Td xt (nI ws0.length) (nI k) = some (1, Ew', Sg', Mk', xs', xh', xd', xm', Tt', Tf', Te', Td', xt') ∧ RC w Ew' Sg' Mk' xs' xh' xd' xm' Tt' Tf' Te' Td' xt' S' ∧ hdS no S' ∧ pos S' ≤ 750 ∧ (flatS S').length ≤ 750 := by
  intro ws
  induction ws with
  | nil =>
    intro k fu Ew Sg Mk Tt Tf Te Td xs xh xd xm xt S hdr hln R hd g1 g2 g3 hall hfu
    obtain ⟨fu, rfl⟩ : ∃ z, fu = z + 1 := ⟨fu - 1, by omega⟩
    have hk : k = ws0.length := by simpa using hln
    have e0 : m_X3_reads_29 (nI no) R_size F Lt R_elements n_row row (fu + 1) Ew Sg Mk xs xh xd xm Tt Tf Te Td xt (nI ws0.length) (nI k) = m_X3_reads_29 (nI no) R_size F Lt R_elements n_row row (fu + 1) Ew Sg Mk xs xh xd xm Tt Tf Te Td xt (nI ws0.length) (nI k) := rfl
    conv at e0 => rhs; unfold m_X3_reads_29
    rw [if_pos (by rw [nI_le' (by omega) (by omega)]; omega)] at e0
    rw [e0]
    have R' := R
    obtain ⟨r1, r2, r3, r4, r5, r6, r7, r8, r9⟩ := R
    rw [r4]
    cases S with
    | nil =>
      rw [if_neg (by decide)]
      exact Or.inl ⟨(by intro ⟨S', h1, h2⟩; have h1 := Option.some.inj h1; subst h1; cases h2), _, rfl, rfl⟩
    | cons e S =>
      cases S with
      | nil =>
        have hg : ∀ r : Option (Int32 × (Nat → Int64) × (Nat → Int64) × (Nat → Int32) × Int32 × Int32 × Int32 × Int32 × (Nat → Int32) × (Nat → Int32) × (Nat → Int32) × (Nat → Int32) × Int32), gd 0 750 r = r := fun r => gd_nI (i := 0) (by omega) (by omega)
        rw [if_pos (show nI [e].length = 1 from rfl), hg]
        have hz : Sg (0 : Int32).toNatClampNeg = e.1 := r2.1
        rw [hz]
        by_cases q : e.1 = 95
        · rw [if_pos ((lg_cmp_eq _ _).mpr q)]
          refine Or.inr ⟨[e], _, _, _, _, _, _, _, _, _, _, _, _, rfl, by show (e.1 == 95) = true; rw [q]; rfl, rfl, ?_, hd, by omega, by omega⟩
          rw [r4] at R'
          exact R'
        · rw [if_neg (fun z => q ((lg_cmp_eq _ _).mp z))]
          exact Or.inl ⟨by
            intro ⟨S', h1, h2⟩
            have h1 := Option.some.inj h1
            subst h1
            exact q (by simpa [hd95] using h2), _, rfl, rfl⟩
      | cons e2 S =>
        rw [if_neg (by
          rw [i_1]
          rw [List.length_cons, List.length_cons] at g1 ⊢
          rw [nI_eq' (by omega) (by omega)]; omega)]
        exact Or.inl ⟨(by intro ⟨S', h1, h2⟩; have h1 := Option.some.inj h1; subst h1; cases h2), _, rfl, rfl⟩
  | cons v ws ih =>
    intro k fu Ew Sg Mk Tt Tf Te Td xs xh xd xm xt S hdr hln R hd g1 g2 g3 hall hfu
    obtain ⟨fu, rfl⟩ : ∃ z, fu = z + 1 := ⟨fu - 1, by omega⟩
    rw [List.length_cons] at hln hfu
    have hkl : k < ws0.length := by omega
    rw [List.drop_eq_getElem_cons hkl] at hdr
    obtain ⟨hdr1, hdr2⟩ := List.cons.inj hdr
    have hv : row k = v := by
      have := hrow k hkl
      rw [List.getElem?_eq_getElem hkl] at this
      rw [← Option.some.inj this]; exact hdr1
    have e0 : m_X3_reads_29 (nI no) R_size F Lt R_elements n_row row (fu + 1) Ew Sg Mk xs xh xd xm Tt Tf Te Td xt (nI ws0.length) (nI k) = m_X3_reads_29 (nI no) R_size F Lt R_elements n_row row (fu + 1) Ew Sg Mk xs xh xd xm Tt Tf Te Td xt (nI ws0.length) (nI k) := rfl
    conv at e0 => rhs; unfold m_X3_reads_29
    rw [if_neg (by rw [nI_le' (by omega) (by omega)]; omega), gd_nI (by omega) (by omega), nI_cl (by omega), hv] at e0
    rw [e0]
    have hwv : ¬ v = 40 → ¬ v = 41 → w (pos S) = v ∧ all.drop (pos S + 1) = nb ws := by
      intro q1 q2
      have hnb2 : nb (v :: ws) = v :: nb ws := by
        unfold nb
        rw [List.filter_cons]
        simp [q1, q2]
      rw [hnb2] at hall
      have hlt : pos S < all.length := by
        rcases Nat.lt_or_ge (pos S) all.length with z | z
        · exact z
        · rw [List.drop_eq_nil_of_le z] at hall; cases hall
      rw [List.drop_eq_getElem_cons hlt] at hall
      obtain ⟨h1a, h1b⟩ := List.cons.inj hall
      exact ⟨by rw [hw]; unfold wOf; rw [List.getElem?_eq_getElem hlt]; exact h1a, h1b⟩
    rcases readWord_ok G Q K R hd (by omega) (by omega) (by omega) (fun a b => (hwv a b).1) with ⟨a1, r, a2, a3⟩ | ⟨S', Ew', Sg', Mk', xs', xh', xd', xm', Tt', Tf', Te', Td', xt', a1, a2, a3, a4⟩
    · rw [a2, ob_i, if_pos a3]
      refine Or.inl ⟨?_, _, rfl, rfl⟩
      intro ⟨S', h1, h2⟩
      unfold rdS at h1
      rw [a1] at h1
      cases h1
    · rw [a2, ob_i, if_neg (show ¬ (1 : Int32) = 0 by decide), nI_1]
      obtain ⟨s1, s2, s3⟩ := step_len a1
      have hall' : all.drop (pos S') = nb ws := by
        by_cases q : v = 40 ∨ v = 41
        · rw [if_pos q, Nat.add_zero] at s3
          rw [s3, hall]
          unfold nb
          rw [List.filter_cons]
          rcases q with q | q <;> simp [q]
        · rw [if_neg q] at s3
          rw [s3]
          exact (hwv (fun z => q (Or.inl z)) (fun z => q (Or.inr z))).2
      have hp' : pos S' ≤ k + 1 := by
        rw [s3]
        split <;> omega
      have hrd : rdS no sz el Tk (v :: ws) S = rdS no sz el Tk ws S' := by
        show (stepR no sz el Tk S v).bind _ = _
        rw [a1]; rfl
      have htd : told no sz el Tk (v :: ws) S = told no sz el Tk ws S' := by unfold told; rw [hrd]
      rw [hrd, htd]
      exact ih (k + 1) fu hdr2 (by omega) a3 a4 (by omega) (by omega) hp' hall' (by omega)
theorem reads_ok (G : RG R_size R_elements (nI no) no sz el) (Q : GrOK F Lt no sz el tk) (K : TKOK no sz tk Tk) {n_row : Nat} {row : Nat → Int64} {ws : List Int64} (hrow : lat row ws) (hn : ws.length ≤ n_row) (hnb : n_row < 2 ^ 30) (h750 : ws.length ≤ 750) (Ew Sg : Nat → Int64) (Mk Tt Tf Te Td : Nat → Int32) (xs xh xd xm xt : Int32) :
    (¬ told no sz el Tk ws [] ∧ ∃ r, m_X3_reads Ew Sg Mk xs xh xd xm R_size F Lt R_elements (nI no) Tt Tf Te Td xt n_row row (nI ws.length) = some r ∧ r.1 = 0) ∨ ∃ S' Ew' Sg' Mk' xs' xh' xd' xm' Tt' Tf' Te' Td' xt', rdS no sz el Tk ws [] = some S' ∧ hd95 S' = true ∧ m_X3_reads Ew Sg Mk xs xh xd xm R_size F Lt R_elements (nI no) Tt Tf Te Td xt n_row row (nI ws.length) = some (1, Ew', Sg', Mk', xs', xh', xd', xm', Tt', Tf', Te', Td', xt') ∧ RC (wOf (nb ws)) Ew' Sg' Mk' xs' xh' xd' xm' Tt' Tf' Te' Td' xt' S' ∧ hdS no S' ∧ pos S' ≤ 750 ∧ (flatS S').length ≤ 750 := by
  unfold m_X3_reads m_X7_empty
  rw [ob_i]
  exact reads29_ok G Q K (w := wOf (nb ws)) (all := nb ws) rfl hrow hn hnb h750 ws 0 FU (S := []) rfl (by omega) ⟨fun k hk => absurd hk (Nat.not_lt_zero k), trivial, rfl, rfl, rfl, Or.inl rfl, fun _ => rfl, fun q it hq => absurd (show (([] : List It).take 40)[q]? = some it from hq) (by simp), rfl⟩ trivial (Nat.le_refl _) (Nat.le_refl _) (Nat.le_refl _) rfl (by rw [FU_v]; omega)
end CREADS
