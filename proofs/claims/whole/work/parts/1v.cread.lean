/-! the class reads a written tree -/
def repS (Sg : Nat → Int64) (Mk : Nat → Int32) : List En → Prop
  | [] => True
  | e :: S => Sg S.length = e.1 ∧ Mk S.length = (if (e.1 = 40 ∨ e.1 = 95) ∧ (flatS S).length < 40 then nI (flatS S).length else -1) ∧ repS Sg Mk S
/-- an item begins with its operator -/
def hdS (no : Nat) : List En → Prop
  | [] => True
  | e :: S => hdS no S ∧ (e.1 = 95 → e.2.2.2.1 ≤ no ∧ ∃ l, e.2.2.2.2.2 = (e.2.2.2.1, e.2.1, e.2.2.1, nop S) :: l) ∧ (¬ e.1 = 95 → e.2.2.2.2.2 = [] ∧ e.2.2.2.2.1 = true)
def RC (w : Nat → Int64) (Ew Sg : Nat → Int64) (Mk : Nat → Int32) (xs xh xd xm : Int32) (Tt Tf Te Td : Nat → Int32) (xt : Int32) (S : List En) : Prop :=
  (∀ k, k < pos S → k < 40 → Ew k = w k) ∧ repS Sg Mk S ∧ xs = nI (pos S) ∧ xh = nI S.length ∧ xd = nI (nop S) ∧ (xm = 0 ∨ xm = 1) ∧ ((flatS S).length ≤ 40 → xm = bi (allS S = false)) ∧ itT Tt Tf Te Td ((flatS S).take 40) ∧ xt = nI (min (flatS S).length 40)
theorem repS_frame {Sg Sg' : Nat → Int64} {Mk Mk' : Nat → Int32} : ∀ {S : List En}, (∀ q, q < S.length → Sg' q = Sg q ∧ Mk' q = Mk q) → repS Sg Mk S → repS Sg' Mk' S := by
  intro S
  induction S with
  | nil => intro _ _; trivial
  | cons e S ih =>
    intro h ⟨h1, h2, h3⟩
    obtain ⟨a1, a2⟩ := h S.length (by rw [List.length_cons]; omega)
    exact ⟨by rw [a1]; exact h1, by rw [a2]; exact h2, ih (fun q hq => h q (by rw [List.length_cons]; omega)) h3⟩
theorem nop_le : ∀ S : List En, nop S ≤ S.length := by
  intro S
  induction S with
  | nil => exact Nat.le_refl _
  | cons e S ih => show _ + nop S ≤ S.length + 1; split <;> omega
theorem flatS_seg {o : En} {rest : List En} (ho : o.1 = 40) : ∀ {seg : List En}, (∀ x, x ∈ seg → ¬ x.1 = 40) → flatS (seg ++ o :: rest) = flatS rest ++ ((0, o.2.1, o.2.1, nop rest) :: flatA seg.reverse) := by
  intro seg
  induction seg with
  | nil =>
    intro _
    show flatS rest ++ itE o (nop rest) = _
    unfold itE
    rw [if_pos ho]; rfl
  | cons e S ih =>
    intro h
    have fa : ∀ A B : List En, flatA (A ++ B) = flatA A ++ flatA B := by
      intro A
      induction A with
      | nil => intro B; rfl
      | cons x A iha => intro B; show _ ++ flatA (A ++ B) = (_ ++ flatA A) ++ flatA B; rw [iha, List.append_assoc]
    show flatS (S ++ o :: rest) ++ itE e _ = _
    rw [ih (fun x hx => h x (List.mem_cons_of_mem _ hx)), List.reverse_cons, fa]
    unfold itE
    rw [if_neg (h e (List.mem_cons_self ..))]
    have : flatA [e] = e.2.2.2.2.2 := by simp [flatA]
    rw [this, List.append_assoc]; rfl
theorem repS_seg {Sg : Nat → Int64} {Mk : Nat → Int32} {o : En} {rest : List En} : ∀ {seg : List En}, repS Sg Mk (seg ++ o :: rest) → (∀ e, e < seg.length → Sg (rest.length + 1 + e) = rowOf seg.reverse e) ∧ repS Sg Mk (o :: rest) := by
  intro seg
  induction seg with
  | nil => intro h; exact ⟨fun e he => by simp at he, h⟩
  | cons x seg ih =>
    intro ⟨h1, h2, h3⟩
    obtain ⟨a1, a2⟩ := ih h3
    refine ⟨fun e he => ?_, a2⟩
    rw [List.reverse_cons]
    rw [List.length_cons] at he
    unfold rowOf
    by_cases q : e = seg.length
    · subst q
      rw [List.getElem?_append_right (by simp)]
      have e1 : (seg.append (o :: rest)).length = rest.length + 1 + seg.length := by
        show (seg ++ o :: rest).length = _
        rw [List.length_append, List.length_cons]; omega
      rw [e1] at h1
      rw [h1]; simp
    · rw [List.getElem?_append_left (by simp; omega)]
      exact a1 e (by omega)
theorem itT_take {Tt Tf Te Td : Nat → Int32} {L : List It} {q : Nat} {it : It} (h : itT Tt Tf Te Td (L.take 40)) (hq : q < 40) (hi : L[q]? = some it) : Tt q = topv it.1 ∧ Tf q = nI it.2.1 ∧ Te q = nI it.2.2.1 ∧ Td q = nI it.2.2.2 := h q it (by rw [List.getElem?_take]; rw [if_pos hq]; exact hi)
/-- an item more -/
theorem add_ok {Tt Tf Te Td : Nat → Int32} {L : List It} (h : itT Tt Tf Te Td (L.take 40)) (i j d : Nat) : ∃ Tt' Tf' Te' Td', m_X7_add Tt Tf Te Td (nI (min L.length 40)) (-1) (nI i) (nI j) (nI d) = some ((if L.length < 40 then nI L.length else -1), Tt', Tf', Te', Td', nI (min (L ++ [(0, i, j, d)]).length 40)) ∧ itT Tt' Tf' Te' Td' ((L ++ [(0, i, j, d)]).take 40) := by
  unfold m_X7_add
  by_cases q : L.length < 40
  · have e1 : min L.length 40 = L.length := by omega
    have e2 : L.take 40 = L := List.take_of_length_le (by omega)
    rw [e1, if_pos q, if_pos (by rw [i_40, nI_lt' (by omega) (by omega)]; omega)]
    simp (disch := omega) only [gd_nI, nI_cl]
    rw [e2] at h
    have hp := itT_push h (0, i, j, d)
    refine ⟨upd Tt L.length (-1), upd Tf L.length (nI i), upd Te L.length (nI j), upd Td L.length (nI d), ?_, ?_⟩
    · rw [nI_1, nI_pred]
      rw [List.length_append, show min (L.length + [((0 : Nat), i, j, d)].length) 40 = L.length + 1 by show min (L.length + 1) 40 = _; omega]
    · rw [List.take_of_length_le (by rw [List.length_append]; show L.length + 1 ≤ 40; omega)]
      exact hp
  · have e1 : min L.length 40 = 40 := by omega
    rw [e1, if_neg q, if_neg (by rw [i_40, nI_lt' (by omega) (by omega)]; omega)]
    refine ⟨Tt, Tf, Te, Td, ?_, ?_⟩
    · rw [List.length_append, show min (L.length + [((0 : Nat), i, j, d)].length) 40 = 40 by omega]
    · rw [List.take_append_of_le_length (by omega)]
      exact h
theorem push_ok {Sg : Nat → Int64} {Mk : Nat → Int32} {S : List En} {e : En} (h : repS Sg Mk S) (hl : S.length < 750) {m : Int32} (hm : m = (if (e.1 = 40 ∨ e.1 = 95) ∧ (flatS S).length < 40 then nI (flatS S).length else -1)) : ∃ Sg' Mk', m_X3_push Sg Mk (nI S.length) e.1 m = some (Sg', Mk', nI (e :: S).length) ∧ repS Sg' Mk' (e :: S) := by
  unfold m_X3_push
  rw [if_neg (by rw [i_750, nI_le' (by omega) (by omega)]; omega), gd_nI (by omega) (by omega), gd_nI (by omega) (by omega), nI_cl (by omega), nI_1]
  exact ⟨_, _, rfl, pk_uLs, by rw [pk_us]; exact hm, repS_frame (fun q hq => ⟨pk_uLn (by omega), pk_un (by omega)⟩) h⟩
section CREAD
variable {R_size : Nat → Int32} {R_elements : Nat → Int64} {F Lt : Nat → Int32} {no : Nat} {sz : Nat → Nat} {el : Nat → Nat → Int64} {w : Nat → Int64} {at0 : Nat → Nat} {tk : Nat → Nat → Nat → Bool} {Tk : Nat → Int32}
theorem takes_bitsQ (G : RG R_size R_elements (nI no) no sz el) (Q : GrOK F Lt no sz el tk) (K : TKOK no sz tk Tk) {o e : Nat} (ho : o < no) (he : e < sz o) : ∃ x, m_X4_takes R_size F Lt (nI o) (nI e) = some x ∧ ∀ p, p < no → bt' x p = bt' (Tk (tyN sz o e)) p := by
  obtain ⟨hp, hin, hmF, hmL⟩ := Q
  have hno : no ≤ 30 := G.2.1
  rw [takes_ok G ho he]
  refine ⟨_, rfl, fun p hp0 => ?_⟩
  rw [K.2 o e p ho he hp0]
  by_cases q : e = 0
  · subst q
    rw [if_pos rfl, hmF o ho p (by omega)]; simp [hp0]
  · rw [if_neg q]
    by_cases q2 : e + 1 = sz o
    · rw [if_pos q2, hmL o ho (by omega) p (by omega), show sz o - 1 = e by omega]; simp [hp0]
    · rw [if_neg q2, bt_m1 (by omega), hin o ho e he q q2 p hp0]
/-- an entry, its mark, its item -/
theorem entry_ok {Sg : Nat → Int64} {Mk : Nat → Int32} {x : En} {B : List En} : ∀ {A : List En}, repS Sg Mk (A ++ x :: B) → hdS no (A ++ x :: B) → Sg B.length = x.1 ∧ Mk B.length = (if (x.1 = 40 ∨ x.1 = 95) ∧ (flatS B).length < 40 then nI (flatS B).length else -1) ∧ (x.1 = 95 → x.2.2.2.1 ≤ no ∧ (flatS (A ++ x :: B))[(flatS B).length]? = some (x.2.2.2.1, x.2.1, x.2.2.1, nop B)) := by
  intro A
  induction A with
  | nil =>
    intro ⟨h1, h2, h3⟩ ⟨k1, k2, k3⟩
    refine ⟨h1, h2, fun q => ?_⟩
    obtain ⟨a1, l, a2⟩ := k2 q
    refine ⟨a1, ?_⟩
    show (flatS B ++ itE x (nop B))[(flatS B).length]? = _
    rw [List.getElem?_append_right (Nat.le_refl _), Nat.sub_self]
    unfold itE
    rw [if_neg (by rw [q]; decide), a2]; rfl
  | cons y A ih =>
    intro ⟨h1, h2, h3⟩ ⟨k1, k2, k3⟩
    obtain ⟨a1, a2, a3⟩ := ih h3 k1
    refine ⟨a1, a2, fun q => ?_⟩
    obtain ⟨b1, b2⟩ := a3 q
    refine ⟨b1, ?_⟩
    show (flatS (A ++ x :: B) ++ itE y _)[(flatS B).length]? = _
    obtain ⟨z, -⟩ := List.getElem?_eq_some_iff.mp b2
    rw [List.getElem?_append_left z]
    exact b2
theorem segf_iff {p : Nat} : ∀ {A : List En} {b : Nat}, segf sz Tk p b A = true ↔ ∀ e x, A[e]? = some x → x.1 = 95 → fitE Tk (tyN sz p (b + e)) x.2.2.2.1 = true ∧ x.2.2.2.2.1 = true := by
  intro A
  induction A with
  | nil => intro b; exact ⟨fun _ e x h => by simp at h, fun _ => rfl⟩
  | cons y A ih =>
    intro b
    show ((if y.1 = 95 then fitE Tk (tyN sz p b) y.2.2.2.1 && y.2.2.2.2.1 else true) && segf sz Tk p (b + 1) A) = true ↔ _
    rw [Bool.and_eq_true, ih]
    constructor
    · intro ⟨h1, h2⟩ e x hx hq
      cases e with
      | zero =>
        have hx : y = x := by simpa using hx
        subst hx
        rw [if_pos hq, Bool.and_eq_true] at h1
        exact h1
      | succ e =>
        have := h2 e x (by simpa using hx) hq
        rw [show b + (e + 1) = b + 1 + e by omega]; exact this
    · intro h
      refine ⟨?_, fun e x hx hq => ?_⟩
      · by_cases q : y.1 = 95
        · rw [if_pos q, Bool.and_eq_true]
          exact h 0 y rfl q
        · rw [if_neg q]
      · have := h (e + 1) x (by simpa using hx) hq
        rw [show b + 1 + e = b + (e + 1) by omega]; exact this
theorem allS_iff : ∀ {S : List En}, allS S = true ↔ ∀ x, x ∈ S → x.2.2.2.2.1 = true := by
  intro S
  induction S with
  | nil => exact ⟨fun _ x h => by simp at h, fun _ => rfl⟩
  | cons e S ih =>
    show (e.2.2.2.2.1 && allS S) = true ↔ _
    rw [Bool.and_eq_true, ih]
    constructor
    · intro ⟨h1, h2⟩ x hx
      rcases List.mem_cons.mp hx with rfl | hx
      · exact h1
      · exact h2 x hx
    · intro h
      exact ⟨h e (List.mem_cons_self ..), fun x hx => h x (List.mem_cons_of_mem _ hx)⟩
theorem hdS_parts : ∀ {S : List En}, hdS no S → ∀ x, x ∈ S → ¬ x.1 = 95 → x.2.2.2.2.1 = true := by
  intro S
  induction S with
  | nil => intro _ x hx; simp at hx
  | cons e S ih =>
    intro ⟨h1, h2, h3⟩ x hx q
    rcases List.mem_cons.mp hx with rfl | hx
    · exact (h3 q).2
    · exact ih h1 x hx q
theorem hdS_rest {B : List En} : ∀ {A : List En}, hdS no (A ++ B) → hdS no B := by
  intro A
  induction A with
  | nil => intro h; exact h
  | cons e A ih => intro ⟨h1, _, _⟩; exact ih h1
theorem holds_ok (G : RG R_size R_elements (nI no) no sz el) (Q : GrOK F Lt no sz el tk) (K : TKOK no sz tk Tk) {Sg : Nat → Int64} {Mk Tt Tf Te Td : Nat → Int32} {A B : List En} {x : En} (h1 : repS Sg Mk (A ++ x :: B)) (h2 : hdS no (A ++ x :: B)) (h3 : itT Tt Tf Te Td ((flatS (A ++ x :: B)).take 40)) {p e : Nat} (hp : p < no) (he : e < sz p) (hx : el p e = x.1) (hB : B.length < 750) :
    ∃ b : Int32, m_X3_holds Mk R_size F Lt R_elements Tt (nI p) (nI e) (nI B.length) = some b ∧ (b = 0 ∨ b = 1) ∧ ((flatS (A ++ x :: B)).length ≤ 40 → (b = 0 ↔ ¬ (x.1 = 95 → fitE Tk (tyN sz p e) x.2.2.2.1 = true))) := by
  have hno : no ≤ 30 := G.2.1
  obtain ⟨a1, a2, a3⟩ := entry_ok h1 h2
  unfold m_X3_holds
  rw [isHole_ok' G hp he, ob_i, hx]
  by_cases q : x.1 = 95
  · rw [if_neg (by rw [bi_eq0]; simpa using q), gd_nI (by omega) (by omega), nI_cl (by omega)]
    obtain ⟨b1, b2⟩ := a3 q
    by_cases q2 : (flatS B).length < 40
    · rw [if_pos ⟨Or.inr q, q2⟩] at a2
      rw [a2, if_pos (by rw [i_0, nI_le' (by omega) (by omega)]; omega), gd_nI (by omega) (by omega)]
      unfold m_X7_top
      rw [gd_nI q2 (by omega), ob_i, nI_cl (by omega), (itT_take h3 q2 b2).1]
      by_cases q3 : x.2.2.2.1 = 0
      · rw [if_pos (by rw [q3]; rfl)]
        refine ⟨1, rfl, Or.inr rfl, fun _ => ⟨fun z => absurd z (by decide), fun z => ?_⟩⟩
        exfalso
        apply z
        intro _
        unfold fitE
        simp [q3]
      · obtain ⟨c, hc⟩ : ∃ c, x.2.2.2.1 = c + 1 := ⟨x.2.2.2.1 - 1, by omega⟩
        obtain ⟨tx, t1, t2⟩ := takes_bitsQ (Tk := Tk) G Q K hp he
        rw [hc, topv_s, if_neg (show ¬ nI c = -1 by
            intro z
            have : nI c < 0 := by rw [z]; decide
            rw [i_0, nI_lt' (by omega) (by omega)] at this
            omega), t1, ob_i, hasBit_ok tx (by omega), ob_i, t2 c (by omega)]
        by_cases q4 : bt' (Tk (tyN sz p e)) c = true
        · rw [if_neg (by rw [bi_eq0]; simpa using q4)]
          refine ⟨1, rfl, Or.inr rfl, fun _ => ⟨fun z => absurd z (by decide), fun z => ?_⟩⟩
          exfalso
          apply z
          intro _
          unfold fitE
          simp [q4]
        · rw [if_pos (by rw [bi_eq0]; exact q4)]
          refine ⟨0, rfl, Or.inl rfl, fun _ => ⟨fun _ z => ?_, fun _ => rfl⟩⟩
          have := z q
          unfold fitE at this
          simp at this
          exact q4 this
    · rw [if_neg (fun z => q2 z.2)] at a2
      rw [a2, if_neg (by decide)]
      refine ⟨1, rfl, Or.inr rfl, fun hl => ?_⟩
      exfalso
      obtain ⟨z, -⟩ := List.getElem?_eq_some_iff.mp b2
      omega
  · rw [if_pos (by rw [bi_eq0]; exact q)]
    refine ⟨1, rfl, Or.inr rfl, fun _ => ⟨fun z => absurd z (by decide), fun z => ?_⟩⟩
    exfalso
    exact z (fun z2 => absurd z2 q)
/-- the open bracket is looked for -/
theorem find_open {Sg : Nat → Int64} {Mk : Nat → Int32} {xs xh xd xm : Int32} {Tt Te : Nat → Int32} : ∀ (S : List En) (fu : Nat), repS Sg Mk S → S.length < 750 → S.length < fu → m_X3_shut_7 xs (nI no) Mk R_size F Lt R_elements fu Sg xh xd xm Tt Te (nI S.length - 1) = (spl S).elim (m_X3_shut_30 xs (nI no) Mk R_size F Lt R_elements Sg xh xd xm Tt Te (-1)) (fun r => m_X3_shut_30 xs (nI no) Mk R_size F Lt R_elements Sg xh xd xm Tt Te (nI r.2.2.length)) := by
  intro S
  induction S with
  | nil =>
    intro fu _ _ hf
    obtain ⟨fu, rfl⟩ : ∃ z, fu = z + 1 := ⟨fu - 1, by omega⟩
    rfl
  | cons e S ih =>
    intro fu ⟨h1, h2, h3⟩ hl hf
    obtain ⟨fu, rfl⟩ : ∃ z, fu = z + 1 := ⟨fu - 1, by omega⟩
    rw [List.length_cons] at hl hf ⊢
    rw [nI_pred]
    have e0 : m_X3_shut_7 xs (nI no) Mk R_size F Lt R_elements (fu + 1) Sg xh xd xm Tt Te (nI S.length) = m_X3_shut_7 xs (nI no) Mk R_size F Lt R_elements (fu + 1) Sg xh xd xm Tt Te (nI S.length) := rfl
    conv at e0 => rhs; unfold m_X3_shut_7
    rw [if_neg (by rw [i_0, nI_lt' (by omega) (by omega)]; omega), gd_nI (by omega) (by omega), nI_cl (by omega), h1, nI_m1] at e0
    rw [e0]
    unfold spl
    by_cases q : e.1 = 40
    · rw [if_pos ((lg_cmp_eq _ _).mpr q), if_pos q]; rfl
    · rw [if_neg (fun z => q ((lg_cmp_eq _ _).mp z)), if_neg q, ih fu h3 (by omega) (by omega)]
      cases spl S <;> rfl
theorem findN_congr {row row' : Nat → Int64} {fr fr' c : Nat} (h : ∀ e, e < c → row (fr + e) = row' (fr' + e)) : findN no sz el row fr c = findN no sz el row' fr' c := by
  unfold findN
  apply srch_congr
  intro o _ _
  by_cases q : sz o = c
  · have : isAtB sz el row o fr = isAtB sz el row' o fr' := by
      rw [Bool.eq_iff_iff, isAtB_iff, isAtB_iff]
      constructor
      · intro h2 e he; rw [← h e (by omega)]; exact h2 e he
      · intro h2 e he; rw [h e (by omega)]; exact h2 e he
    rw [this]
  · have : (sz o == c) = false := by simpa using q
    rw [this, Bool.false_and, Bool.false_and]
set_option maxHeartbeats 1000000 in
theorem shut_ok (G : RG R_size R_elements (nI no) no sz el) (Q : GrOK F Lt no sz el tk) (K : TKOK no sz tk Tk) {Ew Sg : Nat → Int64} {Mk Tt Tf Te Td : Nat → Int32} {xs xh xd xm xt : Int32} {S : List En} (R : RC w Ew Sg Mk xs xh xd xm Tt Tf Te Td xt S) (hd : hdS no S) (hl : S.length < 750) (hf : (flatS S).length < 750) :
    match shutS no sz el Tk S with
    | none => ∃ a b c d e f, m_X3_shut Sg Mk xs xh xd xm R_size F Lt R_elements (nI no) Tt Te = some (0, a, b, c, d, e, f)
    | some S' => ∃ Sg' xh' xd' xm' Tt' Te', m_X3_shut Sg Mk xs xh xd xm R_size F Lt R_elements (nI no) Tt Te = some (1, Sg', xh', xd', xm', Tt', Te') ∧ (pos S' = pos S → RC w Ew Sg' Mk xs xh' xd' xm' Tt' Tf Te' Td xt S') ∧ hdS no S' := by
  have hno : no ≤ 30 := G.2.1
  obtain ⟨r1, r2, r3, r4, r5, r6, r7, r8, r9⟩ := R
  have hfo := find_open (xs := xs) (R_size := R_size) (R_elements := R_elements) (F := F) (Lt := Lt) (no := no) (xh := xh) (xd := xd) (xm := xm) (Tt := Tt) (Te := Te) S FU r2 hl (by rw [FU_v]; omega)
  unfold m_X3_shut shutS
  rw [← r4] at hfo
  rw [hfo]
  cases hs : spl S with
  | none =>
    show ∃ a b c d e f, m_X3_shut_30 xs (nI no) Mk R_size F Lt R_elements Sg xh xd xm Tt Te (-1) = some (0, a, b, c, d, e, f)
    exact ⟨_, _, _, _, _, _, rfl⟩
  | some r =>
    obtain ⟨seg, o, rest⟩ := r
    obtain ⟨a1, a2, a3⟩ := spl_ok hs
    have hlen : S.length = seg.length + 1 + rest.length := by rw [a1, List.length_append, List.length_cons]; omega
    subst a1
    obtain ⟨c1, c2⟩ := repS_seg r2
    dsimp only [Option.elim, Option.bind]
    have hfind : m_X4_find R_size R_elements (nI no) 750 Sg (nI rest.length + 1) ((xh - nI rest.length) - 1) = some ((findN no sz el (rowOf seg.reverse) 0 seg.length).elim (-1) nI) := by
      rw [r4, hlen, pk_sub (by omega), i_1, pk_sub (by omega), nI_add, show seg.length + 1 + rest.length - rest.length - 1 = seg.length by omega, find_ok G (by omega) (by omega)]
      rw [findN_congr (row' := rowOf seg.reverse) (fr' := 0) (fun e he => by rw [c1 e he, Nat.zero_add])]
      rfl
    unfold m_X3_shut_30
    rw [if_pos (by rw [i_0, nI_le' (by omega) (by omega)]; omega), hfind, ob_i]
    cases hfN : findN no sz el (rowOf seg.reverse) 0 seg.length with
    | none =>
      show ∃ a b c d e f, m_X3_shut_60 xs (nI no) Mk R_size F Lt R_elements Sg xh xd xm Tt Te (nI rest.length) (-1) = some (0, a, b, c, d, e, f)
      exact ⟨_, _, _, _, _, _, rfl⟩
    | some p =>
      unfold findN at hfN
      obtain ⟨-, f2, f3, -⟩ := srch_some hfN
      rw [Bool.and_eq_true] at f3
      have fp : p < no := by omega
      have fs : sz p = seg.length := by simpa using f3.1
      have fe := isAtB_iff.mp f3.2
      obtain ⟨g1, g2, g3, g4⟩ := G.2.2 p fp
      -- the first and the last that stand there
      obtain ⟨Af, xf, hxf⟩ : ∃ Af xf, seg = Af ++ [xf] := ⟨seg.dropLast, seg.getLast (fun z => by rw [z] at fs; simp at fs; omega), (List.dropLast_concat_getLast _).symm⟩
      obtain ⟨xl, Al, hxl⟩ : ∃ xl Al, seg = xl :: Al := by
        cases seg with
        | nil => simp at fs; omega
        | cons y A => exact ⟨y, A, rfl⟩
      have hrow0 : rowOf seg.reverse 0 = xf.1 := by rw [hxf]; simp [rowOf]
      have hrowl : rowOf seg.reverse (sz p - 1) = xl.1 := by
        rw [fs, hxl]
        simp [rowOf]
      have eS1 : seg ++ o :: rest = Af ++ xf :: (o :: rest) := by rw [hxf]; simp
      have eS2 : seg ++ o :: rest = [] ++ xl :: (Al ++ o :: rest) := by rw [hxl]; rfl
      obtain ⟨b1, u1, u2, u3⟩ := holds_ok G Q K (by rw [← eS1]; exact r2) (by rw [← eS1]; exact hd) (by rw [← eS1]; exact r8) fp (show 0 < sz p by omega) (by rw [fe 0 (by omega), Nat.add_zero, hrow0]) (by rw [List.length_cons]; omega)
      obtain ⟨b2, w1, w2, w3⟩ := holds_ok G Q K (by rw [← eS2]; exact r2) (by rw [← eS2]; exact hd) (by rw [← eS2]; exact r8) fp (show sz p - 1 < sz p by omega) (by rw [fe (sz p - 1) (by omega), Nat.zero_add, hrowl]) (by
        have : (Al ++ o :: rest).length + 1 = (seg ++ o :: rest).length := by rw [hxl]; rfl
        omega)
      rw [← eS1] at u3
      rw [← eS2] at w3
      have hlA : (Al ++ o :: rest).length = (seg ++ o :: rest).length - 1 := by
        have : (Al ++ o :: rest).length + 1 = (seg ++ o :: rest).length := by rw [hxl]; rfl
        omega
      rw [hlA] at w1
      have hfl := flatS_seg (rest := rest) a2 a3
      -- behind
      have hnopS : nop (seg ++ o :: rest) = nop rest + 1 := by
        rw [nop_seg a3]
        show (if o.1 = 40 then 1 else 0) + nop rest = _
        rw [if_pos a2]; omega
      obtain ⟨m1, m2, m3⟩ := c2
      have hflL : (flatS (seg ++ o :: rest)).length = (flatS rest).length + 1 + (flatA seg.reverse).length := by rw [hfl, List.length_append, List.length_cons]; omega
      obtain ⟨xm', x1, x2, x3⟩ : ∃ xm', m_X3_shut_60 xs (nI no) Mk R_size F Lt R_elements Sg xh xd xm Tt Te (nI rest.length) (nI p) = m_X3_shut_108 xs (nI no) Mk R_size F Lt R_elements Sg xh xd xm' Tt Te (nI rest.length) (nI p) ∧ (xm' = 0 ∨ xm' = 1) ∧ ((b1 = 0 ∨ b2 = 0) ∧ xm' = 1 ∨ (¬ b1 = 0 ∧ ¬ b2 = 0) ∧ xm' = xm) := by
        have e1 : m_X3_shut_60 xs (nI no) Mk R_size F Lt R_elements Sg xh xd xm Tt Te (nI rest.length) (nI p) = m_X3_shut_60 xs (nI no) Mk R_size F Lt R_elements Sg xh xd xm Tt Te (nI rest.length) (nI p) := rfl
        conv at e1 => rhs; unfold m_X3_shut_60
        rw [List.length_cons] at u1
        rw [i_0, if_pos (by rw [nI_le' (by omega) (by omega)]; omega), nI_1, u1, ob_i, size_ok (by omega), ob_i, g1, i_1, pk_sub (by omega), r4, pk_sub (by omega), w1, ob_i] at e1
        rw [r4]
        by_cases z1 : b1 = 0
        · rw [if_pos (by rw [z1]; rfl)] at e1
          exact ⟨1, e1, Or.inr rfl, Or.inl ⟨Or.inl z1, rfl⟩⟩
        · rw [if_neg (by intro z; exact z1 z)] at e1
          by_cases z2 : b2 = 0
          · rw [if_pos (by rw [z2]; rfl)] at e1
            exact ⟨1, e1, Or.inr rfl, Or.inl ⟨Or.inr z2, rfl⟩⟩
          · rw [if_neg (by intro z; exact z2 z)] at e1
            exact ⟨xm, e1, r6, Or.inr ⟨⟨z1, z2⟩, rfl⟩⟩
      -- the brackets are shut
      obtain ⟨Tt', Te', y1, y2⟩ : ∃ Tt' Te', m_X3_shut_108 xs (nI no) Mk R_size F Lt R_elements Sg xh xd xm' Tt Te (nI rest.length) (nI p) = some (1, vp_updL Sg rest.length 95, nI (rest.length + 1), nI (nop rest), xm', Tt', Te') ∧ itT Tt' Tf Te' Td ((flatS rest ++ ((p + 1, o.2.1, pos (seg ++ o :: rest), nop rest) :: flatA seg.reverse)).take 40) := by
        unfold m_X3_shut_108
        have t135 : ∀ (A B : Nat → Int32), m_X3_shut_135 xs (nI no) Mk R_size F Lt R_elements Sg xh xd xm' A B (nI rest.length) = some (1, vp_updL Sg rest.length 95, nI (rest.length + 1), nI (nop rest), xm', A, B) := by
          intro A B
          unfold m_X3_shut_135
          rw [gd_nI (by omega) (by omega), nI_cl (by omega), nI_1, r5, hnopS, nI_pred]
        rw [gd_nI (by omega) (by omega), nI_cl (by omega)]
        by_cases z : (flatS rest).length < 40
        · rw [if_pos ⟨Or.inl a2, z⟩] at m2
          rw [m2, if_neg (by rw [i_0, nI_lt' (by omega) (by omega)]; omega), gd_nI (by omega) (by omega)]
          unfold m_X7_settle
          rw [gd_nI z (by omega), gd_nI z (by omega), ob_i, nI_cl (by omega)]
          dsimp only
          refine ⟨upd Tt (flatS rest).length (nI p), upd Te (flatS rest).length xs, t135 _ _, ?_⟩
          intro q it hq
          rw [List.getElem?_take] at hq
          by_cases zq : q < 40
          · rw [if_pos zq] at hq
            by_cases zt : q = (flatS rest).length
            · subst zt
              rw [List.getElem?_append_right (Nat.le_refl _), Nat.sub_self] at hq
              have hq : (p + 1, o.2.1, pos (seg ++ o :: rest), nop rest) = it := Option.some.inj hq
              subst hq
              have old := itT_take (it := (0, o.2.1, o.2.1, nop rest)) r8 z (by rw [hfl, List.getElem?_append_right (Nat.le_refl _), Nat.sub_self]; rfl)
              exact ⟨by rw [pk_us, topv_s], old.2.1, by rw [pk_us]; exact r3, old.2.2.2⟩
            · have old : (flatS (seg ++ o :: rest))[q]? = some it := by
                rw [hfl]
                by_cases zl : q < (flatS rest).length
                · rw [List.getElem?_append_left zl] at hq ⊢
                  exact hq
                · rw [List.getElem?_append_right (by omega)] at hq ⊢
                  obtain ⟨k, hk⟩ : ∃ k, q - (flatS rest).length = k + 1 := ⟨q - (flatS rest).length - 1, by omega⟩
                  rw [hk] at hq ⊢
                  exact hq
              rw [pk_un zt, pk_un zt]
              exact itT_take r8 zq old
          · rw [if_neg zq] at hq; cases hq
        · rw [if_neg (fun y => z y.2)] at m2
          rw [m2, if_pos (by decide)]
          refine ⟨Tt, Te, t135 _ _, ?_⟩
          rw [List.take_append_of_le_length (by omega)]
          rw [hfl, List.take_append_of_le_length (by omega)] at r8
          exact r8
      show ∃ Sg' xh' xd' xm' Tt' Te', m_X3_shut_60 xs (nI no) Mk R_size F Lt R_elements Sg xh xd xm Tt Te (nI rest.length) (nI p) = some (1, Sg', xh', xd', xm', Tt', Te') ∧ _ ∧ _
      have e95 : ¬ (95 : Int64) = 40 := by decide
      refine ⟨_, _, _, _, _, _, x1.trans y1, fun hpos => ?_, ?_⟩
      · refine ⟨fun k hk => r1 k (by rw [← hpos]; exact hk), ⟨pk_uLs, ?_, repS_frame (fun q hq => ⟨pk_uLn (by omega), rfl⟩) m3⟩, by rw [hpos]; exact r3, rfl, ?_, x2, ?_, ?_, ?_⟩
        · rw [m2]
          by_cases z : (flatS rest).length < 40
          · rw [if_pos ⟨Or.inl a2, z⟩, if_pos ⟨Or.inr rfl, z⟩]
          · rw [if_neg (fun y => z y.2), if_neg (fun y => z y.2)]
        · show nI (nop rest) = nI ((if (95 : Int64) = 40 then 1 else 0) + nop rest)
          rw [if_neg e95, Nat.zero_add]
        · intro hl40
          have hl40' : (flatS (seg ++ o :: rest)).length ≤ 40 := by
            have : (flatS ((95, o.2.1, pos (seg ++ o :: rest), p + 1, segf sz Tk p 0 seg.reverse, (p + 1, o.2.1, pos (seg ++ o :: rest), nop rest) :: flatA seg.reverse) :: rest)).length = (flatS rest).length + 1 + (flatA seg.reverse).length := by
              show (flatS rest ++ itE _ _).length = _
              unfold itE
              rw [if_neg e95, List.length_append]
              show _ + (((p + 1, o.2.1, pos (seg ++ o :: rest), nop rest) :: flatA seg.reverse) : List It).length = _
              rw [List.length_cons]; omega
            rw [this] at hl40
            omega
          have hu := u3 hl40'
          have hww := w3 hl40'
          have hold := r7 hl40'
          show xm' = bi ((segf sz Tk p 0 seg.reverse && allS rest) = false)
          have hrest : allS (seg ++ o :: rest) = true ↔ (∀ x, x ∈ seg → x.2.2.2.2.1 = true) ∧ allS rest = true := by
            rw [allS_iff, allS_iff]
            constructor
            · intro h
              exact ⟨fun x hx => h x (List.mem_append_left _ hx), fun x hx => h x (List.mem_append_right _ (List.mem_cons_of_mem _ hx))⟩
            · intro ⟨h1, h2⟩ x hx
              rcases List.mem_append.mp hx with hx | hx
              · exact h1 x hx
              · rcases List.mem_cons.mp hx with rfl | hx
                · exact hdS_parts hd x (List.mem_append_right _ (List.mem_cons_self ..)) (by rw [a2]; decide)
                · exact h2 x hx
          rcases x3 with ⟨zb, zx⟩ | ⟨⟨zb1, zb2⟩, zx⟩
          · rw [zx, bi_t]
            have : segf sz Tk p 0 seg.reverse = false := by
              cases hsg : segf sz Tk p 0 seg.reverse with
              | false => rfl
              | true =>
                exfalso
                rw [segf_iff] at hsg
                rcases zb with zb | zb
                · exact (hu.mp zb) (fun q95 => by
                    have := (hsg 0 xf (by rw [hxf]; simp) q95).1
                    rw [Nat.zero_add] at this; exact this)
                · exact (hww.mp zb) (fun q95 => by
                    have := (hsg (sz p - 1) xl (by rw [fs, hxl]; simp) q95).1
                    rw [Nat.zero_add] at this; exact this)
            rw [this]; rfl
          · rw [zx, hold]
            apply bi_congr
            have hf1 : xf.1 = 95 → fitE Tk (tyN sz p 0) xf.2.2.2.1 = true := Classical.byContradiction (fun z => zb1 (hu.mpr z))
            have hf2 : xl.1 = 95 → fitE Tk (tyN sz p (sz p - 1)) xl.2.2.2.1 = true := Classical.byContradiction (fun z => zb2 (hww.mpr z))
            have key : segf sz Tk p 0 seg.reverse = true ↔ ∀ x, x ∈ seg → x.2.2.2.2.1 = true := by
              rw [segf_iff]
              constructor
              · intro h x hx
                by_cases q95 : x.1 = 95
                · obtain ⟨k, hk⟩ := List.mem_iff_getElem?.mp (List.mem_reverse.mpr hx)
                  exact (h k x hk q95).2
                · exact hdS_parts hd x (List.mem_append_left _ hx) q95
              · intro h e x hx q95
                have hmem : x ∈ seg := List.mem_reverse.mp (List.mem_iff_getElem?.mpr ⟨e, hx⟩)
                refine ⟨?_, h x hmem⟩
                rw [Nat.zero_add]
                obtain ⟨ze, -⟩ := List.getElem?_eq_some_iff.mp hx
                rw [List.length_reverse] at ze
                by_cases z0 : e = 0
                · subst z0
                  have : x = xf := by rw [hxf] at hx; simp at hx; exact hx.symm
                  subst this; exact hf1 q95
                · by_cases zl : e + 1 = sz p
                  · have hel : e = sz p - 1 := by omega
                    subst hel
                    have : x = xl := by rw [fs, hxl] at hx; simp at hx; exact hx.symm
                    subst this; exact hf2 q95
                  · unfold tyN
                    rw [if_neg z0, if_neg zl, ]
                    unfold fitE
                    obtain ⟨A', B', hAB⟩ := List.append_of_mem hmem
                    have := entry_ok (A := A') (x := x) (B := B' ++ o :: rest) (by rw [hAB] at r2; simpa using r2) (by rw [hAB] at hd; simpa using hd)
                    have hcc := (this.2.2 q95).1
                    rw [K.1]
                    by_cases zc : x.2.2.2.1 = 0
                    · simp [zc]
                    · rw [bt_m1 (by omega)]; simp
            constructor
            · intro h
              cases h2 : (segf sz Tk p 0 seg.reverse && allS rest) with
              | false => rfl
              | true =>
                rw [Bool.and_eq_true, key] at h2
                rw [hrest.mpr h2] at h; cases h
            · intro h
              cases h2 : allS (seg ++ o :: rest) with
              | false => rfl
              | true =>
                rw [hrest, ← key] at h2
                rw [h2.1, h2.2] at h; cases h
        · show itT _ _ _ _ ((flatS rest ++ itE _ _).take 40)
          unfold itE
          rw [if_neg e95]
          exact y2
        · show xt = nI (min (flatS rest ++ itE _ _).length 40)
          unfold itE
          rw [if_neg e95, r9, hfl]
          simp
      · refine ⟨hdS_rest (A := seg ++ [o]) (by simpa using hd), fun _ => ⟨by show p + 1 ≤ no; omega, _, rfl⟩, fun z => absurd rfl z⟩
end CREAD
