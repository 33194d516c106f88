/-! the reference takes a tree up -/
def jbM (Pf Pw Pt Pi Pd : Nat → Int32) (q : Nat) (J : Jb) : Prop := Pf q = nI J.1 ∧ Pw q = nI (J.2.1 - J.1) ∧ Pt q = nI J.2.2.1 ∧ Pi q = nI J.2.2.2.1 ∧ Pd q = nI J.2.2.2.2
def repM (Pf Pw Pt Pi Pd : Nat → Int32) (b : Nat) : List Jb → Prop
  | [] => True
  | J :: L => jbM Pf Pw Pt Pi Pd (b + L.length) J ∧ repM Pf Pw Pt Pi Pd b L
/-- holes, from the first on -/
def repH (Hf Hw Hi Ht : Nat → Int32) (L : List Jb) : Prop := ∀ q J, L[q]? = some J → Hf q = nI J.1 ∧ Hw q = nI (J.2.1 - J.1) ∧ Ht q = nI J.2.2.1 ∧ Hi q = nI J.2.2.2.1
def itM (Io If Iw Id : Nat → Int32) (L : List It) : Prop := ∀ q it, L[q]? = some it → Io q = topv it.1 ∧ If q = nI it.2.1 ∧ Iw q = nI (it.2.2.1 - it.2.1) ∧ Id q = nI it.2.2.2
theorem itM_push {Io If Iw Id : Nat → Int32} {L : List It} (h : itM Io If Iw Id L) (it : It) : itM (upd Io L.length (topv it.1)) (upd If L.length (nI it.2.1)) (upd Iw L.length (nI (it.2.2.1 - it.2.1))) (upd Id L.length (nI it.2.2.2)) (L ++ [it]) := by
  intro q it' hq
  by_cases e : q = L.length
  · subst e
    rw [List.getElem?_append_right (Nat.le_refl _), Nat.sub_self] at hq
    have hq : it = it' := Option.some.inj hq
    subst hq
    exact ⟨pk_us, pk_us, pk_us, pk_us⟩
  · have hl : q < L.length := by
      obtain ⟨h1, -⟩ := List.getElem?_eq_some_iff.mp hq
      simp at h1; omega
    rw [List.getElem?_append_left hl] at hq
    rw [pk_un e, pk_un e, pk_un e, pk_un e]
    exact h q it' hq
theorem repH_push {Hf Hw Hi Ht : Nat → Int32} {L : List Jb} (h : repH Hf Hw Hi Ht L) (J : Jb) : repH (upd Hf L.length (nI J.1)) (upd Hw L.length (nI (J.2.1 - J.1))) (upd Hi L.length (nI J.2.2.2.1)) (upd Ht L.length (nI J.2.2.1)) (L ++ [J]) := by
  intro q it' hq
  by_cases e : q = L.length
  · subst e
    rw [List.getElem?_append_right (Nat.le_refl _), Nat.sub_self] at hq
    have hq : J = it' := Option.some.inj hq
    subst hq
    exact ⟨pk_us, pk_us, pk_us, pk_us⟩
  · have hl : q < L.length := by
      obtain ⟨h1, -⟩ := List.getElem?_eq_some_iff.mp hq
      simp at h1; omega
    rw [List.getElem?_append_left hl] at hq
    rw [pk_un e, pk_un e, pk_un e, pk_un e]
    exact h q it' hq
def cntO : List It → Nat
  | [] => 0
  | it :: L => (if it.1 = 0 then 0 else 1) + cntO L
theorem cntO_app : ∀ A B : List It, cntO (A ++ B) = cntO A + cntO B := by
  intro A
  induction A with
  | nil => intro B; simp [cntO]
  | cons J A ih => intro B; show _ + cntO (A ++ B) = _ + cntO A + cntO B; rw [ih]; omega
theorem cntO_le : ∀ A : List It, cntO A ≤ A.length := by
  intro A
  induction A with
  | nil => exact Nat.le_refl _
  | cons J A ih => show _ + cntO A ≤ A.length + 1; split <;> omega
theorem repM_frame {Pf Pw Pt Pi Pd Pf' Pw' Pt' Pi' Pd' : Nat → Int32} {b : Nat} : ∀ {L : List Jb}, (∀ q, b ≤ q → q < b + L.length → Pf' q = Pf q ∧ Pw' q = Pw q ∧ Pt' q = Pt q ∧ Pi' q = Pi q ∧ Pd' q = Pd q) → repM Pf Pw Pt Pi Pd b L → repM Pf' Pw' Pt' Pi' Pd' b L := by
  intro L
  induction L with
  | nil => intro _ _; trivial
  | cons J L ih =>
    intro h ⟨h1, h2⟩
    refine ⟨?_, ih (fun q h3 h4 => h q h3 (by show q < b + (L.length + 1); omega)) h2⟩
    obtain ⟨a1, a2, a3, a4, a5⟩ := h (b + L.length) (by omega) (by show b + L.length < b + (L.length + 1); omega)
    unfold jbM at h1 ⊢
    rw [a1, a2, a3, a4, a5]
    exact h1
theorem repM_app {Pf Pw Pt Pi Pd : Nat → Int32} {b : Nat} {S : List Jb} : ∀ {L : List Jb}, repM Pf Pw Pt Pi Pd (b + S.length) L → repM Pf Pw Pt Pi Pd b S → repM Pf Pw Pt Pi Pd b (L ++ S) := by
  intro L
  induction L with
  | nil => intro _ h; exact h
  | cons J L ih =>
    intro ⟨h1, h2⟩ h
    refine ⟨?_, ih h2 h⟩
    show jbM Pf Pw Pt Pi Pd (b + (L ++ S).length) J
    rw [List.length_append, show b + (L.length + S.length) = b + S.length + L.length by omega]
    exact h1
theorem bit0 (x : Int32) {b : Nat} (hb : b < 32) : ((x >>> (nI b &&& 31)) &&& 1 = 0) ↔ ¬ bt' x b = true := by
  have h := shr_bit x hb
  rw [Bool.not_eq_true]
  exact h
theorem bit0' (x : Int32) {b : Nat} (hb : b < 32) : ((x >>> (nI b &&& 31)) &&& 1 = nI 0) ↔ ¬ bt' x b = true := bit0 x hb
section MTAKE
variable {C : Nat → Int32} {E : Nat → Int64} {no : Nat} {sz : Nat → Nat} {el : Nat → Nat → Int64} {w : Nat → Int64} {at0 : Nat → Nat} {tk : Nat → Nat → Nat → Bool} {n : Nat} {Tk : Nat → Int32} {Cw : Nat → Int64} {Wo Ih Cs : Nat → Int32} {ip : Int32}
set_option maxHeartbeats 2000000 in
theorem openOp_ok (G : RG C E (nI no) no sz el) (K : TKOK no sz tk Tk) (hn : n ≤ 40) (hw : ∀ k, k < n → Cw (40 * 0 + k) = w k) (hM : mcOK no sz el w at0 tk Tk n 0 Wo Ih (fun _ _ => True)) {Rs : Nat → Int64} {Pf Pw Pt Pi Pd Hf Hw Hi Ht : Nat → Int32} {h o i j dp r : Nat} (ho : o < no) (hij : i < j) (hj : j ≤ n) (hMr : r < 1000000000) (hrW : r < Wx no sz el w at0 tk (TT no sz el w at0 tk) o (sz o) i j) (hh : h ≤ 40) :
    ∃ Rs' Pf' Pw' Pt' Pi' Pd' Hf' Hw' Hi' Ht', m_X9_openOperator E C Cw Ih Rs Pf Pw Pt Pi Pd (nI h) Hf Hw Hi Ht (nI o) (nI i) (nI (j - i)) (nI r) (nI dp) = some (Rs', Pf', Pw', Pt', Pi', Pd', nI (h + (chil no sz el w at0 tk o j dp (sz o) i r).length), Hf', Hw', Hi', Ht') ∧ repM Pf' Pw' Pt' Pi' Pd' h (chil no sz el w at0 tk o j dp (sz o) i r) ∧ ∀ q, q < h → Pf' q = Pf q ∧ Pw' q = Pw q ∧ Pt' q = Pt q ∧ Pi' q = Pi q ∧ Pd' q = Pd q := by
  have hno : no ≤ 30 := G.2.1
  obtain ⟨g1, g2, g3, g4⟩ := G.2.2 o ho
  obtain ⟨V, v1, v2⟩ := findRest_ok (at0 := at0) (tk := tk) G K (Wo := Wo) (Ih := Ih) (c := 0) hn (by omega) ho hij hj hw hM Rs
  unfold m_X9_openOperator
  rw [nI_add, show i + (j - i) = j by omega, i_0, v1, ob_i, nI_l (by omega)]
  -- the holes go on the pile, the last first
  have L243 : ∀ (L acc : List Jb) (fu : Nat) (Pf Pw Pt Pi Pd Hf Hw Hi Ht : Nat → Int32), L.length < fu → L.length + acc.length ≤ 9 → (∀ J, J ∈ L → J.2.2.2.2 = dp) → repH Hf Hw Hi Ht L → repM Pf Pw Pt Pi Pd h acc → ∃ Pf' Pw' Pt' Pi' Pd', m_X9_openOperator_243 E C Cw Ih fu V Pf Pw Pt Pi Pd (nI (h + acc.length)) Hf Hw Hi Ht (nI dp) (nI L.length - 1) = some (V, Pf', Pw', Pt', Pi', Pd', nI (h + (L ++ acc).length), Hf, Hw, Hi, Ht) ∧ repM Pf' Pw' Pt' Pi' Pd' h (L ++ acc) ∧ ∀ q, q < h → Pf' q = Pf q ∧ Pw' q = Pw q ∧ Pt' q = Pt q ∧ Pi' q = Pi q ∧ Pd' q = Pd q := by
    intro L
    induction hL : L.length generalizing L with
    | zero =>
      intro acc fu Pf Pw Pt Pi Pd Hf Hw Hi Ht h1 h2 h3 h4 h5
      obtain ⟨fu, rfl⟩ : ∃ z, fu = z + 1 := ⟨fu - 1, by omega⟩
      have : L = [] := List.eq_nil_of_length_eq_zero hL
      subst this
      exact ⟨Pf, Pw, Pt, Pi, Pd, rfl, h5, fun _ _ => ⟨rfl, rfl, rfl, rfl, rfl⟩⟩
    | succ k ih =>
      intro acc fu Pf Pw Pt Pi Pd Hf Hw Hi Ht h1 h2 h3 h4 h5
      obtain ⟨fu, rfl⟩ : ∃ z, fu = z + 1 := ⟨fu - 1, by omega⟩
      -- the last one
      obtain ⟨L0, J, rfl⟩ : ∃ L0 J, L = L0 ++ [J] := by
        refine ⟨L.dropLast, L.getLast (fun z => by rw [z] at hL; cases hL), ?_⟩
        exact (List.dropLast_concat_getLast _).symm
      have hL0 : L0.length = k := by simp at hL; exact hL
      obtain ⟨a1, a2, a3, a4⟩ := h4 k J (by rw [← hL0]; simp)
      have hJd : J.2.2.2.2 = dp := h3 J (by simp)
      obtain ⟨Pf', Pw', Pt', Pi', Pd', i1, i2, i3⟩ := ih L0 hL0 (J :: acc) fu (upd Pf (h + acc.length) (nI J.1)) (upd Pw (h + acc.length) (nI (J.2.1 - J.1))) (upd Pt (h + acc.length) (nI J.2.2.1)) (upd Pi (h + acc.length) (nI J.2.2.2.1)) (upd Pd (h + acc.length) (nI dp)) Hf Hw Hi Ht (by omega) (by rw [List.length_cons]; omega) (fun J' hJ' => h3 J' (by simp [hJ'])) (by
          intro q J' hq
          refine h4 q J' ?_
          obtain ⟨z, -⟩ := List.getElem?_eq_some_iff.mp hq
          rw [List.getElem?_append_left z]; exact hq) ⟨⟨pk_us, pk_us, pk_us, pk_us, by rw [pk_us, hJd]⟩, repM_frame (fun q q1 q2 => by
            have hne : q ≠ h + acc.length := by omega
            rw [pk_un hne, pk_un hne, pk_un hne, pk_un hne, pk_un hne]
            exact ⟨rfl, rfl, rfl, rfl, rfl⟩) h5⟩
      refine ⟨Pf', Pw', Pt', Pi', Pd', ?_, by rw [List.append_assoc]; exact i2, ?_⟩
      · show (if nI (k + 1) - 1 < 0 then _ else (gd (nI (k + 1) - 1) 9 (gd (nI (k + 1) - 1) 9 (gd (nI (k + 1) - 1) 9 (gd (nI (k + 1) - 1) 9 (Option.bind (m_X9_push Pf Pw Pt Pi Pd (nI (h + acc.length)) (Hf (nI (k + 1) - 1).toNatClampNeg) (Hw (nI (k + 1) - 1).toNatClampNeg) (Ht (nI (k + 1) - 1).toNatClampNeg) (Hi (nI (k + 1) - 1).toNatClampNeg) (nI dp)) (fun r_22 => m_X9_openOperator_243 E C Cw Ih fu V r_22.1 r_22.2.1 r_22.2.2.1 r_22.2.2.2.1 r_22.2.2.2.2.1 r_22.2.2.2.2.2 Hf Hw Hi Ht (nI dp) ((nI (k + 1) - 1) + (-1))))))))) = _
        rw [nI_pred, if_neg (by rw [i_0, nI_lt' (by omega) (by omega)]; omega), gd_nI (by omega) (by omega), gd_nI (by omega) (by omega), gd_nI (by omega) (by omega), gd_nI (by omega) (by omega), nI_cl (by omega), a1, a2, a3, a4]
        unfold m_X9_push
        rw [gd_nI (by omega) (by omega), gd_nI (by omega) (by omega), gd_nI (by omega) (by omega), gd_nI (by omega) (by omega), gd_nI (by omega) (by omega), nI_cl (by omega), ob_i, nI_m1, nI_1]
        dsimp only
        rw [List.length_cons] at i1
        rw [List.append_assoc]
        exact i1
      · intro q hq
        obtain ⟨b1, b2, b3, b4, b5⟩ := i3 q hq
        have hne : q ≠ h + acc.length := by omega
        rw [b1, b2, b3, b4, b5, pk_un hne, pk_un hne, pk_un hne, pk_un hne, pk_un hne]
        exact ⟨rfl, rfl, rfl, rfl, rfl⟩
  have hbig : ∀ e m, e < sz o → i ≤ m → m ≤ j → V (41 * (e + 1) + (m - i)) = lN (cap (Wx no sz el w at0 tk (TT no sz el w at0 tk) o (sz o - (e + 1)) m j)) := fun e m h1 h2 h3 => v2 (e + 1) m (by omega) h2 h3
  -- the end of a hole
  have L101 : ∀ (k24 : (Nat → Int64) → (Nat → Int32) → (Nat → Int32) → (Nat → Int32) → (Nat → Int32) → (Nat → Int32) → Int32 → (Nat → Int32) → (Nat → Int32) → (Nat → Int32) → (Nat → Int32) → Int32 → Int32 → Int32 → Int32 → Int64 → Int32 → Int32 → Option ((Nat → Int64) × (Nat → Int32) × (Nat → Int32) × (Nat → Int32) × (Nat → Int32) × (Nat → Int32) × Int32 × (Nat → Int32) × (Nat → Int32) × (Nat → Int32) × (Nat → Int32))) (Hf Hw Hi Ht : Nat → Int32) (d a hc : Nat), d < sz o → el o (sz o - (d + 1)) = 95 → i ≤ a → hc < 9 → ∀ (dd m l fu : Nat), a < m → m + dd = j + 1 → dd < fu → l < 1000000000 → l < sm (fun m => HV no at0 tk (TT no sz el w at0 tk) o (sz o - (d + 1)) a m * Wx no sz el w at0 tk (TT no sz el w at0 tk) o d m j) m dd → (∀ m' x, pkN (fun m => HV no at0 tk (TT no sz el w at0 tk) o (sz o - (d + 1)) a m * Wx no sz el w at0 tk (TT no sz el w at0 tk) o d m j) dd m l = (m', x) → 1 ≤ cap (Wx no sz el w at0 tk (TT no sz el w at0 tk) o d m' j)) → ∀ m' x, pkN (fun m => HV no at0 tk (TT no sz el w at0 tk) o (sz o - (d + 1)) a m * Wx no sz el w at0 tk (TT no sz el w at0 tk) o d m j) dd m l = (m', x) → m_X9_openOperator_101 E C Cw Ih k24 fu V Pf Pw Pt Pi Pd (nI h) Hf Hw Hi Ht (nI o) (nI i) (nI dp) (nI a) (lN l) (nI hc) (nI (sz o - (d + 1))) (nI (m - a)) (lN (cap (Wx no sz el w at0 tk (TT no sz el w at0 tk) o d m j))) (lN (cap (HV no at0 tk (TT no sz el w at0 tk) o (sz o - (d + 1)) a m * Wx no sz el w at0 tk (TT no sz el w at0 tk) o d m j))) = m_X9_openOperator_231 E C Cw Ih k24 V Pf Pw Pt Pi Pd (nI h) (upd Hf hc (nI a)) (upd Hw hc (nI (m' - a))) (upd Hi hc (nI (x / cap (Wx no sz el w at0 tk (TT no sz el w at0 tk) o d m' j)))) (upd Ht hc (nI (tyN sz o (sz o - (d + 1))))) (nI o) (nI i) (nI dp) (nI m') (lN (x % cap (Wx no sz el w at0 tk (TT no sz el w at0 tk) o d m' j))) (nI (hc + 1)) (nI (sz o - (d + 1))) := by
    intro k24 Hf Hw Hi Ht d a hc hd hhole hia hhc dd
    have hty : tyN sz o (sz o - (d + 1)) ≤ 2 * no := tyN_le hno ho
    induction dd with
    | zero => intro m l fu h1 h2 h3 h4 h5; rw [sm_0] at h5; omega
    | succ dd ih =>
      intro m l fu h1 h2 h3 h4 h5 hpos m' x hpk
      obtain ⟨fu, rfl⟩ : ∃ z, fu = z + 1 := ⟨fu - 1, by omega⟩
      rw [sm_s] at h5
      have hposx := hpos m' x hpk
      have hcb := cap_le (HV no at0 tk (TT no sz el w at0 tk) o (sz o - (d + 1)) a m * Wx no sz el w at0 tk (TT no sz el w at0 tk) o d m j)
      have hcl : l < cap (HV no at0 tk (TT no sz el w at0 tk) o (sz o - (d + 1)) a m * Wx no sz el w at0 tk (TT no sz el w at0 tk) o d m j) ↔ l < HV no at0 tk (TT no sz el w at0 tk) o (sz o - (d + 1)) a m * Wx no sz el w at0 tk (TT no sz el w at0 tk) o d m j := by unfold cap; omega
      have e0 : m_X9_openOperator_101 E C Cw Ih k24 (fu + 1) V Pf Pw Pt Pi Pd (nI h) Hf Hw Hi Ht (nI o) (nI i) (nI dp) (nI a) (lN l) (nI hc) (nI (sz o - (d + 1))) (nI (m - a)) (lN (cap (Wx no sz el w at0 tk (TT no sz el w at0 tk) o d m j))) (lN (cap (HV no at0 tk (TT no sz el w at0 tk) o (sz o - (d + 1)) a m * Wx no sz el w at0 tk (TT no sz el w at0 tk) o d m j))) = m_X9_openOperator_101 E C Cw Ih k24 (fu + 1) V Pf Pw Pt Pi Pd (nI h) Hf Hw Hi Ht (nI o) (nI i) (nI dp) (nI a) (lN l) (nI hc) (nI (sz o - (d + 1))) (nI (m - a)) (lN (cap (Wx no sz el w at0 tk (TT no sz el w at0 tk) o d m j))) (lN (cap (HV no at0 tk (TT no sz el w at0 tk) o (sz o - (d + 1)) a m * Wx no sz el w at0 tk (TT no sz el w at0 tk) o d m j))) := rfl
      conv at e0 => rhs; unfold m_X9_openOperator_101
      unfold pkN at hpk
      by_cases z : l < HV no at0 tk (TT no sz el w at0 tk) o (sz o - (d + 1)) a m * Wx no sz el w at0 tk (TT no sz el w at0 tk) o d m j
      · rw [if_pos z] at hpk
        obtain ⟨rfl, rfl⟩ := Prod.mk.inj hpk
        have hwb := cap_le (Wx no sz el w at0 tk (TT no sz el w at0 tk) o d m j)
        have enz : ¬ lN (cap (Wx no sz el w at0 tk (TT no sz el w at0 tk) o d m j)) = 0 := by rw [l_0, pk_lEQ (by omega) (by omega)]; omega
        rw [if_pos (by rw [lg_cmp_lt, pk_lLT (by omega) (by omega)]; exact hcl.mpr z), gd_nI (by omega) (by omega), gd_nI (by omega) (by omega), mType_ok G ho (by omega), ob_i, gd_nI (by omega) (by omega), gzl_ok enz, gd_nI (by omega) (by omega), gzl_ok enz, nI_cl (by omega), pk_lDiv (by omega) (by omega) (by omega), lN_mul, lN_sub (Nat.div_mul_le_self _ _), sub_div_mod, lN_i, nI_add, show a + (m - a) = m by omega, nI_1] at e0
        exact e0
      · rw [if_neg z] at hpk
        have hdd : dd ≠ 0 := by
          intro z2
          subst z2
          rw [sm_0] at h5; omega
        have hx : cap (HV no at0 tk (TT no sz el w at0 tk) o (sz o - (d + 1)) a m * Wx no sz el w at0 tk (TT no sz el w at0 tk) o d m j) = HV no at0 tk (TT no sz el w at0 tk) o (sz o - (d + 1)) a m * Wx no sz el w at0 tk (TT no sz el w at0 tk) o d m j := cap_id (by omega)
        have hI : Ih (mhN 0 (tyN sz o (sz o - (d + 1))) a (m + 1 - a)) = nI (HV no at0 tk (TT no sz el w at0 tk) o (sz o - (d + 1)) a (m + 1)) := by
          rw [(hM a (m + 1) (by omega) (by omega) trivial).2 _ hty, hv_HV K ho (by omega)]
        have hb := hbig (sz o - (d + 1)) (m + 1) (by omega) (by omega) (by omega)
        rw [show sz o - (sz o - (d + 1) + 1) = d by omega] at hb
        have hHb : HV no at0 tk (TT no sz el w at0 tk) o (sz o - (d + 1)) a (m + 1) ≤ 1000000000 := by unfold HV; exact cap_le _
        have hWb := cap_le (Wx no sz el w at0 tk (TT no sz el w at0 tk) o d (m + 1) j)
        have hmul := mul_le_MM hWb hHb
        rw [if_neg (by rw [lg_cmp_lt, pk_lLT (by omega) (by omega)]; exact fun y => z (hcl.mp y)), nI_1, nI_1, i_41, pk_mul, nI_add, nI_add, pk_sub (by omega), show 41 * (sz o - (d + 1) + 1) + a + (m - a + 1) - i = 41 * (sz o - (d + 1) + 1) + (m + 1 - i) by omega, show m - a + 1 = m + 1 - a by omega, gd_nI (by omega) (by omega), mType_ok G ho (by omega), ob_i, i_0, holeAt_ok (by omega) (by omega) (by omega) (by omega), ob_i, hI, nI_cl (by omega), hb, nI_l (by omega), lN_mul, capped_ok (by omega), ob_i, hx, lN_sub (by omega), cap_mull, Nat.mul_comm (Wx no sz el w at0 tk (TT no sz el w at0 tk) o d (m + 1) j)] at e0
        rw [hx]
        refine e0.trans ?_
        exact ih (m + 1) (l - HV no at0 tk (TT no sz el w at0 tk) o (sz o - (d + 1)) a m * Wx no sz el w at0 tk (TT no sz el w at0 tk) o d m j) fu (by omega) (by omega) (by omega) (by omega) (by omega) (fun m2 x2 h2 => by
          refine hpos m2 x2 ?_
          unfold pkN
          rw [if_neg z]; exact h2) m' x hpk
  -- the elements
  have loop : ∀ (d a l fu : Nat) (acc : List Jb) (Hf Hw Hi Ht : Nat → Int32), d ≤ sz o → d < fu → i ≤ a → l < 1000000000 → l < Wx no sz el w at0 tk (TT no sz el w at0 tk) o d a j → acc.length + d ≤ sz o → repH Hf Hw Hi Ht acc → ∃ Hf' Hw' Hi' Ht', m_X9_openOperator_24 E C Cw Ih fu V Pf Pw Pt Pi Pd (nI h) Hf Hw Hi Ht (nI o) (nI i) (nI dp) (nI a) (lN l) (nI acc.length) (nI (sz o - d)) = m_X9_openOperator_243 E C Cw Ih FU V Pf Pw Pt Pi Pd (nI h) Hf' Hw' Hi' Ht' (nI dp) (nI (acc ++ chil no sz el w at0 tk o j dp d a l).length - 1) ∧ repH Hf' Hw' Hi' Ht' (acc ++ chil no sz el w at0 tk o j dp d a l) := by
    intro d
    induction d with
    | zero =>
      intro a l fu acc Hf Hw Hi Ht hd hf hia hM hl hln hrep
      obtain ⟨fu, rfl⟩ : ∃ z, fu = z + 1 := ⟨fu - 1, by omega⟩
      refine ⟨Hf, Hw, Hi, Ht, ?_, by simpa [chil] using hrep⟩
      show gd (nI o) 30 (if C (nI o).toNatClampNeg ≤ nI (sz o - 0) then _ else _) = _
      rw [gd_nI (by omega) (by omega), nI_cl (by omega), g1, Nat.sub_zero, if_pos (by rw [nI_le' (by omega) (by omega)]; omega)]
      have : (acc ++ chil no sz el w at0 tk o j dp 0 a l) = acc := by simp [chil]
      rw [this]
    | succ d ih =>
      intro a l fu acc Hf Hw Hi Ht hd hf hia hMl hl hln hrep
      obtain ⟨fu, rfl⟩ : ∃ z, fu = z + 1 := ⟨fu - 1, by omega⟩
      have e0 : m_X9_openOperator_24 E C Cw Ih (fu + 1) V Pf Pw Pt Pi Pd (nI h) Hf Hw Hi Ht (nI o) (nI i) (nI dp) (nI a) (lN l) (nI acc.length) (nI (sz o - (d + 1))) = m_X9_openOperator_24 E C Cw Ih (fu + 1) V Pf Pw Pt Pi Pd (nI h) Hf Hw Hi Ht (nI o) (nI i) (nI dp) (nI a) (lN l) (nI acc.length) (nI (sz o - (d + 1))) := rfl
      conv at e0 => rhs; unfold m_X9_openOperator_24
      have t231 : ∀ (Hf Hw Hi Ht : Nat → Int32) (l hc a : Nat), m_X9_openOperator_231 E C Cw Ih (m_X9_openOperator_24 E C Cw Ih fu) V Pf Pw Pt Pi Pd (nI h) Hf Hw Hi Ht (nI o) (nI i) (nI dp) (nI a) (lN l) (nI hc) (nI (sz o - (d + 1))) = m_X9_openOperator_24 E C Cw Ih fu V Pf Pw Pt Pi Pd (nI h) Hf Hw Hi Ht (nI o) (nI i) (nI dp) (nI a) (lN l) (nI hc) (nI (sz o - d)) := by
        intro Hf Hw Hi Ht l hc a
        unfold m_X9_openOperator_231
        rw [nI_1, show sz o - (d + 1) + 1 = sz o - d by omega]
      rw [gd_nI (by omega) (by omega), nI_cl (by omega), g1, if_neg (by rw [nI_le' (by omega) (by omega)]; omega), mHole_ok G ho (by omega), ob_i] at e0
      by_cases hhole : el o (sz o - (d + 1)) = 95
      · have hchil : chil no sz el w at0 tk o j dp (d + 1) a l = (a, (hk no sz el w at0 tk o j d a l).1, tyN sz o (sz o - (d + 1)), (hk no sz el w at0 tk o j d a l).2 / cap (Wx no sz el w at0 tk (TT no sz el w at0 tk) o d (hk no sz el w at0 tk o j d a l).1 j), dp) :: chil no sz el w at0 tk o j dp d (hk no sz el w at0 tk o j d a l).1 ((hk no sz el w at0 tk o j d a l).2 % cap (Wx no sz el w at0 tk (TT no sz el w at0 tk) o d (hk no sz el w at0 tk o j d a l).1 j)) := by
          show (if el o (sz o - (d + 1)) = 95 then _ else _) = _
          rw [if_pos hhole]
        cases hkr : hk no sz el w at0 tk o j d a l with
        | mk m x =>
          obtain ⟨h1, h2, h3, h4, h5, h6, h7, h8⟩ := hole_pk hMl hhole hl hkr
          rw [hkr] at hchil
          dsimp only at hchil
          have hty : tyN sz o (sz o - (d + 1)) ≤ 2 * no := tyN_le hno ho
          have hI : Ih (mhN 0 (tyN sz o (sz o - (d + 1))) a 1) = nI (HV no at0 tk (TT no sz el w at0 tk) o (sz o - (d + 1)) a (a + 1)) := by
            have := (hM a (a + 1) (by omega) (by omega) trivial).2 _ hty
            rw [hv_HV K ho (by omega), show a + 1 - a = 1 by omega] at this
            exact this
          have hb := hbig (sz o - (d + 1)) (a + 1) (by omega) (by omega) (by omega)
          rw [show sz o - (sz o - (d + 1) + 1) = d by omega] at hb
          have hHb : HV no at0 tk (TT no sz el w at0 tk) o (sz o - (d + 1)) a (a + 1) ≤ 1000000000 := by unfold HV; exact cap_le _
          have hWb := cap_le (Wx no sz el w at0 tk (TT no sz el w at0 tk) o d (a + 1) j)
          have hmul := mul_le_MM hWb hHb
          have eW : Wx no sz el w at0 tk (TT no sz el w at0 tk) o (d + 1) a j = sm (fun m => HV no at0 tk (TT no sz el w at0 tk) o (sz o - (d + 1)) a m * Wx no sz el w at0 tk (TT no sz el w at0 tk) o d m j) (a + 1) (j - a) := by
            show (if el o (sz o - (d + 1)) = 95 then _ else _) = _
            rw [if_pos hhole]
          have hkr' : pkN (fun m => HV no at0 tk (TT no sz el w at0 tk) o (sz o - (d + 1)) a m * Wx no sz el w at0 tk (TT no sz el w at0 tk) o d m j) (j - a) (a + 1) l = (m, x) := hkr
          have hL := L101 (m_X9_openOperator_24 E C Cw Ih fu) Hf Hw Hi Ht d a acc.length (by omega) hhole hia (by omega) (j - a) (a + 1) l FU (by omega) (by omega) (by rw [FU_v]; omega) hMl (by rw [← eW]; exact hl) (fun m2 x2 hh2 => by
            rw [hkr'] at hh2
            obtain ⟨rfl, rfl⟩ := Prod.mk.inj hh2
            exact h5) m x hkr'
          rw [show a + 1 - a = 1 by omega, t231] at hL
          rw [if_neg (by rw [bi_eq0]; simpa using hhole), nI_1, i_41, pk_mul, nI_add, nI_1, pk_sub (by omega), show 41 * (sz o - (d + 1) + 1) + a + 1 - i = 41 * (sz o - (d + 1) + 1) + (a + 1 - i) by omega, gd_nI (by omega) (by omega), mType_ok G ho (by omega), ob_i, i_0, i_1, holeAt_ok (by omega) (by omega) (by omega) (by omega), ob_i, hI, nI_cl (by omega), hb, nI_l (by omega), lN_mul, capped_ok (by omega), ob_i, cap_mull, Nat.mul_comm (Wx no sz el w at0 tk (TT no sz el w at0 tk) o d (a + 1) j), hL] at e0
          have hrep2 := repH_push hrep (a, m, tyN sz o (sz o - (d + 1)), x / cap (Wx no sz el w at0 tk (TT no sz el w at0 tk) o d m j), dp)
          obtain ⟨Hf', Hw', Hi', Ht', i1, i2⟩ := ih m (x % cap (Wx no sz el w at0 tk (TT no sz el w at0 tk) o d m j)) fu (acc ++ [(a, m, tyN sz o (sz o - (d + 1)), x / cap (Wx no sz el w at0 tk (TT no sz el w at0 tk) o d m j), dp)]) _ _ _ _ (by omega) (by omega) (by omega) h8 h7 (by rw [List.length_append]; show acc.length + 1 + d ≤ sz o; omega) hrep2
          rw [List.append_assoc] at i1 i2
          refine ⟨Hf', Hw', Hi', Ht', ?_, by rw [hchil]; exact i2⟩
          rw [e0, hchil]
          rw [List.length_append] at i1
          exact i1
      · have hchil : chil no sz el w at0 tk o j dp (d + 1) a l = chil no sz el w at0 tk o j dp d (a + 1) l := by
          show (if el o (sz o - (d + 1)) = 95 then _ else _) = _
          rw [if_neg hhole]
        rw [hchil]
        obtain ⟨p1, p2, p3⟩ := part_pk hhole hl
        obtain ⟨Hf', Hw', Hi', Ht', i1, i2⟩ := ih (a + 1) l fu acc Hf Hw Hi Ht (by omega) (by omega) (by omega) hMl p3 (by omega) hrep
        refine ⟨Hf', Hw', Hi', Ht', ?_, i2⟩
        rw [e0, if_pos (by rw [bi_eq0]; exact hhole), nI_1, t231]
        exact i1
  obtain ⟨Hf', Hw', Hi', Ht', i1, i2⟩ := loop (sz o) i r FU [] Hf Hw Hi Ht (Nat.le_refl _) (by rw [FU_v]; omega) (Nat.le_refl _) hMr hrW (by simp) (fun q J hq => by simp at hq)
  rw [Nat.sub_self] at i1
  rw [List.nil_append] at i1 i2
  have hcl := @chil_len no sz el w at0 tk o j dp (sz o) i r
  have hcd := (chil_ok (Tk := Tk) (dp := dp) K hno ho hj (Nat.le_refl (sz o)) hMr hrW).1
  obtain ⟨Pf', Pw', Pt', Pi', Pd', k1, k2, k3⟩ := L243 (chil no sz el w at0 tk o j dp (sz o) i r) [] FU Pf Pw Pt Pi Pd Hf' Hw' Hi' Ht' (by rw [FU_v]; omega) (by simp; omega) (fun J hJ => (hcd J hJ).2) i2 trivial
  rw [List.append_nil] at k1 k2
  refine ⟨V, Pf', Pw', Pt', Pi', Pd', Hf', Hw', Hi', Ht', ?_, k2, k3⟩
  exact i1.trans k1
set_option maxHeartbeats 2000000 in
theorem take59_ok (G : RG C E (nI no) no sz el) (hs : ∀ o, o < no → 1 ≤ sz o ∧ (el o 0 = 95 → 2 ≤ sz o)) (hpt : ∀ o, o < no → ∃ e, e < sz o ∧ ¬ el o e = 95) (K : TKOK no sz tk Tk) (hn : n ≤ 40) (hw : ∀ k, k < n → Cw (40 * 0 + k) = w k) (ha : ∀ k, at0 k = atN no sz el w k) (hM : mcOK no sz el w at0 tk Tk n 0 Wo Ih (fun _ _ => True)) : ∀ (f fu : Nat) (S : List Jb) (acc : List It) (Rs : Nat → Int64) (xt : Int32) (Io If Iw Id Pf Pw Pt Pi Pd Hf Hw Hi Ht : Nat → Int32), repM Pf Pw Pt Pi Pd 0 S → (∀ J, J ∈ S → vJ no sz el w at0 tk Tk n J) → acc.length + sumw S ≤ 40 → sumw S ≤ f → sumw S < fu → itM Io If Iw Id acc →
    ∃ Rs' Io' If' Iw' Id' Pf' Pw' Pt' Pi' Pd' Hf' Hw' Hi' Ht', m_X9_take_59 (nI no) ip E C Tk Cw Cs Wo Ih fu Rs xt Io If Iw Id (nI acc.length) Pf Pw Pt Pi Pd (nI S.length) Hf Hw Hi Ht (nI (cntO acc)) = some (nI (cntO (acc ++ run no sz el w at0 tk Tk f S)), Rs', 1, Io', If', Iw', Id', nI (acc ++ run no sz el w at0 tk Tk f S).length, Pf', Pw', Pt', Pi', Pd', nI 0, Hf', Hw', Hi', Ht') ∧ itM Io' If' Iw' Id' (acc ++ run no sz el w at0 tk Tk f S) := by
  have hno : no ≤ 30 := G.2.1
  have ha1 : ∀ k, at0 k ≤ 1 := fun k => by rw [ha]; exact atN_le k
  intro f
  induction f with
  | zero =>
    intro fu S acc Rs xt Io If Iw Id Pf Pw Pt Pi Pd Hf Hw Hi Ht hK hv h1 h2 h3 hT0
    obtain ⟨fu, rfl⟩ : ∃ z, fu = z + 1 := ⟨fu - 1, by omega⟩
    have hlen := len_sumw hv
    have : S = [] := by
      cases S with
      | nil => rfl
      | cons J S => rw [List.length_cons] at hlen; omega
    subst this
    have e : acc ++ run no sz el w at0 tk Tk 0 [] = acc := by simp [run]
    rw [e]
    exact ⟨Rs, Io, If, Iw, Id, Pf, Pw, Pt, Pi, Pd, Hf, Hw, Hi, Ht, rfl, hT0⟩
  | succ f ih =>
    intro fu S acc Rs xt Io If Iw Id Pf Pw Pt Pi Pd Hf Hw Hi Ht hK hv h1 h2 h3 hT0
    obtain ⟨fu, rfl⟩ : ∃ z, fu = z + 1 := ⟨fu - 1, by omega⟩
    cases S with
    | nil =>
      have e : acc ++ run no sz el w at0 tk Tk (f + 1) [] = acc := by simp [run]
      rw [e]
      exact ⟨Rs, Io, If, Iw, Id, Pf, Pw, Pt, Pi, Pd, Hf, Hw, Hi, Ht, rfl, hT0⟩
    | cons J S =>
      obtain ⟨hJ, hS⟩ := hK
      rw [Nat.zero_add] at hJ
      obtain ⟨j1, j2, j3, j4, j5⟩ := hJ
      have hvJ := hv J (List.mem_cons_self ..)
      have hvS : ∀ J', J' ∈ S → vJ no sz el w at0 tk Tk n J' := fun J' h => hv J' (List.mem_cons_of_mem _ h)
      have hsum : sumw (J :: S) = (J.2.1 - J.1) + sumw S := rfl
      obtain ⟨hJ1, hJ2, hJ3, hJ4⟩ := hvJ
      have hlS := len_sumw hvS
      have hca := cntO_le acc
      have hat := at1_le ha1 J.1 J.2.1
      obtain ⟨u1, u2⟩ := hv_lt hJ4
      have e0 : m_X9_take_59 (nI no) ip E C Tk Cw Cs Wo Ih (fu + 1) Rs xt Io If Iw Id (nI acc.length) Pf Pw Pt Pi Pd (nI (S.length + 1)) Hf Hw Hi Ht (nI (cntO acc)) = m_X9_take_154 (nI no) ip E C Tk Cw Cs Wo Ih (m_X9_take_59 (nI no) ip E C Tk Cw Cs Wo Ih fu) Rs xt Io If Iw Id (nI acc.length) Pf Pw Pt Pi Pd (nI S.length) Hf Hw Hi Ht (nI (cntO acc)) (nI J.1) (nI (J.2.1 - J.1)) (nI J.2.2.1) (nI J.2.2.2.1) (nI J.2.2.2.2) (nI (at1 at0 J.1 J.2.1)) := by
        have e1 : m_X9_take_59 (nI no) ip E C Tk Cw Cs Wo Ih (fu + 1) Rs xt Io If Iw Id (nI acc.length) Pf Pw Pt Pi Pd (nI (S.length + 1)) Hf Hw Hi Ht (nI (cntO acc)) = m_X9_take_59 (nI no) ip E C Tk Cw Cs Wo Ih (fu + 1) Rs xt Io If Iw Id (nI acc.length) Pf Pw Pt Pi Pd (nI (S.length + 1)) Hf Hw Hi Ht (nI (cntO acc)) := rfl
        conv at e1 => rhs; unfold m_X9_take_59
        rw [if_neg (by rw [i_0, nI_le' (by omega) (by omega)]; omega), nI_pred, nI_cl (by omega), gd_nI (by omega) (by omega), gd_nI (by omega) (by omega), gd_nI (by omega) (by omega), gd_nI (by omega) (by omega), gd_nI (by omega) (by omega), j1, j2, j3, j4, j5] at e1
        refine e1.trans ?_
        by_cases q : J.2.1 = J.1 + 1
        · rw [if_pos (by rw [i_1, nI_eq' (by omega) (by omega)]; omega), gd_nI (by omega) (by omega), nI_cl (by omega)]
          have hwi : Cw J.1 = w J.1 := by have := hw J.1 (by omega); simpa using this
          rw [hwi, mAtom_ok G, ob_i]
          have ea : at1 at0 J.1 J.2.1 = if atomB no sz el (w J.1) = true then 1 else 0 := by
            unfold at1
            rw [if_pos q, ha]
            rfl
          by_cases q2 : atomB no sz el (w J.1) = true
          · rw [if_neg (by rw [bi_eq0]; simpa using q2), ea, if_pos q2]; rfl
          · rw [if_pos (by rw [bi_eq0]; exact q2), ea, if_neg q2]; rfl
        · rw [if_neg (by rw [i_1, nI_eq' (by omega) (by omega)]; omega)]
          have ea : at1 at0 J.1 J.2.1 = 0 := by unfold at1; rw [if_neg q]
          rw [ea]; rfl
      show ∃ Rs' Io' If' Iw' Id' Pf' Pw' Pt' Pi' Pd' Hf' Hw' Hi' Ht', m_X9_take_59 (nI no) ip E C Tk Cw Cs Wo Ih (fu + 1) Rs xt Io If Iw Id (nI acc.length) Pf Pw Pt Pi Pd (nI (S.length + 1)) Hf Hw Hi Ht (nI (cntO acc)) = _ ∧ _
      rw [e0]
      unfold m_X9_take_154 run
      by_cases q : J.2.2.2.1 < at1 at0 J.1 J.2.1
      · rw [if_pos q, if_pos (by rw [nI_lt' (by omega) (by omega)]; exact q)]
        unfold m_X9_take_249 m_X9_take_322
        rw [gd_nI (by omega) (by omega), gd_nI (by omega) (by omega), gd_nI (by omega) (by omega), gd_nI (by omega) (by omega), if_pos (show (-1 : Int32) < 0 by decide), nI_cl (by omega), nI_1]
        have hT1 := itM_push hT0 (0, J.1, J.2.1, J.2.2.2.2)
        obtain ⟨Rs', Io', If', Iw', Id', Pf', Pw', Pt', Pi', Pd', Hf', Hw', Hi', Ht', k1, k2⟩ := ih fu S (acc ++ [(0, J.1, J.2.1, J.2.2.2.2)]) Rs xt _ _ _ _ Pf Pw Pt Pi Pd Hf Hw Hi Ht hS hvS (by rw [List.length_append]; show acc.length + 1 + _ ≤ _; omega) (by omega) (by omega) hT1
        rw [List.append_assoc] at k1 k2
        refine ⟨Rs', Io', If', Iw', Id', Pf', Pw', Pt', Pi', Pd', Hf', Hw', Hi', Ht', ?_, k2⟩
        rw [List.length_append, cntO_app acc [(0, J.1, J.2.1, J.2.2.2.2)]] at k1
        exact k1
      · rw [if_neg q, if_neg (by rw [nI_lt' (by omega) (by omega)]; exact q), pk_sub (by omega)]
        -- the operator is looked for
        have loop : ∀ (dd p l g : Nat), p + dd = no → dd < g → l < 1000000000 → l < sm (fun p => if bt' (Tk J.2.2.1) p = true then TT no sz el w at0 tk p J.1 J.2.1 else 0) p dd → m_X9_take_176 (nI no) ip E C Tk Cw Cs Wo Ih (m_X9_take_59 (nI no) ip E C Tk Cw Cs Wo Ih fu) g Rs xt Io If Iw Id (nI acc.length) Pf Pw Pt Pi Pd (nI S.length) Hf Hw Hi Ht (nI (cntO acc)) (nI J.1) (nI (J.2.1 - J.1)) (nI J.2.2.1) (nI l) (nI J.2.2.2.2) (nI p) = m_X9_take_249 (nI no) ip E C Tk Cw Cs Wo Ih (m_X9_take_59 (nI no) ip E C Tk Cw Cs Wo Ih fu) Rs xt Io If Iw Id (nI acc.length) Pf Pw Pt Pi Pd (nI S.length) Hf Hw Hi Ht (nI (cntO acc + 1)) (nI J.1) (nI (J.2.1 - J.1)) (nI (pkN (fun p => if bt' (Tk J.2.2.1) p = true then TT no sz el w at0 tk p J.1 J.2.1 else 0) dd p l).2) (nI J.2.2.2.2) (nI (pkN (fun p => if bt' (Tk J.2.2.1) p = true then TT no sz el w at0 tk p J.1 J.2.1 else 0) dd p l).1) := by
          intro dd
          induction dd with
          | zero => intro p l g q1 q2 q3 q4; rw [sm_0] at q4; omega
          | succ dd ihd =>
            intro p l g q1 q2 q3 q4
            obtain ⟨g, rfl⟩ : ∃ z, g = z + 1 := ⟨g - 1, by omega⟩
            rw [sm_s] at q4
            have hp0 : p < no := by omega
            have hTb : TT no sz el w at0 tk p J.1 J.2.1 ≤ 1000000000 := TT_le
            have e2 : m_X9_take_176 (nI no) ip E C Tk Cw Cs Wo Ih (m_X9_take_59 (nI no) ip E C Tk Cw Cs Wo Ih fu) (g + 1) Rs xt Io If Iw Id (nI acc.length) Pf Pw Pt Pi Pd (nI S.length) Hf Hw Hi Ht (nI (cntO acc)) (nI J.1) (nI (J.2.1 - J.1)) (nI J.2.2.1) (nI l) (nI J.2.2.2.2) (nI p) = m_X9_take_176 (nI no) ip E C Tk Cw Cs Wo Ih (m_X9_take_59 (nI no) ip E C Tk Cw Cs Wo Ih fu) (g + 1) Rs xt Io If Iw Id (nI acc.length) Pf Pw Pt Pi Pd (nI S.length) Hf Hw Hi Ht (nI (cntO acc)) (nI J.1) (nI (J.2.1 - J.1)) (nI J.2.2.1) (nI l) (nI J.2.2.2.2) (nI p) := rfl
            conv at e2 => rhs; unfold m_X9_take_176
            unfold m_X9_take_206 m_X9_take_237 at e2
            rw [gd_nI (by omega) (by omega), nI_cl (by omega), gd_nI (by omega) (by omega), i_0, withAt_ok (by omega) (by omega) (by omega) (by omega), ob_i, ob_i, (hM J.1 J.2.1 hJ1 hJ2 trivial).1 p hp0] at e2
            unfold pkN
            by_cases z : bt' (Tk J.2.2.1) p = true
            · rw [if_neg (fun y => (bit0' _ (by omega)).mp y z), if_neg (fun y => (bit0' _ (by omega)).mp y z)] at e2
              rw [if_pos z]
              rw [if_pos z] at q4
              by_cases z2 : l < TT no sz el w at0 tk p J.1 J.2.1
              · rw [if_pos (by rw [nI_lt' (by omega) (by omega)]; exact z2), nI_1] at e2
                rw [if_pos z2]; exact e2
              · rw [if_neg (by rw [nI_lt' (by omega) (by omega)]; exact z2), pk_sub (by omega), nI_1] at e2
                rw [if_neg z2, e2]
                exact ihd (p + 1) (l - TT no sz el w at0 tk p J.1 J.2.1) g (by omega) (by omega) (by omega) (by omega)
            · have z' := (bit0' (Tk J.2.2.1) (show p < 32 by omega)).mpr z
              rw [if_pos z', if_pos z', pk_sub (by omega), nI_1, Nat.sub_zero] at e2
              rw [if_neg z, if_neg (by omega), Nat.sub_zero, e2]
              rw [if_neg z] at q4
              exact ihd (p + 1) l g (by omega) (by omega) q3 (by omega)
        have hl := loop no 0 (J.2.2.2.1 - at1 at0 J.1 J.2.1) FU (by omega) (by rw [FU_v]; omega) (by omega) (by omega)
        rw [i_0]
        rw [hl]
        cases hr : topN no sz el w at0 tk Tk J.1 J.2.1 J.2.2.1 J.2.2.2.1 with
        | mk o r =>
          obtain ⟨ho, r1, r2, r3, r4⟩ := top_ok hs ⟨hJ1, hJ2, hJ3, hJ4⟩ q hr
          have hr' : pkN (fun p => if bt' (Tk J.2.2.1) p = true then TT no sz el w at0 tk p J.1 J.2.1 else 0) no 0 (J.2.2.2.1 - at1 at0 J.1 J.2.1) = (o, r) := hr
          rw [hr']
          dsimp only
          obtain ⟨c1, c2⟩ := chil_ok (dp := J.2.2.2.2 + 1) K hno ho hJ2 (Nat.le_refl (sz o)) r1 r3
          obtain ⟨e1, he1, he2⟩ := hpt o ho
          have hpp : 1 ≤ prt sz el o (sz o) := prt_pos (Nat.le_refl _) (by omega) he1 he2
          have hcv : ∀ J', J' ∈ chil no sz el w at0 tk o J.2.1 (J.2.2.2.2 + 1) (sz o) J.1 r → vJ no sz el w at0 tk Tk n J' := fun J' h => (c1 J' h).1
          have hcl := len_sumw hcv
          obtain ⟨Rs', Pf', Pw', Pt', Pi', Pd', Hf', Hw', Hi', Ht', s1, s2, s3⟩ := openOp_ok (Wo := Wo) (Ih := Ih) (Rs := Rs) (Pf := Pf) (Pw := Pw) (Pt := Pt) (Pi := Pi) (Pd := Pd) (Hf := Hf) (Hw := Hw) (Hi := Hi) (Ht := Ht) (h := S.length) (dp := J.2.2.2.2 + 1) G K hn hw hM ho hJ1 hJ2 r1 r3 (by omega)
          unfold m_X9_take_249 m_X9_take_322
          rw [gd_nI (by omega) (by omega), gd_nI (by omega) (by omega), gd_nI (by omega) (by omega), gd_nI (by omega) (by omega), if_neg (by rw [i_0, nI_lt' (by omega) (by omega)]; omega), nI_cl (by omega), nI_1, nI_1, s1, ob_i]
          dsimp only
          have hT1 := itM_push hT0 (o + 1, J.1, J.2.1, J.2.2.2.2)
          have hK2 : repM Pf' Pw' Pt' Pi' Pd' 0 S := repM_frame (fun q' _ h5 => s3 q' (by omega)) hS
          obtain ⟨Rs2, Io2, If2, Iw2, Id2, Pf2, Pw2, Pt2, Pi2, Pd2, Hf2, Hw2, Hi2, Ht2, k1, k2⟩ := ih fu (chil no sz el w at0 tk o J.2.1 (J.2.2.2.2 + 1) (sz o) J.1 r ++ S) (acc ++ [(o + 1, J.1, J.2.1, J.2.2.2.2)]) Rs' xt _ _ _ _ Pf' Pw' Pt' Pi' Pd' Hf' Hw' Hi' Ht' (repM_app (by rw [Nat.zero_add]; exact s2) hK2) (fun J' h => by
            rcases List.mem_append.mp h with h | h
            · exact hcv J' h
            · exact hvS J' h) (by rw [List.length_append, sumw_app]; show acc.length + 1 + _ ≤ _; omega) (by rw [sumw_app]; omega) (by rw [sumw_app]; omega) hT1
          rw [List.append_assoc] at k1 k2
          refine ⟨Rs2, Io2, If2, Iw2, Id2, Pf2, Pw2, Pt2, Pi2, Pd2, Hf2, Hw2, Hi2, Ht2, ?_, k2⟩
          rw [List.length_append, List.length_append, Nat.add_comm (chil no sz el w at0 tk o J.2.1 (J.2.2.2.2 + 1) (sz o) J.1 r).length, cntO_app acc [(o + 1, J.1, J.2.1, J.2.2.2.2)]] at k1
          rw [topv_s] at k1
          exact k1
end MTAKE
