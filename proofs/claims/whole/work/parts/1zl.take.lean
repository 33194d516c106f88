/-! THE TWO SIDES: a tree is taken; a row is parsed -/
section TAKE
variable {nn no : Nat} {sz : Nat → Nat} {el : Nat → Nat → Int64} {wy hm : Nat → Nat} {ar : Nat → Nat → Bool} {Rt Ti Rs Rh Rw F Lt C Nd Wy : Nat → Int32} {Re E : Nat → Int64} {Rn Ra Mn Ro O : Int32} {C1w : Nat → Int64} {C1a : Nat → Int32} {na : Nat} {al : Nat → Int32} {nt : Nat} {tp : Nat → Int32} {nf : Nat} {fs : Nat → Int32} {nw : Nat} {C1s C1o : Int32} {Tk : Nat → Int32} {Cw : Nat → Int64} {Cs Wo Ih : Nat → Int32} {n : Nat} {w : Nat → Int64}
set_option maxHeartbeats 1000000 in
theorem take_ok (H : IO no sz el wy hm Rs Rh Rw Re Ro O E C Nd Wy) (P : IPd no sz el wy hm ar Rs Re F Lt C1w C1a na al nt tp nf fs nw C1s C1o Tk Cw Cs Wo Ih n w) (d2 m2 : Int32) (W Tt Tf Te Td : Nat → Int32) (ts : Int32) (Ks Ke Km Kr Kd : Nat → Int32) (kh : Int32) (Rt : Nat → Int64) (Io If Iw Id : Nat → Int32) (mi : Int32) (Pf Pw Pt Pi Pd : Nat → Int32) (pn : Int32) (Hf Hw Hi Ht : Nat → Int32) (p0 : Int32) : ∃ r, (m_X8_take 1 d2 Rs F Lt Re Ro C1w C1a na al nt tp nf fs nw W C1s C1o Tt Tf Te Td ts Ks Ke Km Kr Kd kh p0 = some (r, d2, W, Tt, Tf, Te, Td, ts, Ks, Ke, Km, Kr, Kd, kh) ∧ m_X9_take O E C Tk Cw Cs Wo Ih 1 Rt m2 Io If Iw Id mi Pf Pw Pt Pi Pd pn Hf Hw Hi Ht p0 = some (r, Rt, m2, Io, If, Iw, Id, mi, Pf, Pw, Pt, Pi, Pd, pn, Hf, Hw, Hi, Ht)) ∨ ∃ W' Tt' Tf' Te' Td' ts' Ks' Ke' Km' Kr' Kd' kh' Rt' Io' If' Iw' Id' mi' Pf' Pw' Pt' Pi' Pd' pn' Hf' Hw' Hi' Ht', m_X8_take 1 d2 Rs F Lt Re Ro C1w C1a na al nt tp nf fs nw W C1s C1o Tt Tf Te Td ts Ks Ke Km Kr Kd kh p0 = some (r, 1, W', Tt', Tf', Te', Td', ts', Ks', Ke', Km', Kr', Kd', kh') ∧ m_X9_take O E C Tk Cw Cs Wo Ih 1 Rt m2 Io If Iw Id mi Pf Pw Pt Pi Pd pn Hf Hw Hi Ht p0 = some (r, Rt', 1, Io', If', Iw', Id', mi', Pf', Pw', Pt', Pi', Pd', pn', Hf', Hw', Hi', Ht') ∧ ITk no sz el n w Tt' Tf' Te' Td' ts' Io' If' Iw' Id' mi' := by
  obtain ⟨n1, Ev, Hc, c1, c2, c3, c4, c5, c6⟩ := P
  have hn : n ≤ 40 := Ev.2.1
  have hno : no ≤ 30 := H.1.2.1
  have hG : RG Rs Re (nI no) no sz el := by have := H.1; rw [← this.1]; exact this
  have hM : RG C E (nI no) no sz el := by have := H.2.1; rw [← this.1]; exact this
  have hK := TKS_TK hM c5
  have hro := H.2.2.2.2.2.2
  have hpt : ∀ o, o < no → ∃ e, e < sz o ∧ ¬ el o e = 95 := fun o ho => (hro o ho).1
  have hs : ∀ o, o < no → 1 ≤ sz o ∧ (el o 0 = 95 → 2 ≤ sz o) := fun o ho => ⟨(hG.2.2 o ho).2.1, (rowOK_hs hG hro o ho).1⟩
  have hA := Ev.2.2.2.2.2.1
  have hAL := (Hc 0 n (by omega) (Nat.le_refl _) trivial).1
  have hALb : AL no (atN no sz el w) (TT no sz el w (atN no sz el w) (tkc ar hm wy sz el)) 0 n ≤ 1000000000 := cap_le _
  have hhv := hv_AL (at0 := (atN no sz el w)) (T := (TT no sz el w (atN no sz el w) (tkc ar hm wy sz el))) hK hno (i := 0) (j := n)
  have hcls : m_X0_all na al 0 (nI n) = some (nI (AL no (atN no sz el w) (TT no sz el w (atN no sz el w) (tkc ar hm wy sz el)) 0 n)) := by
    have := allC_ok (al := al) hn hA.1 hA.2 (i := 0) (j := n) (by omega) (Nat.le_refl _)
    rw [hAL] at this
    exact this
  have href : m_X9_holeAt Ih 0 0 0 (nI n) = some (nI (AL no (atN no sz el w) (TT no sz el w (atN no sz el w) (tkc ar hm wy sz el)) 0 n)) := by
    have := holeAt_ok (Ih := Ih) (c := 0) (t := 0) (i := 0) (l := n) (by omega) (by omega) (by omega) (by omega)
    have hI := (c6 0 n (by omega) (Nat.le_refl _) trivial).2 0 (by omega)
    rw [Nat.sub_zero] at hI
    rw [hI, hhv] at this
    exact this
  have hg : ∀ r : Option (Int32 × (Nat → Int64) × Int32 × (Nat → Int32) × (Nat → Int32) × (Nat → Int32) × (Nat → Int32) × Int32 × (Nat → Int32) × (Nat → Int32) × (Nat → Int32) × (Nat → Int32) × (Nat → Int32) × Int32 × (Nat → Int32) × (Nat → Int32) × (Nat → Int32) × (Nat → Int32)), gd 0 2 r = r := fun r => gd_nI (i := 0) (by omega) (by omega)
  have hC' : Cs (0 : Int32).toNatClampNeg = nI n := c3
  unfold m_X8_take m_X9_take m_X0_size
  rw [if_neg (show ¬ (1 : Int32) = 0 by decide), if_neg (show ¬ (1 : Int32) = 0 by decide), hg, hC', href, c1, ob_i, hcls, ob_i, ob_i]
  rcases pk_ix p0 (show AL no (atN no sz el w) (TT no sz el w (atN no sz el w) (tkc ar hm wy sz el)) 0 n < 2 ^ 31 by omega) with z | z | ⟨k, hk, rfl⟩
  · rw [if_pos z, if_pos z]; exact ⟨_, Or.inl ⟨rfl, rfl⟩⟩
  · by_cases z0 : p0 < 0
    · rw [if_pos z0, if_pos z0]; exact ⟨_, Or.inl ⟨rfl, rfl⟩⟩
    · obtain ⟨j, hj, rfl⟩ := nI_of z0
      rw [nI_le' (by omega) hj] at z
      rw [if_neg z0, if_neg z0, if_neg (show ¬ nI j < nI (AL no (atN no sz el w) (TT no sz el w (atN no sz el w) (tkc ar hm wy sz el)) 0 n) by rw [nI_lt' hj (by omega)]; omega), if_neg (show ¬ nI j < nI (AL no (atN no sz el w) (TT no sz el w (atN no sz el w) (tkc ar hm wy sz el)) 0 n) by rw [nI_lt' hj (by omega)]; omega)]
      exact ⟨_, Or.inl ⟨rfl, rfl⟩⟩
  · have hp := nI_pos (show k < 2 ^ 31 by omega)
    have hlt : nI k < nI (AL no (atN no sz el w) (TT no sz el w (atN no sz el w) (tkc ar hm wy sz el)) 0 n) := by rw [nI_lt' (by omega) (by omega)]; exact hk
    rw [if_neg hp, if_neg hp, if_pos hlt, if_pos hlt, hg]
    have hJ : ∀ J, J ∈ [((0 : Nat), n, 0, k, 0)] → vJ no sz el w (atN no sz el w) (tkc ar hm wy sz el) Tk n J := by
      intro J hJ
      have : J = (0, n, 0, k, 0) := by simpa using hJ
      subst this
      exact ⟨by show 0 < n; omega, Nat.le_refl _, Nat.zero_le _, by show k < hvN no _ Tk _ 0 0 n; rw [hhv]; exact hk⟩
    have hsw : sumw [((0 : Nat), n, 0, k, 0)] = n := by show n - 0 + 0 = n; omega
    obtain ⟨Ks', Ke', Km', Kr', Kd', W', Tt', Tf', Te', Td', u1, u2, u3⟩ := unfold_ok Ev Hc hK hpt 40 FU [(0, n, 0, k, 0)] [] (upd Ks 0 0) (upd Ke 0 (nI n)) (upd Km 0 (-1)) (upd Kr 0 (nI k)) (upd Kd 0 0) W Tt Tf Te Td ⟨⟨pk_us, pk_us, fun p _ => by rw [show (0 + [].length : Nat) = 0 from rfl, pk_us]; show bt' (-1) p = bt' (Tk 0) p; rw [hK.1], pk_us, pk_us⟩, trivial⟩ hJ (by rw [hsw]; show 0 + n ≤ 40; omega) (by rw [hsw]; omega) (by rw [hsw, FU_v]; omega) (fun q it hq => absurd (show ([] : List It)[q]? = some it from hq) (by simp))
    obtain ⟨Rt', Io', If', Iw', Id', Pf', Pw', Pt', Pi', Pd', Hf', Hw', Hi', Ht', v1, v2⟩ := take59_ok (Cs := Cs) (ip := 1) hM hs hpt hK hn (Cw := Cw) (by intro q hq; rw [Nat.mul_zero, Nat.zero_add]; exact c4 q hq) (fun _ => rfl) c6 40 FU [(0, n, 0, k, 0)] [] Rt m2 Io If Iw Id (upd Pf 0 0) (upd Pw 0 (nI n)) (upd Pt 0 0) (upd Pi 0 (nI k)) (upd Pd 0 0) Hf Hw Hi Ht ⟨⟨pk_us, by show upd Pw 0 (nI n) 0 = nI (n - 0); rw [pk_us, Nat.sub_zero], pk_us, pk_us, pk_us⟩, trivial⟩ hJ (by rw [hsw]; show 0 + n ≤ 40; omega) (by rw [hsw]; omega) (by rw [hsw, FU_v]; omega) (fun q it hq => absurd (show ([] : List It)[q]? = some it from hq) (by simp))
    obtain ⟨Fu, w1⟩ := run_ok (w := w) (at0 := (atN no sz el w)) hK (n := n) hno hs hpt (fun q => atN_le q) 40 [(0, n, 0, k, 0)] hJ (by rw [hsw]; omega)
    rw [List.nil_append] at u1 u2 u3 v1 v2
    generalize run no sz el w (atN no sz el w) (tkc ar hm wy sz el) Tk 40 [(0, n, 0, k, 0)] = its at u1 u2 u3 v1 v2 w1
    have htre : tre no sz el w (atN no sz el w) Fu 0 n 0 its := by
      obtain ⟨c, r, e1, e2, e3⟩ := w1
      have e3 : r = [] := e3
      rw [e3, List.append_nil] at e1
      rw [e1]; exact e2
    have hr := tre_rng n1 htre
    have eput : m_X5_put Ks Ke Km Kr Kd 0 0 (nI n) (-1) (nI k) 0 = some (upd Ks 0 0, upd Ke 0 (nI n), upd Km 0 (-1), upd Kr 0 (nI k), upd Kd 0 0) := rfl
    have epush : m_X9_push Pf Pw Pt Pi Pd 0 0 (nI n) 0 (nI k) 0 = some (upd Pf 0 0, upd Pw 0 (nI n), upd Pt 0 0, upd Pi 0 (nI k), upd Pd 0 0, 1) := rfl
    unfold m_X5_unfold m_X7_empty m_X0_size
    rw [ob_i, ob_i, eput, ob_i, epush, ob_i]
    have u1 : m_X5_unfold_30 (nI no) (nI n) (nI no) Rs F Lt Re C1w C1a na al nt tp nf fs nw FU (upd Ks 0 0) (upd Ke 0 (nI n)) (upd Km 0 (-1)) (upd Kr 0 (nI k)) (upd Kd 0 0) 1 W Tt Tf Te Td 0 0 = _ := u1
    have v1 : m_X9_take_59 (nI no) 1 E C Tk Cw Cs Wo Ih FU Rt m2 Io If Iw Id 0 (upd Pf 0 0) (upd Pw 0 (nI n)) (upd Pt 0 0) (upd Pi 0 (nI k)) (upd Pd 0 0) 1 Hf Hw Hi Ht 0 = _ := v1
    dsimp only
    rw [H.1.1, H.2.1.1, c2, u1, v1, ob_i]
    dsimp only
    rw [operators_ok u2 u3 (fun it hit => by have := hr it hit; omega), ob_i]
    exact ⟨_, Or.inr ⟨_, _, _, _, _, _, _, _, _, _, _, _, _, _, _, _, _, _, _, _, _, _, _, _, _, _, _, _, rfl, rfl, its, Fu, u3, u2, rfl, v2, rfl, htre⟩⟩
end TAKE
