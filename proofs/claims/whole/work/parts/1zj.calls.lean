/-! THE TWO SIDES: the plain calls -/
def TKS (no : Nat) (sz : Nat → Nat) (el : Nat → Nat → Int64) (wy hm : Nat → Nat) (ar : Nat → Nat → Bool) (Tk : Nat → Int32) : Prop := Tk 0 = -1 ∧ ∀ o, o < no → mkB (Tk (1 + 2 * o)) no (tkF ar hm wy sz el o) ∧ mkB (Tk (2 + 2 * o)) no (tkL ar hm wy sz el o)
/-- what is parsed -/
def IPd (no : Nat) (sz : Nat → Nat) (el : Nat → Nat → Int64) (wy hm : Nat → Nat) (ar : Nat → Nat → Bool) (Rs : Nat → Int32) (Re : Nat → Int64) (F Lt : Nat → Int32) (C1w : Nat → Int64) (C1a : Nat → Int32) (na : Nat) (al : Nat → Int32) (nt : Nat) (tp : Nat → Int32) (nf : Nat) (fs : Nat → Int32) (nw : Nat) (C1s C1o : Int32) (Tk : Nat → Int32) (Cw : Nat → Int64) (Cs Wo Ih : Nat → Int32) (n : Nat) (w : Nat → Int64) : Prop := 1 ≤ n ∧ CEnv Rs Re F Lt no sz el w (atN no sz el w) (tkc ar hm wy sz el) n C1w C1a na nt nf nw ∧ chOK no sz el w (atN no sz el w) (tkc ar hm wy sz el) n al tp fs (fun _ _ => True) ∧ C1s = nI n ∧ C1o = nI no ∧ Cs 0 = nI n ∧ (∀ k, k < n → Cw k = w k) ∧ TKS no sz el wy hm ar Tk ∧ mcOK no sz el w (atN no sz el w) (tkc ar hm wy sz el) Tk n 0 Wo Ih (fun _ _ => True)
/-- what is taken -/
def ITk (no : Nat) (sz : Nat → Nat) (el : Nat → Nat → Int64) (n : Nat) (w : Nat → Int64) (Tt Tf Te Td : Nat → Int32) (ts : Int32) (Io If Iw Id : Nat → Int32) (mi : Int32) : Prop := ∃ its Fu, its.length ≤ 40 ∧ itT Tt Tf Te Td its ∧ ts = nI its.length ∧ itM Io If Iw Id its ∧ mi = nI its.length ∧ tre no sz el w (atN no sz el w) Fu 0 n 0 its
section CALLS
variable {nn no : Nat} {sz : Nat → Nat} {el : Nat → Nat → Int64} {wy hm : Nat → Nat} {ar : Nat → Nat → Bool} {Rt Ti Rs Rh Rw F Lt C Nd Wy : Nat → Int32} {Re E : Nat → Int64} {Rn Ra Mn Ro O : Int32}
theorem TKS_TK {Tk : Nat → Int32} (G : RG C E O no sz el) (h : TKS no sz el wy hm ar Tk) : TKOK no sz (tkc ar hm wy sz el) Tk := TKOK_of G h.1 h.2
theorem TKS_eq {Tk Tk' : Nat → Int32} (hno : no ≤ 30) (h : TKS no sz el wy hm ar Tk) (h' : TKS no sz el wy hm ar Tk') {t : Nat} (ht : t ≤ 2 * no) : Tk t = Tk' t := by
  by_cases z : t = 0
  · rw [z, h.1, h'.1]
  · obtain ⟨o, ho⟩ : ∃ o, t = 1 + 2 * o ∨ t = 2 + 2 * o := ⟨(t - 1) / 2, by omega⟩
    rcases ho with ho | ho
    · rw [ho]
      exact mkB_uniq (h.2 o (by omega)).1 (h'.2 o (by omega)).1
    · rw [ho]
      exact mkB_uniq (h.2 o (by omega)).2 (h'.2 o (by omega)).2
theorem about_ok (H : IO no sz el wy hm Rs Rh Rw Re Ro O E C Nd Wy) (p0 p1 : Int32) : ∃ r, m_X8_about Rs Rh Rw Re Ro p0 p1 = some r ∧ m_X9_about O E C Nd Wy p0 p1 = some r := by
  obtain ⟨hG, hM, hw, hw', hh, hh', hro⟩ := H
  have hno : no ≤ 30 := hG.2.1
  unfold m_X8_about m_X9_about m_X4_hasOperator
  rw [hG.1, hM.1]
  rcases pk_ix p0 (show no < 2 ^ 31 by omega) with h1 | h1 | ⟨o, ho, rfl⟩
  · rw [if_pos h1, if_pos h1, ob_i, if_pos rfl]
    exact ⟨_, rfl, rfl⟩
  · by_cases z : p0 < 0
    · rw [if_pos z, if_pos z, ob_i, if_pos rfl]
      exact ⟨_, rfl, rfl⟩
    · rw [if_neg z, if_neg z, if_pos h1, ob_i, if_pos rfl]
      obtain ⟨j, hj, rfl⟩ := nI_of z
      rw [nI_le' (by omega) hj] at h1
      rw [if_neg (by rw [nI_lt' hj (by omega)]; omega)]
      exact ⟨_, rfl, rfl⟩
  · have hp := nI_pos (show o < 2 ^ 31 by omega)
    rw [if_neg hp, if_neg hp, if_neg (by rw [nI_le' (by omega) (by omega)]; omega), ob_i, if_neg (show ¬ (1 : Int32) = 0 by decide), if_pos (show nI o < nI no by rw [nI_lt' (by omega) (by omega)]; omega)]
    obtain ⟨g1, g2, g3, g4⟩ := hG.2.2 o ho
    obtain ⟨k1, k2, k3, k4⟩ := hM.2.2 o ho
    unfold m_X4_home m_X4_way
    rw [gd_nI (by omega) (by omega), gd_nI (by omega) (by omega), gd_nI (by omega) (by omega), gd_nI (by omega) (by omega), gd_nI (by omega) (by omega), nI_cl (by omega), size_ok (by omega), kind_ok hG ho, mShape_ok hM ho, ob_i, ob_i, ob_i, ob_i, g1, k1, (hh o ho).1, (hh' o ho).1, (hw o ho).1, (hw' o ho).1]
    obtain ⟨c, c1, c2, c3⟩ := holes_ok hG ho
    have hl := lpP (σ := Nat) (fun n e s => m_X9_about_67 (nI no) E C Nd Wy n (nI o) (nI s) (nI e)) (fun r => r = some (nI c)) (sz o) (fun e s => s = ((List.range e).filter (fun e => el o e == 95)).length)
      (fun n s hs => by
        have e0 : m_X9_about_67 (nI no) E C Nd Wy (n + 1) (nI o) (nI s) (nI (sz o)) = m_X9_about_67 (nI no) E C Nd Wy (n + 1) (nI o) (nI s) (nI (sz o)) := rfl
        conv at e0 => rhs; unfold m_X9_about_67
        rw [gd_nI (by omega) (by omega), nI_cl (by omega), k1, if_pos (by rw [nI_le' (by omega) (by omega)]; omega)] at e0
        rw [e0, c3, hs])
      (fun n e s he hs => by
        right
        have e0 : m_X9_about_67 (nI no) E C Nd Wy (n + 1) (nI o) (nI s) (nI e) = m_X9_about_67 (nI no) E C Nd Wy (n + 1) (nI o) (nI s) (nI e) := rfl
        conv at e0 => rhs; unfold m_X9_about_67
        unfold m_X9_about_94 at e0
        rw [gd_nI (by omega) (by omega), nI_cl (by omega), k1, if_neg (by rw [nI_le' (by omega) (by omega)]; omega), mHole_ok hM ho he, ob_i, nI_1] at e0
        by_cases q : el o e = 95
        · refine ⟨s + 1, e0.trans ?_, ?_⟩
          · rw [if_neg (by rw [bi_eq0]; simpa using q), nI_1]
          · rw [List.range_succ, List.filter_append, List.length_append, ← hs]
            simp [q]
        · refine ⟨s, e0.trans ?_, ?_⟩
          · rw [if_pos (by rw [bi_eq0]; exact q), i_0, nI_add]; rfl
          · rw [List.range_succ, List.filter_append, List.length_append, ← hs]
            simp [q])
      (sz o) FU 0 0 (by omega) (by rw [FU_v]; omega) rfl
    have hl : m_X9_about_67 (nI no) E C Nd Wy FU (nI o) 0 0 = some (nI c) := hl
    rw [c2, hl, ob_i]
    split
    · exact ⟨_, rfl, rfl⟩
    · split
      · exact ⟨_, rfl, rfl⟩
      · split
        · exact ⟨_, rfl, rfl⟩
        · split
          · exact ⟨_, rfl, rfl⟩
          · split
            · exact ⟨_, rfl, rfl⟩
            · exact ⟨_, rfl, rfl⟩
theorem clear_ok (G : IG nn ar Rt Rn Ra Mn Ti) (H : IO no sz el wy hm Rs Rh Rw Re Ro O E C Nd Wy) (d1 d2 m1 m2 : Int32) : ∃ r Rt' Ti', m_X8_clear d1 d2 Rt Rn Ra Ro = some (r, 0, 0, Rt', 0, 0, 0) ∧ m_X9_clear Mn Ti O m1 m2 = some (r, 0, Ti', 0, 0, 0) ∧ IG 0 (fun _ _ => false) Rt' 0 0 0 Ti' := by
  obtain ⟨g1, g2, g3, g4, g5, g6, g7⟩ := G
  unfold m_X8_clear m_X4_operators m_X4_empty m_X8_forgetParsed m_J7_fill_53178
  have fl := lpP (σ := Nat → Int32) (fun k q s => m_J7_fill_53178_5 16 k s 0 (nI q) (nI 16)) (fun r => ∃ s', r = some s' ∧ ∀ q, q < 16 → s' q = 0) 16 (fun q s => ∀ q', q' < q → s q' = 0)
    (fun k s hs => by
      have e0 : m_J7_fill_53178_5 16 (k + 1) s 0 (nI 16) (nI 16) = m_J7_fill_53178_5 16 (k + 1) s 0 (nI 16) (nI 16) := rfl
      conv at e0 => rhs; unfold m_J7_fill_53178_5
      rw [if_pos (by decide)] at e0
      exact ⟨s, e0, hs⟩)
    (fun k q s hq hs => by
      right
      have e0 : m_J7_fill_53178_5 16 (k + 1) s 0 (nI q) (nI 16) = m_J7_fill_53178_5 16 (k + 1) s 0 (nI q) (nI 16) := rfl
      conv at e0 => rhs; unfold m_J7_fill_53178_5
      rw [if_neg (by rw [nI_le' (by omega) (by omega)]; omega), gd_nI (by omega) (by omega), nI_cl (by omega), nI_1] at e0
      refine ⟨_, e0, fun q' hq' => ?_⟩
      by_cases z : q' = q
      · rw [z, pk_us]
      · rw [pk_un z]; exact hs q' (by omega))
    16 FU 0 Rt (by omega) (by rw [FU_v]; omega) (fun q' h => by omega)
  obtain ⟨Rt', f1, f2⟩ := fl
  have f1 : m_J7_fill_53178_5 16 FU Rt 0 0 (nI 16) = some Rt' := f1
  have cl := lpP (σ := Nat → Int32) (fun k q s => m_X9_clear_17 k 0 s 0 m1 m2 O (nI q)) (fun r => ∃ s', r = some (O, 0, s', 0, 0, 0) ∧ ∀ q, q < 256 → s' q = 0) 256 (fun q s => ∀ q', q' < q → s q' = 0)
    (fun k s hs => by
      have e0 : m_X9_clear_17 (k + 1) 0 s 0 m1 m2 O (nI 256) = m_X9_clear_17 (k + 1) 0 s 0 m1 m2 O (nI 256) := rfl
      conv at e0 => rhs; unfold m_X9_clear_17
      rw [if_pos (by decide)] at e0
      exact ⟨s, e0, hs⟩)
    (fun k q s hq hs => by
      right
      have e0 : m_X9_clear_17 (k + 1) 0 s 0 m1 m2 O (nI q) = m_X9_clear_17 (k + 1) 0 s 0 m1 m2 O (nI q) := rfl
      conv at e0 => rhs; unfold m_X9_clear_17
      rw [if_neg (by rw [i_256, nI_le' (by omega) (by omega)]; omega), gd_nI (by omega) (by omega), nI_cl (by omega), nI_1, nar_0] at e0
      refine ⟨_, e0, fun q' hq' => ?_⟩
      by_cases z : q' = q
      · rw [z, pk_us]
      · rw [pk_un z]; exact hs q' (by omega))
    256 FU 0 Ti (by omega) (by rw [FU_v]; omega) (fun q' h => by omega)
  obtain ⟨Ti', c1, c2⟩ := cl
  have c1 : m_X9_clear Mn Ti O m1 m2 = some (O, 0, Ti', 0, 0, 0) := c1
  rw [f1, ob_i, ob_i, ob_i, ob_i]
  refine ⟨Ro, Rt', Ti', rfl, ?_, rfl, rfl, by omega, fun a b ha hb => ?_, fun a b ha hb => ?_, fun x y h => absurd h (show ¬ false = true by decide), ?_⟩
  · rw [c1, H.1.1, H.2.1.1]
  · rw [f2 a ha]; exact bt_0 b
  · rw [c2 _ (by omega), bi_f (show ¬ false = true by decide)]
  · have : cnt (arB (fun _ _ => false)) 256 = 0 := by
      have z : ∀ n, cnt (arB (fun _ _ => false)) n = 0 := by
        intro n
        induction n with
        | zero => rfl
        | succ n ih => show cnt _ n + (if false = true then 1 else 0) = 0; rw [ih]; rfl
      exact z 256
    rw [this]; rfl
theorem IO_0 {Rs Rh Rw C Nd Wy : Nat → Int32} {Re E : Nat → Int64} : IO 0 sz el wy hm Rs Rh Rw Re 0 0 E C Nd Wy := ⟨⟨rfl, by omega, fun o ho => by omega⟩, ⟨rfl, by omega, fun o ho => by omega⟩, fun o ho => by omega, fun o ho => by omega, fun o ho => by omega, fun o ho => by omega, fun o ho => by omega⟩
theorem IF_0 {F Lt : Nat → Int32} : IF 0 sz el wy hm ar F Lt := fun o ho => by omega
theorem count_ok (G : IG nn ar Rt Rn Ra Mn Ti) (H : IO no sz el wy hm Rs Rh Rw Re Ro O E C Nd Wy) {d1 m1 C1s : Int32} {Cs : Nat → Int32} (hd : (d1 = 0 ∧ m1 = 0) ∨ (d1 = 1 ∧ m1 = 1 ∧ C1s = Cs 0)) (p : Int32) : ∃ r, m_X8_count d1 Rn Ra Ro C1s p = some r ∧ m_X9_count Mn Ti O Cs m1 p = some r := by
  obtain ⟨g1, g2, g3, g4, g5, g6, g7⟩ := G
  unfold m_X8_count m_X9_count m_X4_nodes m_X4_operators m_X4_arrows m_X0_size
  have hl := lpP (σ := Nat) (fun k q s => m_X9_count_46 Mn O m1 Ti Cs k (nI s) (nI q)) (fun r => r = some Ra) 256 (fun q s => s = cnt (arB ar) q)
    (fun k s hs => by
      have e0 : m_X9_count_46 Mn O m1 Ti Cs (k + 1) (nI s) (nI 256) = m_X9_count_46 Mn O m1 Ti Cs (k + 1) (nI s) (nI 256) := rfl
      conv at e0 => rhs; unfold m_X9_count_46
      rw [if_pos (by decide)] at e0
      rw [e0, g7, hs])
    (fun k q s hq hs => by
      right
      have e0 : m_X9_count_46 Mn O m1 Ti Cs (k + 1) (nI s) (nI q) = m_X9_count_46 Mn O m1 Ti Cs (k + 1) (nI s) (nI q) := rfl
      conv at e0 => rhs; unfold m_X9_count_46
      unfold m_X9_count_68 at e0
      have ht : Ti q = bi (arB ar q = true) := by
        have := g5 (q / 16) (q % 16) (by omega) (by omega)
        rw [show 16 * (q / 16) + q % 16 = q by omega] at this
        exact this
      rw [if_neg (by rw [i_256, nI_le' (by omega) (by omega)]; omega), gd_nI (by omega) (by omega), nI_cl (by omega), ht, nI_1] at e0
      refine ⟨_, e0.trans ?_, rfl⟩
      show _ = m_X9_count_46 Mn O m1 Ti Cs k (nI (cnt (arB ar) q + (if arB ar q = true then 1 else 0))) (nI (q + 1))
      by_cases z : arB ar q = true
      · rw [if_neg (by rw [bi_eq0]; simpa using z), if_pos z, hs, nI_1]
      · rw [if_pos (by rw [bi_eq0]; exact z), if_neg z, hs, i_0, nI_add])
    256 FU 0 0 (by omega) (by rw [FU_v]; omega) rfl
  have hl : m_X9_count_46 Mn O m1 Ti Cs FU 0 0 = some Ra := hl
  rw [hl, ob_i, ob_i, ob_i, ob_i, g1, g2, H.1.1, H.2.1.1]
  have hg : ∀ r : Option Int32, gd 0 2 r = r := fun r => gd_nI (i := 0) (by omega) (by omega)
  rw [hg]
  split
  · exact ⟨_, rfl, rfl⟩
  · split
    · exact ⟨_, rfl, rfl⟩
    · split
      · exact ⟨_, rfl, rfl⟩
      · split
        · rcases hd with ⟨h1, h2⟩ | ⟨h1, h2, h3⟩
          · rw [h1, h2, if_pos rfl]; exact ⟨_, rfl, rfl⟩
          · rw [h1, h2, if_neg (by decide), h3]; exact ⟨_, rfl, rfl⟩
        · exact ⟨_, rfl, rfl⟩
end CALLS
