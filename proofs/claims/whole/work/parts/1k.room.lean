/-! rows that grow: room and its potential -/
/-- what has been made for a row of length n that may come to m: at most so many slots -/
def phi (n m : Nat) : Nat := if n = m then 3 * m else 2 * n
theorem rL_ok {n d m : Nat} (hn : n ≤ m) (hd : d ≤ m) (hm : m ≤ 65536) : ∃ r, rL n (nI d) (nI m) = nI r ∧ d ≤ r ∧ r ≤ m ∧ (2 * n ≤ r ∨ r = m) := by
  unfold rL
  rw [i_2, pk_mul]
  have e1 : ∃ k, (if nI (2 * n) < nI m then nI (2 * n) else nI m) = nI k ∧ k ≤ m ∧ (2 * n ≤ k ∨ k = m) := by
    by_cases h1 : 2 * n < m
    · exact ⟨2 * n, if_pos (by rw [nI_lt' (by omega) (by omega)]; exact h1), by omega, Or.inl (Nat.le_refl _)⟩
    · exact ⟨m, if_neg (by rw [nI_lt' (by omega) (by omega)]; exact h1), by omega, Or.inr rfl⟩
  obtain ⟨k, e1, e2, e3⟩ := e1
  rw [e1]
  by_cases h2 : d < k
  · exact ⟨k, if_pos (by rw [nI_lt' (by omega) (by omega)]; exact h2), by omega, by omega, e3⟩
  · exact ⟨d, if_neg (by rw [nI_lt' (by omega) (by omega)]; exact h2), by omega, by omega, by rcases e3 with e3 | e3 <;> omega⟩
theorem roomFor_ok {n d m : Nat} (row : Nat → Int32) (hn : n ≤ m) (hd : d ≤ m) (hm : m ≤ 65536) : ∃ n' f', m_X0_roomFor n row (nI d) (nI m) = some (n', f') ∧ d ≤ n' ∧ n' ≤ m ∧ rS n (nI d) (nI m) + phi n m ≤ phi n' m := by
  obtain ⟨r, h1, h2, h3, h4⟩ := rL_ok hn hd hm
  unfold m_X0_roomFor rS
  rw [h1]
  by_cases q : n < d
  · have q' : nI n < nI d := by rw [nI_lt' (by omega) (by omega)]; exact q
    rw [if_pos q', if_pos q', nI_cl (by omega)]
    refine ⟨r, fun _ => 0, ?_, h2, h3, ?_⟩
    · unfold gm
      rw [if_neg (by rw [i_0, nI_lt' (by omega) (by omega), nI_cl (by omega)]; omega)]
    · unfold phi
      rcases h4 with h4 | h4
      · split <;> split <;> omega
      · subst h4; split <;> split <;> omega
  · have q' : ¬ nI n < nI d := by rw [nI_lt' (by omega) (by omega)]; exact q
    rw [if_neg q', if_neg q']
    exact ⟨n, row, rfl, by omega, hn, by omega⟩
def phi4 (na nt nf nw : Nat) : Nat := phi na 820 + phi nt 24600 + phi nf 24600 + phi nw 12300
theorem span0_ok {n : Nat} (hn : n ≤ 40) : m_X0_span 0 (nI n + 1) = some (nI (tri (n + 1))) := by
  rw [i_0, nI_1, span_ok (by omega) (by omega) (by omega)]
  rfl
theorem makeRoom_ok {n no na nt nf nw : Nat} (hn : n ≤ 40) (hno : no ≤ 30) (ha : na ≤ 820) (ht : nt ≤ 24600) (hf : nf ≤ 24600) (hw : nw ≤ 12300) (A Tp Fs W : Nat → Int32) :
    ∃ na' A' nt' Tp' nf' Fs' nw' W', m_X0_makeRoom (q_room na nt nf nw (nI n) (nI no)) na A nt Tp nf Fs nw W (nI n) (nI no) = some (na', A', nt', Tp', nf', Fs', nw', W') ∧ (tri (n + 1) ≤ na' ∧ na' ≤ 820) ∧ (tri (n + 1) * no ≤ nt' ∧ nt' ≤ 24600) ∧ (tri (n + 1) * no ≤ nf' ∧ nf' ≤ 24600) ∧ (no * 10 * (n + 1) ≤ nw' ∧ nw' ≤ 12300) ∧ q_room na nt nf nw (nI n) (nI no) + phi4 na nt nf nw ≤ phi4 na' nt' nf' nw' := by
  have h1 := tri_42 (j := n + 1) (by omega)
  have h2 : tri (n + 1) * no ≤ 820 * 30 := Nat.mul_le_mul h1 hno
  have h3 : no * 10 * (n + 1) ≤ 300 * 41 := Nat.mul_le_mul (by omega) (by omega)
  have e3 : ((30 * 10) * 41 : Int32) = nI 12300 := by decide
  obtain ⟨na', A', a1, a2, a3, a4⟩ := roomFor_ok A ha h1 (by omega)
  obtain ⟨nt', Tp', b1, b2, b3, b4⟩ := roomFor_ok Tp ht (show tri (n + 1) * no ≤ 24600 by omega) (by omega)
  obtain ⟨nf', Fs', c1, c2, c3, c4⟩ := roomFor_ok Fs hf (show tri (n + 1) * no ≤ 24600 by omega) (by omega)
  obtain ⟨nw', W', d1, d2, d3, d4⟩ := roomFor_ok W hw (show no * 10 * (n + 1) ≤ 12300 by omega) (by omega)
  have eq : q_room na nt nf nw (nI n) (nI no) = 0 + rS na (nI (tri (n + 1))) (nI 820) + rS nt (nI (tri (n + 1) * no)) (nI 24600) + rS nf (nI (tri (n + 1) * no)) (nI 24600) + rS nw (nI (no * 10 * (n + 1))) (nI 12300) := by
    unfold q_room
    rw [span0_ok hn]
    show 0 + rS na (nI (tri (n + 1))) 820 + rS nt (nI (tri (n + 1)) * nI no) 24600 + rS nf (nI (tri (n + 1)) * nI no) 24600 + rS nw ((nI no * 10) * (nI n + 1)) ((30 * 10) * 41) = _
    rw [e3, pk_mul, i_10, pk_mul, nI_1, pk_mul, i_820, i_24600]
  refine ⟨na', A', nt', Tp', nf', Fs', nw', W', ?_, ⟨a2, a3⟩, ⟨b2, b3⟩, ⟨c2, c3⟩, ⟨d2, d3⟩, by rw [eq]; unfold phi4; omega⟩
  rw [eq]
  unfold m_X0_makeRoom
  rw [span0_ok hn, ob_i, e3, pk_mul, i_10, pk_mul, nI_1, pk_mul, i_820, i_24600, a1, ob_i, gs_ok (by omega), b1, ob_i, gs_ok (by omega), c1, ob_i, gs_ok (by omega), d1, ob_i, gs_ok (by omega)]
section FILL2
variable {R_size : Nat → Int32} {R_elements : Nat → Int64} {F Lt : Nat → Int32} {no : Nat} {sz : Nat → Nat} {el : Nat → Nat → Int64}
/-- the grammar as the charts need it -/
def GrOK (F Lt : Nat → Int32) (no : Nat) (sz : Nat → Nat) (el : Nat → Nat → Int64) (tk : Nat → Nat → Nat → Bool) : Prop :=
  (∀ o, o < no → (el o 0 = 95 → 2 ≤ sz o) ∧ (el o (sz o - 1) = 95 → 2 ≤ sz o)) ∧ (∀ o, o < no → ∀ e, e < sz o → e ≠ 0 → e + 1 ≠ sz o → ∀ p, p < no → tk o e p = true) ∧ (∀ o, o < no → mkB (F o) no (tk o 0)) ∧ (∀ o, o < no → 2 ≤ sz o → mkB (Lt o) no (tk o (sz o - 1)))
def atN (no : Nat) (sz : Nat → Nat) (el : Nat → Nat → Int64) (w : Nat → Int64) (i : Nat) : Nat := if atomB no sz el (w i) = true then 1 else 0
theorem atN_le {w : Nat → Int64} (i : Nat) : atN no sz el w i ≤ 1 := by unfold atN; split <;> omega
set_option maxHeartbeats 1000000 in
theorem fill_ok (G : RG R_size R_elements (nI no) no sz el) {tk : Nat → Nat → Nat → Bool} (Q : GrOK F Lt no sz el tk) {n na nt nf nw n_row : Nat} (hn : n ≤ 40) (hr : n ≤ n_row) (hrb : n_row < 2 ^ 30) (ha : na ≤ 820) (ht : nt ≤ 24600) (hf : nf ≤ 24600) (hw : nw ≤ 12300) (C_words : Nat → Int64) (C_atom A Tp Fs W : Nat → Int32) (x y : Int32) (row : Nat → Int64) :
    ∃ Cw Ca na' A' nt' Tp' nf' Fs' nw' W', m_X0_fill (q_room na nt nf nw (nI n) (nI no)) C_words C_atom na A nt Tp nf Fs nw W x y R_size F Lt R_elements (nI no) n_row row (nI n) = some (Cw, Ca, na', A', nt', Tp', nf', Fs', nw', W', nI n, nI no) ∧ (na' ≤ 820 ∧ nt' ≤ 24600 ∧ nf' ≤ 24600 ∧ nw' ≤ 12300) ∧ CEnv R_size R_elements F Lt no sz el row (atN no sz el row) tk n Cw Ca na' nt' nf' nw' ∧ chOK no sz el row (atN no sz el row) tk n A' Tp' Fs' (fun _ _ => True) ∧ q_room na nt nf nw (nI n) (nI no) + phi4 na nt nf nw ≤ phi4 na' nt' nf' nw' := by
  have hno : no ≤ 30 := G.2.1
  obtain ⟨na', A', nt', Tp', nf', Fs', nw', W', m1, m2, m3, m4, m5, m6⟩ := makeRoom_ok hn hno ha ht hf hw A Tp Fs W
  unfold m_X0_fill
  show ∃ Cw Ca na' A' nt' Tp' nf' Fs' nw' W', Option.bind (m_X0_makeRoom (q_room na nt nf nw (nI n) (nI no)) na A nt Tp nf Fs nw W (nI n) (nI no)) _ = _ ∧ _
  rw [m1, ob_i]
  dsimp only
  generalize q_room na nt nf nw (nI n) (nI no) = S at m1 m6 ⊢
  have key := lpP (fun f k (s : (Nat → Int64) × (Nat → Int32)) => m_X0_fill_22 S (nI no) na' nt' nf' nw' R_size F Lt R_elements n_row row f s.1 s.2 A' Tp' Fs' W' (nI n) (nI no) (nI k)) (fun r => ∃ Cw Ca na' A' nt' Tp' nf' Fs' nw' W', r = some (Cw, Ca, na', A', nt', Tp', nf', Fs', nw', W', nI n, nI no) ∧ (na' ≤ 820 ∧ nt' ≤ 24600 ∧ nf' ≤ 24600 ∧ nw' ≤ 12300) ∧ CEnv R_size R_elements F Lt no sz el row (atN no sz el row) tk n Cw Ca na' nt' nf' nw' ∧ chOK no sz el row (atN no sz el row) tk n A' Tp' Fs' (fun _ _ => True) ∧ S + phi4 na nt nf nw ≤ phi4 na' nt' nf' nw') n (fun k s => ∀ i, i < k → s.1 i = row i ∧ s.2 i = nI (atN no sz el row i)) ?_ ?_ n FU 0 (C_words, C_atom) (by omega) (by rw [FU_v]; omega) (fun i h => by omega)
  · exact key
  · intro f s hs
    have E : CEnv R_size R_elements F Lt no sz el row (atN no sz el row) tk n s.1 s.2 na' nt' nf' nw' := ⟨G, hn, fun k hk => (hs k hk).1, fun k hk => (hs k hk).2, atN_le, ⟨m2.1, by omega⟩, ⟨m3.1, by omega⟩, ⟨m4.1, by omega⟩, ⟨m5.1, by omega⟩, Q.1, Q.2.1, Q.2.2.1, Q.2.2.2⟩
    obtain ⟨al, tp, fs, V, h1, h2⟩ := fill81_ok E S n_row row (nI no) A' Tp' Fs' W'
    refine ⟨s.1, s.2, na', al, nt', tp, nf', fs, nw', V, ?_, ⟨m2.2, m3.2, m4.2, m5.2⟩, E, h2, m6⟩
    show (if nI n ≤ nI n then _ else _) = _
    rw [if_pos (by rw [nI_le' (by omega) (by omega)]; omega)]
    exact h1
  · intro f k s hk hs
    right
    refine ⟨(vp_updL s.1 k (row k), upd s.2 k (nI (atN no sz el row k))), ?_, ?_⟩
    · have e22 : m_X0_fill_22 S (nI no) na' nt' nf' nw' R_size F Lt R_elements n_row row (f + 1) s.1 s.2 A' Tp' Fs' W' (nI n) (nI no) (nI k) = m_X0_fill_22 S (nI no) na' nt' nf' nw' R_size F Lt R_elements n_row row (f + 1) s.1 s.2 A' Tp' Fs' W' (nI n) (nI no) (nI k) := rfl
      conv at e22 => rhs; unfold m_X0_fill_22
      rw [if_neg (by rw [nI_le' (by omega) (by omega)]; omega), gd_nI (by omega) (by omega), gd_nI (by omega) (by omega), gd_nI (by omega) (by omega), gd_nI (by omega) (by omega), nI_cl (by omega), isPart_ok G (row k), ob_i] at e22
      have t72 : ∀ v : Int32, m_X0_fill_72 S (nI no) na' nt' nf' nw' R_size F Lt R_elements n_row row (m_X0_fill_22 S (nI no) na' nt' nf' nw' R_size F Lt R_elements n_row row f) (vp_updL s.1 k (row k)) s.2 A' Tp' Fs' W' (nI n) (nI no) (nI k) v (nI k) = m_X0_fill_22 S (nI no) na' nt' nf' nw' R_size F Lt R_elements n_row row f (vp_updL s.1 k (row k)) (upd s.2 k v) A' Tp' Fs' W' (nI n) (nI no) (nI (k + 1)) := by
        intro v
        unfold m_X0_fill_72
        rw [gd_nI (by omega) (by omega), nI_cl (by omega), nI_1]
      have t67 : m_X0_fill_67 S (nI no) na' nt' nf' nw' R_size F Lt R_elements n_row row (m_X0_fill_22 S (nI no) na' nt' nf' nw' R_size F Lt R_elements n_row row f) (vp_updL s.1 k (row k)) s.2 A' Tp' Fs' W' (nI n) (nI no) (nI k) (nI k) = m_X0_fill_22 S (nI no) na' nt' nf' nw' R_size F Lt R_elements n_row row f (vp_updL s.1 k (row k)) (upd s.2 k 0) A' Tp' Fs' W' (nI n) (nI no) (nI (k + 1)) := by
        unfold m_X0_fill_67
        exact t72 0
      rw [t67, t72] at e22
      refine e22.trans ?_
      unfold atN atomB
      by_cases q : row k = 95
      · rw [if_pos ((lg_cmp_eq _ _).mpr q), if_neg (by simp [q])]; rfl
      · rw [if_neg (fun z => q ((lg_cmp_eq _ _).mp z))]
        by_cases q2 : partB no sz el (row k) = true
        · rw [if_neg (by rw [bi_eq0]; simpa using q2), if_neg (by simp [q2])]; rfl
        · rw [if_pos (by rw [bi_eq0]; exact q2), if_pos (by simpa [q] using q2)]; rfl
    · intro i hi
      by_cases q : i = k
      · subst q
        exact ⟨pk_uLs, pk_us⟩
      · show vp_updL s.1 k _ i = _ ∧ upd s.2 k _ i = _
        rw [pk_uLn q, pk_un q]
        exact hs i (by omega)
end FILL2
