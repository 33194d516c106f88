/-! written bytes: a word comes behind what is written -/
def byN (v : Int64) (k : Nat) : Nat := (v.toBitVec >>> (8 * k)).toNat % 256
theorem byN_lt (v : Int64) (k : Nat) : byN v k < 256 := Nat.mod_lt _ (by decide)
theorem rbit (v : Int64) {k i : Nat} (hk : k < 8) (hi : i < 8) : (v >>> ((8 * nI k).toInt64 &&& 63)).toInt32.toBitVec.getLsbD i = v.toBitVec.getLsbD (8 * k + i) := by
  obtain ⟨s1, s2⟩ := sh8 k hk
  show ((v.toBitVec.sshiftRight' ((((8 : Int32) * nI k).toInt64 &&& 63).toBitVec.smod 64)).signExtend 32).getLsbD i = _
  rw [s1, BitVec.getLsbD_signExtend, BitVec.sshiftRight']
  have : (BitVec.ofNat 64 (8 * k)).toNat = 8 * k := by simp; omega
  rw [this]
  simp only [show i < 32 by omega, show i < 64 by omega, decide_true, Bool.true_and, if_true]
  rw [BitVec.getLsbD_sshiftRight]
  simp [show 8 * k + i < 64 by omega, show i < 64 by omega]
theorem ubit (v : Int64) {k i : Nat} (hk : k < 8) (hi : i < 8) : ((v.toUInt64 >>> ((8 * nI k).toInt64.toUInt64 &&& Int64.toUInt64 63)).toInt64).toInt32.toBitVec.getLsbD i = v.toBitVec.getLsbD (8 * k + i) := by
  obtain ⟨s1, s2⟩ := sh8 k hk
  show ((v.toBitVec >>> ((((8 : Int32) * nI k).toInt64.toUInt64 &&& Int64.toUInt64 63).toBitVec % 64)).signExtend 32).getLsbD i = _
  rw [BitVec.getLsbD_signExtend]
  simp only [show i < 32 by omega, show i < 64 by omega, decide_true, Bool.true_and, if_true]
  rw [BitVec.ushiftRight_eq', s2, BitVec.getLsbD_ushiftRight]
theorem and255 (x : Int32) (v : Int64) {k : Nat} (h : ∀ i, i < 8 → x.toBitVec.getLsbD i = v.toBitVec.getLsbD (8 * k + i)) : x &&& 255 = nI (byN v k) := by
  apply Int32.toBitVec_inj.mp
  show x.toBitVec &&& 255#32 = BitVec.ofNat 32 (byN v k)
  apply BitVec.eq_of_getLsbD_eq
  intro i hi
  have h255 : (255#32).getLsbD i = decide (i < 8) := by
    have : ∀ i, i < 32 → (255#32).getLsbD i = decide (i < 8) := by decide
    exact this i hi
  rw [BitVec.getLsbD_and, h255, BitVec.getLsbD_ofNat]
  have e : (byN v k).testBit i = (decide (i < 8) && v.toBitVec.getLsbD (8 * k + i)) := by
    unfold byN
    rw [show (256 : Nat) = 2 ^ 8 by decide, Nat.testBit_mod_two_pow]
    congr 1
    rw [← BitVec.getLsbD_ushiftRight]
    rfl
  rw [e]
  simp only [hi, decide_true, Bool.true_and]
  by_cases q : i < 8
  · rw [h i q]; simp [q]
  · simp [q]
/-- the bytes of a word that aren't 0, k of them being left -/
def tbk (v : Int64) : Nat → List Nat
  | 0 => []
  | k + 1 => (if byN v k = 0 then [] else [byN v k]) ++ tbk v k
theorem tbk_len (v : Int64) : ∀ k, (tbk v k).length ≤ k := by
  intro k
  induction k with
  | zero => exact Nat.le_refl _
  | succ k ih =>
    unfold tbk
    rw [List.length_append]
    split
    · simp; omega
    · simp; omega
def ap (l : List Nat) (v : Int64) : List Nat := (if l.length = 0 then l else l ++ [32]) ++ tbk v 8
def apL (l : List Nat) : List Int64 → List Nat
  | [] => l
  | v :: L => apL (ap l v) L
theorem apL_app : ∀ (A B : List Int64) (l : List Nat), apL l (A ++ B) = apL (apL l A) B := by
  intro A
  induction A with
  | nil => intro B l; rfl
  | cons v A ih => intro B l; exact ih B (ap l v)
theorem ap_len (l : List Nat) (v : Int64) : l.length ≤ (ap l v).length ∧ (ap l v).length ≤ l.length + 1 + (tbk v 8).length := by
  unfold ap
  rw [List.length_append]
  split
  · omega
  · rw [List.length_append]; simp; omega
theorem apL_le : ∀ (A : List Int64) (l : List Nat), l.length ≤ (apL l A).length := by
  intro A
  induction A with
  | nil => intro l; exact Nat.le_refl _
  | cons v A ih => intro l; have := ih (ap l v); have := (ap_len l v).1; show _ ≤ (apL (ap l v) A).length; omega
def rpB (B : Nat → Int32) (l : List Nat) : Prop := ∀ q b, l[q]? = some b → B q = (nI b).toInt8.toInt32
theorem rpB_push {B : Nat → Int32} {l : List Nat} (h : rpB B l) (b : Nat) : rpB (upd B l.length ((nI b).toInt8.toInt32)) (l ++ [b]) := by
  intro q b' hq
  by_cases e : q = l.length
  · subst e
    rw [List.getElem?_append_right (Nat.le_refl _), Nat.sub_self] at hq
    have hq : b = b' := Option.some.inj hq
    subst hq
    exact pk_us
  · have hl : q < l.length := by
      obtain ⟨h1, -⟩ := List.getElem?_eq_some_iff.mp hq
      simp at h1; omega
    rw [List.getElem?_append_left hl] at hq
    rw [pk_un e]
    exact h q b' hq
theorem appendByte_ok {B : Nat → Int32} {l : List Nat} (h : rpB B l) {b : Nat} (hl : l.length < 600) : ∃ B', m_X1_appendByte B (nI l.length) (nI b) = some (B', nI (l ++ [b]).length) ∧ rpB B' (l ++ [b]) := by
  refine ⟨upd B l.length ((nI b).toInt8.toInt32), ?_, rpB_push h b⟩
  unfold m_X1_appendByte
  rw [if_neg (by rw [i_600, nI_le' (by omega) (by omega)]; omega), gd_nI (by omega) (by omega), nI_cl (by omega), nI_1, pk_vb]
  simp
theorem append_ok {B : Nat → Int32} {l : List Nat} (h : rpB B l) (v : Int64) (hl : (ap l v).length ≤ 600) : ∃ B', m_X1_append B (nI l.length) v = some (B', nI (ap l v).length) ∧ rpB B' (ap l v) := by
  have loop : ∀ (k fu : Nat) (B : Nat → Int32) (l : List Nat), k ≤ 8 → k < fu → rpB B l → (l ++ tbk v k).length ≤ 600 → ∃ B', m_X1_append_16 fu B (nI l.length) v (nI k - 1) = some (B', nI (l ++ tbk v k).length) ∧ rpB B' (l ++ tbk v k) := by
    intro k
    induction k with
    | zero =>
      intro fu B l h1 h2 h3 h4
      obtain ⟨fu, rfl⟩ : ∃ z, fu = z + 1 := ⟨fu - 1, by omega⟩
      have e : l ++ tbk v 0 = l := by simp [tbk]
      rw [e]
      exact ⟨B, rfl, h3⟩
    | succ k ih =>
      intro fu B l h1 h2 h3 h4
      obtain ⟨fu, rfl⟩ : ∃ z, fu = z + 1 := ⟨fu - 1, by omega⟩
      have e0 : m_X1_append_16 (fu + 1) B (nI l.length) v (nI k) = m_X1_append_16 (fu + 1) B (nI l.length) v (nI k) := rfl
      conv at e0 => rhs; unfold m_X1_append_16
      have hb := byN_lt v k
      rw [if_neg (by rw [i_0, nI_lt' (by omega) (by omega)]; omega), and255 _ v (fun i hi => ubit v (by omega) hi)] at e0
      unfold m_X1_append_44 at e0
      rw [nI_m1] at e0
      rw [nI_pred, e0]
      have et : tbk v (k + 1) = (if byN v k = 0 then [] else [byN v k]) ++ tbk v k := rfl
      rw [et] at h4 ⊢
      by_cases q : byN v k = 0
      · rw [if_pos (by rw [nI_eq0' (by omega)]; exact q)]
        rw [if_pos q] at h4 ⊢
        exact ih fu B l (by omega) (by omega) h3 h4
      · rw [if_neg (by rw [nI_eq0' (by omega)]; exact q)]
        rw [if_neg q, ← List.append_assoc] at h4 ⊢
        have hl1 : l.length < 600 := by
          rw [List.length_append, List.length_append] at h4
          simp at h4; omega
        obtain ⟨B1, b1, b2⟩ := appendByte_ok h3 (b := byN v k) hl1
        rw [b1, ob_i]
        dsimp only
        exact ih fu B1 (l ++ [byN v k]) (by omega) (by omega) b2 h4
  have e7 : (7 : Int32) = nI 8 - 1 := by decide
  unfold m_X1_append m_X1_append_13
  rw [e7]
  unfold ap at hl ⊢
  by_cases q : l.length = 0
  · rw [if_pos q] at hl ⊢
    have hc : nI l.length ≤ 0 := by rw [q]; decide
    rw [if_pos hc]
    exact loop 8 FU B l (by omega) (by rw [FU_v]; omega) h hl
  · rw [if_neg q] at hl ⊢
    have hl1 : l.length < 600 := by
      rw [List.length_append, List.length_append] at hl
      simp at hl; omega
    rw [if_neg (by rw [nI_le0' (by omega)]; omega)]
    obtain ⟨B1, b1, b2⟩ := appendByte_ok h (b := 32) hl1
    rw [i_32, b1, ob_i]
    dsimp only
    exact loop 8 FU B1 (l ++ [32]) (by omega) (by rw [FU_v]; omega) b2 hl
theorem put_ok {B : Nat → Int32} {l : List Nat} (h : rpB B l) (v : Int64) (hl : (ap l v).length ≤ 600) : ∃ B', m_X9_put B (nI l.length) v = some (B', nI (ap l v).length) ∧ rpB B' (ap l v) := by
  have loop : ∀ (k fu : Nat) (B : Nat → Int32) (l : List Nat), k ≤ 8 → k < fu → rpB B l → (l ++ tbk v k).length ≤ 600 → ∃ B', m_X9_put_31 fu B (nI l.length) v (nI (8 * k) - 8) = some (B', nI (l ++ tbk v k).length) ∧ rpB B' (l ++ tbk v k) := by
    intro k
    induction k with
    | zero =>
      intro fu B l h1 h2 h3 h4
      obtain ⟨fu, rfl⟩ : ∃ z, fu = z + 1 := ⟨fu - 1, by omega⟩
      have e : l ++ tbk v 0 = l := by simp [tbk]
      rw [e]
      exact ⟨B, rfl, h3⟩
    | succ k ih =>
      intro fu B l h1 h2 h3 h4
      obtain ⟨fu, rfl⟩ : ∃ z, fu = z + 1 := ⟨fu - 1, by omega⟩
      have e8 : nI (8 * (k + 1)) - 8 = nI (8 * k) := by rw [i_8, pk_sub (by omega)]; rfl
      have em : ∀ k, k ≤ 8 → nI (8 * k) + (-8) = nI (8 * k) - 8 := by decide +kernel
      have e0 : m_X9_put_31 (fu + 1) B (nI l.length) v (nI (8 * k)) = m_X9_put_31 (fu + 1) B (nI l.length) v (nI (8 * k)) := rfl
      conv at e0 => rhs; unfold m_X9_put_31
      have hb := byN_lt v k
      have e1 : nI (8 * k) = 8 * nI k := by rw [i_8, pk_mul]
      have e2 : ((v >>> ((nI (8 * k)).toInt64 &&& 63)).toInt32 &&& 255) = nI (byN v k) := by rw [e1]; exact and255 _ v (fun i hi => rbit v (by omega) hi)
      rw [if_neg (by rw [i_0, nI_lt' (by omega) (by omega)]; omega), e2] at e0
      unfold m_X9_put_72 at e0
      rw [em k (by omega)] at e0
      rw [e8, e0]
      have et : tbk v (k + 1) = (if byN v k = 0 then [] else [byN v k]) ++ tbk v k := rfl
      rw [et] at h4 ⊢
      by_cases q : byN v k = 0
      · rw [if_pos (by rw [nI_eq0' (by omega)]; exact q)]
        rw [if_pos q] at h4 ⊢
        exact ih fu B l (by omega) (by omega) h3 h4
      · rw [if_neg (by rw [nI_eq0' (by omega)]; exact q)]
        rw [if_neg q, ← List.append_assoc] at h4 ⊢
        have hl1 : l.length < 600 := by
          rw [List.length_append, List.length_append] at h4
          simp at h4; omega
        have b2 := rpB_push h3 (byN v k)
        rw [gd_nI (by omega) (by omega), nI_cl (by omega), nI_1, pk_vb]
        have := ih fu _ (l ++ [byN v k]) (by omega) (by omega) b2 h4
        rw [List.length_append] at this
        exact this
  have e7 : (56 : Int32) = nI (8 * 8) - 8 := by decide
  unfold m_X9_put m_X9_put_28
  rw [e7]
  unfold ap at hl ⊢
  by_cases q : l.length = 0
  · rw [if_pos q] at hl ⊢
    have hc : nI l.length ≤ 0 := by rw [q]; decide
    rw [if_pos hc]
    exact loop 8 FU B l (by omega) (by rw [FU_v]; omega) h hl
  · rw [if_neg q] at hl ⊢
    have hl1 : l.length < 600 := by
      rw [List.length_append, List.length_append] at hl
      simp at hl; omega
    rw [if_neg (by rw [nI_le0' (by omega)]; omega)]
    have b2 := rpB_push h 32
    have e32 : vp_nar .byte 32 = (nI 32).toInt8.toInt32 := by rw [vp_nar_byte]; rfl
    rw [gd_nI (by omega) (by omega), nI_cl (by omega), nI_1, e32]
    have := loop 8 FU _ (l ++ [32]) (by omega) (by rw [FU_v]; omega) b2 hl
    rw [List.length_append] at this
    exact this
