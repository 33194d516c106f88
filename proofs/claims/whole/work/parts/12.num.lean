/-! NUMBERS: small naturals inside Int32, booleans, guards -/
def bi (c : Prop) [Decidable c] : Int32 := if c then 1 else 0
theorem bi_eq0 (c : Prop) [Decidable c] : (bi c = 0) ↔ ¬ c := by
  unfold bi
  split
  next h => exact ⟨fun q => absurd q (by decide), fun q => absurd h q⟩
  next h => exact ⟨fun _ => h, fun _ => rfl⟩
theorem bi_eq1 (c : Prop) [Decidable c] : (bi c = 1) ↔ c := by
  unfold bi
  split
  next h => exact ⟨fun _ => h, fun _ => rfl⟩
  next h => exact ⟨fun q => absurd q (by decide), fun q => absurd q h⟩
theorem bi_t {c : Prop} [Decidable c] (h : c) : bi c = 1 := if_pos h
theorem bi_f {c : Prop} [Decidable c] (h : ¬ c) : bi c = 0 := if_neg h
theorem bi_01 (c : Prop) [Decidable c] : bi c = 0 ∨ bi c = 1 := by
  unfold bi
  split
  next => exact Or.inr rfl
  next => exact Or.inl rfl
theorem bi_congr {c d : Prop} [Decidable c] [Decidable d] (h : c ↔ d) : bi c = bi d := by
  by_cases q : c
  · rw [bi_t q, bi_t (h.mp q)]
  · rw [bi_f q, bi_f (fun z => q (h.mpr z))]
theorem gb_bi {α : Type} {c : Prop} [Decidable c] {r : Option α} : gb (bi c) r = r := if_pos (bi_01 c)
theorem ob_i {α β : Type} (x : α) (f : α → Option β) : Option.bind (some x) f = f x := rfl
theorem i_0 : (0 : Int32) = nI 0 := rfl
theorem i_1 : (1 : Int32) = nI 1 := rfl
theorem i_2 : (2 : Int32) = nI 2 := rfl
theorem i_3 : (3 : Int32) = nI 3 := rfl
theorem i_4 : (4 : Int32) = nI 4 := rfl
theorem i_8 : (8 : Int32) = nI 8 := rfl
theorem i_9 : (9 : Int32) = nI 9 := rfl
theorem i_10 : (10 : Int32) = nI 10 := rfl
theorem i_15 : (15 : Int32) = nI 15 := rfl
theorem i_16 : (16 : Int32) = nI 16 := rfl
theorem i_30 : (30 : Int32) = nI 30 := rfl
theorem i_32 : (32 : Int32) = nI 32 := rfl
theorem i_33 : (33 : Int32) = nI 33 := rfl
theorem i_40 : (40 : Int32) = nI 40 := rfl
theorem i_41 : (41 : Int32) = nI 41 := rfl
theorem i_42 : (42 : Int32) = nI 42 := rfl
theorem i_126 : (126 : Int32) = nI 126 := rfl
theorem i_255 : (255 : Int32) = nI 255 := rfl
theorem i_256 : (256 : Int32) = nI 256 := rfl
theorem i_410 : (410 : Int32) = nI 410 := rfl
theorem i_420 : (420 : Int32) = nI 420 := rfl
theorem i_600 : (600 : Int32) = nI 600 := rfl
theorem i_750 : (750 : Int32) = nI 750 := rfl
theorem i_820 : (820 : Int32) = nI 820 := rfl
theorem i_1500 : (1500 : Int32) = nI 1500 := rfl
theorem i_1681 : (1681 : Int32) = nI 1681 := rfl
theorem i_24600 : (24600 : Int32) = nI 24600 := rfl
theorem i_50430 : (50430 : Int32) = nI 50430 := rfl
theorem i_102541 : (102541 : Int32) = nI 102541 := rfl
theorem i_M : (1000000000 : Int32) = nI 1000000000 := rfl
theorem gd_nI {α : Type} {i n : Nat} {r : Option α} (h : i < n) (hn : n < 2 ^ 31) : gd (nI i) n r = r := gd_ok (vp_in_nI h hn)
theorem nI_cl {n : Nat} (h : n < 2 ^ 31) : (nI n).toNatClampNeg = n := nI_clamp h
theorem nI_le' {a b : Nat} (ha : a < 2 ^ 31) (hb : b < 2 ^ 31) : (nI a ≤ nI b) = (a ≤ b) := propext (nI_leI ha hb)
theorem nI_lt' {a b : Nat} (ha : a < 2 ^ 31) (hb : b < 2 ^ 31) : (nI a < nI b) = (a < b) := propext (nI_ltI ha hb)
theorem nI_eq' {a b : Nat} (ha : a < 2 ^ 31) (hb : b < 2 ^ 31) : (nI a = nI b) = (a = b) := propext (nI_eq ha hb)
theorem cmp_eq' (x y : Int64) : (lg_cmp x y = nI 0) = (x = y) := propext (lg_cmp_eq x y)
theorem nI_n0 {a : Nat} (ha : a < 2 ^ 31) : (nI a < nI 0) = False := by
  rw [nI_lt' ha (by decide)]
  simp
/-- a negative answer is below 0 -/
theorem m1_lt : ((-1 : Int32) < nI 0) = True := by decide
theorem FU_v : FU = 65536 := rfl
/-- the bit b of a mask -/
def bt' (x : Int32) (b : Nat) : Bool := x.toBitVec.getLsbD b
theorem shr_bit (x : Int32) {b : Nat} (hb : b < 32) : ((x >>> (nI b &&& nI 31)) &&& nI 1 = nI 0) ↔ bt' x b = false := by
  have hs : ((nI b &&& nI 31).toBitVec.smod 32).toNat = b := by
    have : ∀ n, n < 32 → ((nI n &&& nI 31).toBitVec.smod 32).toNat = n := by decide +kernel
    exact this b hb
  have e : ((x >>> (nI b &&& nI 31)) &&& nI 1).toBitVec = (x.toBitVec.sshiftRight b) &&& 1#32 := by
    show (x.toBitVec.sshiftRight' ((nI b &&& nI 31).toBitVec.smod 32)) &&& 1#32 = _
    rw [BitVec.sshiftRight', hs]
  have h4 : (x.toBitVec.sshiftRight b).getLsbD 0 = bt' x b := by
    rw [BitVec.getLsbD_sshiftRight]
    simp [hb, bt']
  constructor
  · intro h
    have h2 : (x.toBitVec.sshiftRight b) &&& 1#32 = 0#32 := by rw [← e, h]; rfl
    have h3 : ((x.toBitVec.sshiftRight b) &&& 1#32).getLsbD 0 = (0#32).getLsbD 0 := by rw [h2]
    rw [BitVec.getLsbD_and, h4, show (1#32).getLsbD 0 = true by decide, show (0#32).getLsbD 0 = false by decide, Bool.and_true] at h3
    exact h3
  · intro h
    have h2 : (x.toBitVec.sshiftRight b) &&& 1#32 = 0#32 := by
      apply BitVec.eq_of_getLsbD_eq
      intro i hi
      rw [BitVec.getLsbD_and]
      by_cases h0 : i = 0
      · subst h0
        rw [h4, h]
        decide
      · have h1 : (1#32).getLsbD i = false := by
          rw [BitVec.getLsbD_one]
          simp [h0]
        rw [h1, Bool.and_false]
        simp
    have h3 : ((x >>> (nI b &&& nI 31)) &&& nI 1).toBitVec = (nI 0).toBitVec := by rw [e, h2]; rfl
    exact Int32.toBitVec_inj.mp h3
theorem i_31 : (31 : Int32) = nI 31 := rfl
theorem hasBit_ok (x : Int32) {b : Nat} (hb : b < 32) : m_X8_hasBit x (nI b) = some (bi (bt' x b = true)) := by
  unfold m_X8_hasBit
  by_cases h : bt' x b = true
  · rw [if_neg (fun q => by rw [(shr_bit x hb).mp q] at h; cases h), bi_t h]
  · have h' : bt' x b = false := by simpa using h
    have h2 : x >>> (nI b &&& 31) &&& 1 = 0 := (shr_bit x hb).mpr h'
    rw [if_pos h2, bi_f h]
