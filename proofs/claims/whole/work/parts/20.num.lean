-- numbers
def wd (x : Int32) : Prop := ∃ n : Nat, n < 65536 ∧ x = nI n
theorem wd_nI {n : Nat} (h : n < 65536) : wd (nI n) := ⟨n, h, rfl⟩
theorem wd0 : wd 0 := ⟨0, by omega, rfl⟩
theorem xin_nI {n N : Nat} (h : n < N) (hN : N < 2 ^ 31) : xin (nI n) N = true := by
  unfold xin
  rw [nI_clamp (by omega)]
  have : ¬ nI n < 0 := nI_pos (by omega)
  simp [this, h]
theorem nI_c {n : Nat} (h : n < 2 ^ 31) : (nI n).toNatClampNeg = n := nI_clamp h
theorem nI_lt0 {n : Nat} (h : n < 2 ^ 31) : (nI n = 0) ↔ n = 0 := nI_eq (b := 0) h (by omega)
theorem xrem_nI {a d : Nat} (ha : a < 2 ^ 31) (h0 : 0 < d) (hd : d < 2 ^ 31) : xrem (nI a) (nI d) = nI (a % d) := pk_rem ha h0 hd
theorem sh_k : ∀ k, k < 32 → ((nI k &&& 31).toBitVec.smod 32).toNat = k := by decide +kernel
theorem shr_nI {a k : Nat} (ha : a < 2 ^ 31) (hk : k < 32) : nI a >>> (nI k &&& 31) = nI (a / 2 ^ k) := pk_shrN ha _ k (sh_k k hk)
theorem shl_nI {a k : Nat} (hk : k < 32) (h : a * 2 ^ k < 2 ^ 32) : nI a <<< (nI k &&& 31) = nI (a * 2 ^ k) := pk_shlN _ k (sh_k k hk) h
theorem nI_bv (n : Nat) : (nI n).toBitVec = BitVec.ofNat 32 n := rfl
theorem and_nI {a b : Nat} (ha : a < 2 ^ 32) (hb : b < 2 ^ 32) : nI a &&& nI b = nI (a &&& b) := by
  apply Int32.toBitVec_inj.mp
  rw [Int32.toBitVec_and, nI_bv, nI_bv, nI_bv]
  apply BitVec.eq_of_toNat_eq
  rw [BitVec.toNat_and, BitVec.toNat_ofNat, BitVec.toNat_ofNat, BitVec.toNat_ofNat, Nat.mod_eq_of_lt ha, Nat.mod_eq_of_lt hb, Nat.mod_eq_of_lt (Nat.lt_of_le_of_lt Nat.and_le_left ha)]
theorem or_nI {a b : Nat} (ha : a < 2 ^ 32) (hb : b < 2 ^ 32) : nI a ||| nI b = nI (a ||| b) := by
  apply Int32.toBitVec_inj.mp
  rw [Int32.toBitVec_or, nI_bv, nI_bv, nI_bv]
  apply BitVec.eq_of_toNat_eq
  rw [BitVec.toNat_or, BitVec.toNat_ofNat, BitVec.toNat_ofNat, BitVec.toNat_ofNat, Nat.mod_eq_of_lt ha, Nat.mod_eq_of_lt hb, Nat.mod_eq_of_lt (Nat.or_lt_two_pow ha hb)]
theorem xor_nI {a b : Nat} (ha : a < 2 ^ 32) (hb : b < 2 ^ 32) : nI a ^^^ nI b = nI (a ^^^ b) := by
  apply Int32.toBitVec_inj.mp
  rw [Int32.toBitVec_xor, nI_bv, nI_bv, nI_bv]
  apply BitVec.eq_of_toNat_eq
  rw [BitVec.toNat_xor, BitVec.toNat_ofNat, BitVec.toNat_ofNat, BitVec.toNat_ofNat, Nat.mod_eq_of_lt ha, Nat.mod_eq_of_lt hb, Nat.mod_eq_of_lt (Nat.xor_lt_two_pow ha hb)]
/-- masks of low ones -/
theorem and_lo {a k : Nat} (ha : a < 2 ^ 32) (hk : k < 32) : nI a &&& nI (2 ^ k - 1) = nI (a % 2 ^ k) := by
  have h : 2 ^ k < 2 ^ 32 := Nat.pow_lt_pow_right (by decide) hk
  rw [and_nI ha (by omega), Nat.and_two_pow_sub_one_eq_mod]
theorem and_255 {a : Nat} (ha : a < 2 ^ 32) : nI a &&& 255 = nI (a % 256) := and_lo (k := 8) ha (by omega)
theorem and_65535 {a : Nat} (ha : a < 2 ^ 32) : nI a &&& 65535 = nI (a % 65536) := and_lo (k := 16) ha (by omega)
theorem and_15 {a : Nat} (ha : a < 2 ^ 32) : nI a &&& 15 = nI (a % 16) := and_lo (k := 4) ha (by omega)
theorem and_1023 {a : Nat} (ha : a < 2 ^ 32) : nI a &&& 1023 = nI (a % 1024) := and_lo (k := 10) ha (by omega)
theorem and_1 {a : Nat} (ha : a < 2 ^ 32) : nI a &&& 1 = nI (a % 2) := and_lo (k := 1) ha (by omega)
theorem and_3 {a : Nat} (ha : a < 2 ^ 32) : nI a &&& 3 = nI (a % 4) := and_lo (k := 2) ha (by omega)
theorem and_7 {a : Nat} (ha : a < 2 ^ 32) : nI a &&& 7 = nI (a % 8) := and_lo (k := 3) ha (by omega)
/-- every Int32 is some nI -/
theorem nI_all (x : Int32) : ∃ n, n < 2 ^ 32 ∧ x = nI n := ⟨x.toBitVec.toNat, x.toBitVec.isLt, Int32.toBitVec_inj.mp (by show _ = BitVec.ofNat 32 _; simp)⟩
theorem and_65534N (n : Nat) : n &&& 65534 = n % 65536 / 2 * 2 := by
  have h : (65534 : Nat) = (2 ^ 15 - 1) * 2 := by decide
  apply Nat.eq_of_testBit_eq
  intro i
  rw [Nat.testBit_and]
  have e1 : (65534 : Nat).testBit i = (decide (1 ≤ i) && decide (i < 16)) := by
    rw [h, show (2 ^ 15 - 1) * 2 = 2 ^ 1 * (2 ^ 15 - 1) by decide, Nat.testBit_two_pow_mul, Nat.testBit_two_pow_sub_one]
    by_cases h1 : 1 ≤ i
    · simp [h1]; omega
    · simp [h1]
  rw [e1, show n % 65536 / 2 * 2 = 2 ^ 1 * (n % 2 ^ 16 / 2 ^ 1) by omega, Nat.testBit_two_pow_mul, Nat.testBit_div_two_pow, Nat.testBit_mod_two_pow]
  by_cases h1 : 1 ≤ i
  · rw [show i - 1 + 1 = i by omega]
    simp [h1, Bool.and_comm]
  · simp [h1]
theorem and_65534 {n : Nat} (h : n < 2 ^ 32) : nI n &&& 65534 = nI (n % 65536 / 2 * 2) := by
  rw [show (65534 : Int32) = nI 65534 from rfl, and_nI h (by omega), and_65534N]
