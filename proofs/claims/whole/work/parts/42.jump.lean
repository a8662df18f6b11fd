theorem nI_mod (n : Nat) : nI n = nI (n % 2 ^ 32) := by
  apply Int32.toBitVec_inj.mp
  rw [nI_bv, nI_bv]
  apply BitVec.eq_of_toNat_eq
  rw [BitVec.toNat_ofNat, BitVec.toNat_ofNat, Nat.mod_mod]
theorem nI_subw {a b : Nat} (hb : b ≤ 2 ^ 32) : nI a - nI b = nI (a + 2 ^ 32 - b) := by
  have h1 : nI a = nI (a + 2 ^ 32) := by
    rw [nI_mod (a + 2 ^ 32), nI_mod a, Nat.add_mod_right]
  rw [h1, pk_sub (by omega)]
/-- the flags that both see -/
theorem p_isset {m b : Nat} {s t : xS} (x : Int32) (h : OnR m b s t) : ∃ q : Nat, q ≤ 1 ∧ f_Processor_isSet x s = some (nI q, s) ∧ f_M_flag x t = some (nI q, t) := by
  obtain ⟨n, hn, g1, g2⟩ := h.r (k := 2) (by omega)
  unfold f_Processor_isSet f_Processor_isSet_16 f_M_flag f_M_flag_16
  rw [g1, g2]
  by_cases h0 : nI n &&& x = 0
  · rw [if_pos h0, if_pos h0, if_pos (by decide)]
    exact ⟨0, by omega, rfl, rfl⟩
  · rw [if_neg h0, if_neg h0, if_pos (by decide)]
    exact ⟨1, by omega, rfl, rfl⟩
theorem p_holds {m b n : Nat} {s t : xS} (hn : n < 65536) (h : OnR m b s t) : ∃ g : Nat, g ≤ 1 ∧ f_Processor_holds (nI (n / 1024 % 8)) s = some (nI g, s) ∧ f_M_jump (nI n) t = f_M_jump_172 (nI n) (nI g) t := by
  obtain ⟨q4, a1, a2, a3⟩ := p_isset 4 h
  obtain ⟨qv, b1, b2, b3⟩ := p_isset 256 h
  obtain ⟨qz, c1, c2, c3⟩ := p_isset 2 h
  obtain ⟨qc, d1, d2, d3⟩ := p_isset 1 h
  have hby : xrem (nI n / 1024) 8 = nI (n / 1024 % 8) := by
    rw [show nI n / 1024 = nI (n / 1024) from pk_div (d := 1024) (by omega) (by omega) (by omega)]
    exact xrem_nI (d := 8) (by omega) (by omega) (by omega)
  unfold f_Processor_holds f_M_jump f_Processor_holds_61 f_Processor_holds_81 f_Processor_holds_106 f_Processor_holds_123
  rw [hby, a2, a3, Option.bind_some, Option.bind_some, b3, Option.bind_some, b2, c2, c3, d2, d3]
  simp only [Option.bind_some]
  have e4 : q4 = 0 ∨ q4 = 1 := by omega
  have ev : qv = 0 ∨ qv = 1 := by omega
  have ez : qz = 0 ∨ qz = 1 := by omega
  have ec : qc = 0 ∨ qc = 1 := by omega
  have hk : n / 1024 % 8 = 0 ∨ n / 1024 % 8 = 1 ∨ n / 1024 % 8 = 2 ∨ n / 1024 % 8 = 3 ∨ n / 1024 % 8 = 4 ∨ n / 1024 % 8 = 5 ∨ n / 1024 % 8 = 6 ∨ n / 1024 % 8 = 7 := by omega
  rcases hk with k | k | k | k | k | k | k | k <;> rw [k]
  · rcases ez with z | z <;> subst z
    · exact ⟨1, by omega, rfl, rfl⟩
    · exact ⟨0, by omega, rfl, rfl⟩
  · rcases ez with z | z <;> subst z
    · exact ⟨0, by omega, rfl, rfl⟩
    · exact ⟨1, by omega, rfl, rfl⟩
  · rcases ec with z | z <;> subst z
    · exact ⟨1, by omega, rfl, rfl⟩
    · exact ⟨0, by omega, rfl, rfl⟩
  · rcases ec with z | z <;> subst z
    · exact ⟨0, by omega, rfl, rfl⟩
    · exact ⟨1, by omega, rfl, rfl⟩
  · rcases e4 with z | z <;> subst z
    · exact ⟨0, by omega, rfl, rfl⟩
    · exact ⟨1, by omega, rfl, rfl⟩
  · rcases e4 with z | z <;> subst z <;> rcases ev with z | z <;> subst z
    · exact ⟨1, by omega, rfl, rfl⟩
    · exact ⟨0, by omega, rfl, rfl⟩
    · exact ⟨0, by omega, rfl, rfl⟩
    · exact ⟨1, by omega, rfl, rfl⟩
  · rcases e4 with z | z <;> subst z <;> rcases ev with z | z <;> subst z
    · exact ⟨0, by omega, rfl, rfl⟩
    · exact ⟨1, by omega, rfl, rfl⟩
    · exact ⟨1, by omega, rfl, rfl⟩
    · exact ⟨0, by omega, rfl, rfl⟩
  · exact ⟨1, by omega, rfl, rfl⟩
theorem and_512N (n : Nat) : n &&& 512 = if n % 1024 < 512 then 0 else 512 := by
  have h1 : n &&& 512 = (n % 1024) &&& 512 := by
    rw [← Nat.and_two_pow_sub_one_eq_mod n 10, Nat.and_assoc, show (2 ^ 10 - 1) &&& 512 = 512 from rfl]
  rw [h1]
  by_cases h : n % 1024 < 512
  · rw [if_pos h]
    exact (top_bit 9 (r := n % 1024) (by omega)).mpr h
  · rw [if_neg h]
    have h2 : n % 1024 = 2 ^ 9 + (n % 1024 - 512) := by omega
    apply Nat.eq_of_testBit_eq
    intro i
    rw [Nat.testBit_and, show (512 : Nat) = 2 ^ 9 from rfl]
    by_cases hi : 9 = i
    · subst hi
      rw [Nat.testBit_two_pow_self, Bool.and_true, Nat.testBit_eq_decide_div_mod_eq, show n % 1024 / 2 ^ 9 = 1 by omega]
      rfl
    · rw [Nat.testBit_two_pow_of_ne hi, Bool.and_false]
theorem p_jump {m b n : Nat} {s t : xS} (hn : n < 65536) (h : OnR m b s t) : ∃ s1 t1 : xS, f_Processor_jump (nI n) s = some s1 ∧ f_M_jump (nI n) t = some t1 ∧ OnR m b s1 t1 := by
  obtain ⟨g, hg, c1, c2⟩ := p_holds hn h
  obtain ⟨pc, hpc, hev, e1, e2⟩ := h.pc
  have hsh : (nI n >>> ((10 : Int32) &&& 31)) &&& 7 = nI (n / 1024 % 8) := by
    rw [show nI n >>> ((10 : Int32) &&& 31) = nI (n / 1024) from shr_nI (k := 10) (by omega) (by omega), and_7 (by omega)]
  have hrem : xrem (nI n) 1024 = nI (n % 1024) := xrem_nI (d := 1024) (by omega) (by omega) (by omega)
  -- how far, the same number for both
  have hw : ∃ w : Nat, w < 2 ^ 32 ∧ (w < 512 ∨ 2 ^ 32 - 512 ≤ w) ∧ (nI n &&& 1023) - ((nI n &&& 512) <<< ((1 : Int32) &&& 31)) = nI w ∧ f_M_signed (nI (n % 1024)) 1024 = some (nI w) := by
    have hx : n % 1024 < 1024 := by omega
    rw [and_1023 (by omega), show nI n &&& 512 = nI (n &&& 512) from and_nI (b := 512) (by omega) (by omega), and_512N]
    unfold f_M_signed f_M_signed_14
    rw [show (1024 : Int32) / 2 = nI 512 by decide]
    by_cases h5 : n % 1024 < 512
    · rw [if_pos h5, if_pos (nI_lt h5 (by omega)), show nI 0 <<< ((1 : Int32) &&& 31) = nI 0 by decide, pk_sub (by omega)]
      exact ⟨n % 1024, by omega, by omega, rfl, rfl⟩
    · rw [if_neg h5, if_neg (nI_nlt (by omega) (by omega)), show nI 512 <<< ((1 : Int32) &&& 31) = nI 1024 by decide, show (1024 : Int32) = nI 1024 from rfl, nI_subw (by omega)]
      exact ⟨n % 1024 + 2 ^ 32 - 1024, by omega, by omega, rfl, rfl⟩
  obtain ⟨w, w1, w2, w3, w4⟩ := hw
  unfold f_Processor_jump f_Processor_jump_43
  rw [hsh, c1, Option.bind_some, c2]
  unfold f_M_jump_172 f_M_jump_223
  rw [hrem, w4, Option.bind_some]
  rcases (show g = 0 ∨ g = 1 by omega) with rfl | rfl
  · rw [if_pos (show nI 0 = 0 from rfl), if_pos (show nI 0 = 0 from rfl), if_pos (by decide)]
    refine ⟨s, _, rfl, rfl, ?_⟩
    rw [show xsa t 0 (0 : Int32).toNatClampNeg (t.2 0 0) = t from xsa_self t 0 0]
    exact h
  · rw [if_neg (show ¬ nI 1 = 0 from one_ne0), if_neg (show ¬ nI 1 = 0 from one_ne0), if_pos (by decide), w3]
    show ∃ s1 t1 : xS, ((f_Processor_setRegister 0 (s.2 10 0 + 2 * nI w) s).bind fun q4 => some q4) = some s1 ∧ some (xsa t 0 0 (xrem ((t.2 0 0 + 2 * nI w) + 65536) 65536)) = some t1 ∧ OnR m b s1 t1
    rw [e1, e2, show (2 : Int32) * nI w = nI (2 * w) from pk_mul 2 w, nI_add, show nI (pc + 2 * w) + 65536 = nI (pc + 2 * w + 65536) from nI_add _ 65536, nI_mod (pc + 2 * w), nI_mod (pc + 2 * w + 65536)]
    rw [show f_Processor_setRegister 0 (nI ((pc + 2 * w) % 2 ^ 32)) s = some _ from c_setreg (k := 0) (by omega) (by omega) s, if_neg (by omega), Option.bind_some]
    have hz : rv 0 ((pc + 2 * w) % 2 ^ 32) = (pc + 2 * w + 65536) % 2 ^ 32 % 65536 := by
      unfold rv
      rw [if_pos (by omega)]
      omega
    rw [show xrem (nI ((pc + 2 * w + 65536) % 2 ^ 32)) 65536 = nI ((pc + 2 * w + 65536) % 2 ^ 32 % 65536) from xrem_nI (d := 65536) (by omega) (by omega) (by omega), ← hz]
    exact ⟨_, _, rfl, rfl, h.reg (rv_rg 0 _)⟩
