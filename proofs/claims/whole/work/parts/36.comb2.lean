theorem carry_eq {m b : Nat} {s t : xS} (h : OnR m b s t) : ∃ c : Nat, c ≤ 1 ∧ f_Processor_carry s = some (nI c, s) ∧ f_M_flag 1 t = some (nI c, t) := by
  obtain ⟨n, hn, g1, g2⟩ := h.r (k := 2) (by omega)
  unfold f_Processor_carry f_M_flag f_M_flag_16
  rw [g1, g2, and_1 (by omega)]
  refine ⟨n % 2, by omega, rfl, ?_⟩
  by_cases h0 : n % 2 = 0
  · rw [h0, if_pos (show nI 0 = 0 from rfl)]; rfl
  · rw [show n % 2 = 1 by omega, if_neg (show ¬ nI 1 = 0 from one_ne0)]; rfl
theorem p_dec {m b a c : Nat} {s t : xS} (ha : a < cut (s.1 13)) (hc : c < cut (s.1 13)) (h : OnR m b s t) : Cmb s t 1 (f_Processor_decimalSum (nI a) (nI c) s) (f_M_decimal (nI c) (nI a) (s.1 13) t) := by
  obtain ⟨cy, h1, h2, h3⟩ := carry_eq h
  have hcr : cut (s.1 13) ≤ 65536 := by unfold cut; split <;> omega
  have hD : ∃ D : Nat, ((s.1 13 = 0 ∧ D = 4) ∨ (¬ s.1 13 = 0 ∧ D = 2)) ∧ 16 ^ D = cut (s.1 13) ∧ f_Processor_decimalSum (nI a) (nI c) s = f_Processor_decimalSum_25 1000 (nI a) (nI c) (nI D) (nI cy) 0 0 s := by
    unfold f_Processor_decimalSum f_Processor_decimalSum_12 cut
    by_cases h0 : s.1 13 = 0
    · rw [if_pos h0, if_pos h0, h2, Option.bind_some]
      exact ⟨4, Or.inl ⟨h0, rfl⟩, rfl, rfl⟩
    · rw [if_neg h0, if_neg h0, h2, Option.bind_some]
      exact ⟨2, Or.inr ⟨h0, rfl⟩, rfl, rfl⟩
  obtain ⟨D, d1, d2, d3⟩ := hD
  obtain ⟨c', r', g1, g2, g3, g4⟩ := dec_loop (s := s) (t := t) (show a < 65536 by omega) (show c < 65536 by omega) d1 1000 0 cy 0 (by omega) (by omega) h1 (by decide)
  rw [d2] at g2
  have g3 : f_Processor_decimalSum_25 1000 (nI a) (nI c) (nI D) (nI cy) 0 0 s = f_Processor_decimalSum_110 (nI r') (nI c') s := g3
  refine ⟨r', nI (flagN c' 0 r' (s.1 13)), g2, flag_rg g1 (by omega), ?_, ?_⟩
  · rw [d3, g3]
    unfold f_Processor_decimalSum_110
    show (f_Processor_askFlags (nI r') (nI c') (nI 0) s).bind _ = _
    rw [ask_eq g1 (by omega) g2]
    rfl
  · have hR : f_M_decimal (nI c) (nI a) (s.1 13) t = f_M_decimal_16 1000 (nI c) (nI a) (s.1 13) (nI cy) (nI 0) (nI (16 ^ 0)) (nI 0) t := by
      unfold f_M_decimal
      rw [h3, Option.bind_some]
      rfl
    rw [hR, g4]
    rcases silent_eq 1 t with ⟨z1, z2⟩ | ⟨z1, z2⟩
    · refine Or.inl ⟨z2, ?_⟩
      rw [z1, Option.bind_some, if_neg one_ne0]
    · refine Or.inr ⟨z2, ?_⟩
      rw [z1, Option.bind_some, if_pos rfl]
      show (f_M_flags (nI c') (nI 0) (nI r') (s.1 13) t).bind _ = _
      rw [rflags_eq g1 (by omega) (by omega)]
      rfl
-- complements
theorem compl_N {n k : Nat} (hk : k ≤ 32) (hn : n < 2 ^ k) : (n ^^^ (2 ^ 32 - 1)) % 2 ^ k = 2 ^ k - (n + 1) := by
  apply Nat.eq_of_testBit_eq
  intro i
  rw [Nat.testBit_mod_two_pow, Nat.testBit_xor, Nat.testBit_two_pow_sub_one, Nat.testBit_two_pow_sub_succ hn]
  by_cases hi : i < k
  · have : i < 32 := by omega
    simp [hi, this]
  · simp [hi]
theorem m1_nI : (-1 : Int32) = nI (2 ^ 32 - 1) := by decide +kernel
theorem inv_eq {s : xS} {n : Nat} (hn : n < cut (s.1 13)) : ∃ q : Int32, f_Processor_mask s = some (q, s) ∧ (nI n ^^^ (-1)) &&& q = nI (cut (s.1 13) - 1 - n) := by
  unfold f_Processor_mask f_Processor_mask_15
  unfold cut at hn ⊢
  have hx : ∀ n, n < 2 ^ 32 → n ^^^ (2 ^ 32 - 1) < 2 ^ 32 := fun n hn => Nat.xor_lt_two_pow hn (by omega)
  by_cases h0 : s.1 13 = 0
  · rw [if_pos h0] at hn ⊢
    rw [if_pos h0]
    refine ⟨_, rfl, ?_⟩
    rw [m1_nI, xor_nI (by omega) (by omega), and_65535 (hx n (by omega)), show (65536 : Nat) = 2 ^ 16 from rfl, compl_N (by omega) (by omega)]
    congr 1
    omega
  · rw [if_neg h0] at hn ⊢
    rw [if_neg h0]
    refine ⟨_, rfl, ?_⟩
    rw [m1_nI, xor_nI (by omega) (by omega), and_255 (hx n (by omega)), show (256 : Nat) = 2 ^ 8 from rfl, compl_N (by omega) (by omega)]
    congr 1
    omega
theorem logical_eq {r o : Nat} {s : xS} (ho : o ≤ 1) (hr : r < cut (s.1 13)) : f_Processor_logical (nI r) (nI o) s = some (nI r, xsc (xsc s 16 (nI (flagN (if r = 0 then 0 else 1) o r (s.1 13)))) 17 1) := by
  have hcr : cut (s.1 13) ≤ 65536 := by unfold cut; split <;> omega
  have e0 : nI r = 0 ↔ r = 0 := nI_eq_lit (by omega) 0 (by omega)
  unfold f_Processor_logical f_Processor_logical_11
  by_cases h : r = 0
  · rw [if_pos (e0.mpr h), if_pos h]
    show (f_Processor_askFlags (nI r) (nI 0) (nI o) s).bind _ = _
    rw [ask_eq (by omega) ho hr]; rfl
  · rw [if_neg (fun q => h (e0.mp q)), if_neg h]
    show (f_Processor_askFlags (nI r) (nI 1) (nI o) s).bind _ = _
    rw [ask_eq (by omega) ho hr]; rfl
/-- flags of the reference's logical operations -/
theorem bits126 {r o : Nat} {y x : Int32} {t : xS} (ho : o ≤ 1) (hr : r < 65536) : (Sil x t ∧ f_M_bits_126 y (nI r) (nI o) x t = some (nI r, t)) ∨ (¬ Sil x t ∧ f_M_bits_126 y (nI r) (nI o) x t = some (nI r, xsa t 0 2 (nI (flagN (if r = 0 then 0 else 1) o r y)))) := by
  have e0 : nI r = 0 ↔ r = 0 := nI_eq_lit (by omega) 0 (by omega)
  unfold f_M_bits_126 f_M_bits_143 f_M_bits_152
  rcases silent_eq x t with ⟨z1, z2⟩ | ⟨z1, z2⟩
  · refine Or.inl ⟨z2, ?_⟩
    rw [z1, Option.bind_some, if_neg one_ne0]
  · refine Or.inr ⟨z2, ?_⟩
    rw [z1, Option.bind_some, if_pos rfl]
    by_cases h : r = 0
    · rw [if_pos (e0.mpr h), if_pos h]
      show (f_M_flags (nI 0) (nI o) (nI r) y t).bind _ = _
      rw [rflags_eq (by omega) ho hr]; rfl
    · rw [if_neg (fun q => h (e0.mp q)), if_neg h]
      show (f_M_flags (nI 1) (nI o) (nI r) y t).bind _ = _
      rw [rflags_eq (by omega) ho hr]; rfl
theorem and_cut {y : Int32} {a c : Nat} (ha : a < cut y) : a &&& c < cut y := Nat.lt_of_le_of_lt Nat.and_le_left ha
theorem or_cut {y : Int32} {a c : Nat} (ha : a < cut y) (hc : c < cut y) : a ||| c < cut y ∧ a ^^^ c < cut y := by
  unfold cut at *
  split
  · rw [if_pos (by assumption)] at ha hc
    exact ⟨Nat.or_lt_two_pow (n := 16) ha hc, Nat.xor_lt_two_pow (n := 16) ha hc⟩
  · rw [if_neg (by assumption)] at ha hc
    exact ⟨Nat.or_lt_two_pow (n := 8) ha hc, Nat.xor_lt_two_pow (n := 8) ha hc⟩
theorem top_and {y : Int32} {a c : Nat} (ha : a < cut y) (hc : c < cut y) : a &&& c < top y ↔ (a < top y ∨ c < top y) := by
  have key : ∀ k, a < 2 ^ (k + 1) → c < 2 ^ (k + 1) → (a &&& c < 2 ^ k ↔ (a < 2 ^ k ∨ c < 2 ^ k)) := by
    intro k h1 h2
    rw [← top_bit k (Nat.lt_of_le_of_lt Nat.and_le_left h1), ← top_bit k h1, ← top_bit k h2]
    constructor
    · intro h
      have hb : (a &&& c &&& 2 ^ k).testBit k = false := by rw [h]; simp
      rw [Nat.testBit_and, Nat.testBit_and, Nat.testBit_two_pow_self, Bool.and_true, Bool.and_eq_false_iff] at hb
      have z : ∀ x : Nat, x.testBit k = false → x &&& 2 ^ k = 0 := by
        intro x hx
        apply Nat.eq_of_testBit_eq
        intro i
        rw [Nat.testBit_and, Nat.zero_testBit]
        by_cases hi : k = i
        · subst hi; rw [hx]; rfl
        · rw [Nat.testBit_two_pow_of_ne hi, Bool.and_false]
      rcases hb with q | q
      · exact Or.inl (z a q)
      · exact Or.inr (z c q)
    · rintro (q | q)
      · rw [Nat.and_comm a c, Nat.and_assoc, q, Nat.and_zero]
      · rw [Nat.and_assoc, q, Nat.and_zero]
  obtain ⟨h1, h2⟩ := cut_top y
  rcases h2 with h2 | h2
  · rw [h2]; exact key 15 (by omega) (by omega)
  · rw [h2]; exact key 7 (by omega) (by omega)
