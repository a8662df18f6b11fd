-- decimal sums
theorem pow16 (i : Nat) : 2 ^ (4 * i) = 16 ^ i := by rw [Nat.pow_mul]
theorem dec_loop {a b D : Nat} {y : Int32} {s t : xS} (ha : a < 65536) (hb : b < 65536) (hD : (y = 0 ∧ D = 4) ∨ (¬ y = 0 ∧ D = 2)) : ∀ (fuel i c r : Nat), i ≤ D → D - i < fuel → c ≤ 1 → r < 16 ^ i → ∃ c' r' : Nat, c' ≤ 1 ∧ r' < 16 ^ D ∧
    f_Processor_decimalSum_25 fuel (nI a) (nI b) (nI D) (nI c) (nI r) (nI i) s = f_Processor_decimalSum_110 (nI r') (nI c') s ∧
    f_M_decimal_16 fuel (nI b) (nI a) y (nI c) (nI r) (nI (16 ^ i)) (nI i) t = (f_M_silent 1 t).bind fun q3 => if q3.1 = 0 then ((f_M_flags (nI c') 0 (nI r') y q3.2).bind fun q6 => some (nI r', q6)) else some (nI r', q3.2) := by
  intro fuel
  induction fuel with
  | zero => intro i c r _ h; omega
  | succ fuel ih =>
    intro i c r hi hf hc hr
    have hD4 : D ≤ 4 := by omega
    have hR0 : f_M_decimal_16 (fuel + 1) (nI b) (nI a) y (nI c) (nI r) (nI (16 ^ i)) (nI i) t = f_M_decimal_27 (f_M_decimal_16 fuel) (nI b) (nI a) y (nI c) (nI r) (nI (16 ^ i)) (nI i) (nI i) (nI D) t := by
      show (if y = 0 then _ else _) = _
      rcases hD with ⟨q1, q2⟩ | ⟨q1, q2⟩
      · rw [if_pos q1, q2]; rfl
      · rw [if_neg q1, q2]; rfl
    rw [hR0]
    unfold f_Processor_decimalSum_25 f_M_decimal_27
    by_cases hiD : i = D
    · subst hiD
      rw [if_pos (nI_le (by omega) (by omega)), if_pos (nI_le (by omega) (by omega))]
      refine ⟨c, r, hc, hr, ?_, rfl⟩
      rcases (show c = 0 ∨ c = 1 by omega) with rfl | rfl
      · rw [if_neg (show ¬ nI 0 = 1 by decide)]; rfl
      · rw [if_pos (show nI 1 = 1 from rfl)]; rfl
    · have hi3 : i < 4 := by omega
      have h16 : 1 ≤ 16 ^ i ∧ 16 ^ i ≤ 4096 := by
        rcases (show i = 0 ∨ i = 1 ∨ i = 2 ∨ i = 3 by omega) with rfl | rfl | rfl | rfl <;> decide
      have hpc : 16 ^ (i + 1) = 16 ^ i * 16 := Nat.pow_succ _ _
      have hA : (nI a >>> (((4 : Int32) * nI i) &&& 31)) &&& 15 = nI (a / 16 ^ i % 16) := by
        rw [show (4 : Int32) * nI i = nI (4 * i) from pk_mul 4 i, shr_nI (by omega) (by omega), pow16]
        exact and_15 (by have := Nat.div_le_self a (16 ^ i); omega)
      have hB : (nI b >>> (((4 : Int32) * nI i) &&& 31)) &&& 15 = nI (b / 16 ^ i % 16) := by
        rw [show (4 : Int32) * nI i = nI (4 * i) from pk_mul 4 i, shr_nI (by omega) (by omega), pow16]
        exact and_15 (by have := Nat.div_le_self b (16 ^ i); omega)
      have hda : nI a / nI (16 ^ i) = nI (a / 16 ^ i) := pk_div (by omega) (by omega) (by omega)
      have hdb : nI b / nI (16 ^ i) = nI (b / 16 ^ i) := pk_div (by omega) (by omega) (by omega)
      have hra : xrem (nI (a / 16 ^ i)) 16 = nI (a / 16 ^ i % 16) := xrem_nI (d := 16) (by have := Nat.div_le_self a (16 ^ i); omega) (by omega) (by omega)
      have hrb : xrem (nI (b / 16 ^ i)) 16 = nI (b / 16 ^ i % 16) := xrem_nI (d := 16) (by have := Nat.div_le_self b (16 ^ i); omega) (by omega) (by omega)
      rw [if_neg (nI_ge (by omega) (by omega)), if_neg (nI_ge (by omega) (by omega)), hA, hB, hda, hdb, hra, hrb, nI_add, nI_add, nI_add, nI_add, Nat.add_comm (b / 16 ^ i % 16) (a / 16 ^ i % 16)]
      have hun : (!(nI (16 ^ i) == 0)) = true := by
        have : ¬ nI (16 ^ i) = 0 := nI_ne0 (by omega) (by omega)
        simp [this]
      rw [if_pos hun]
      simp only [if_pos hun]
      generalize htt : a / 16 ^ i % 16 + b / 16 ^ i % 16 + c = tt
      have htl : tt ≤ 31 := by omega
      unfold f_Processor_decimalSum_67 f_M_decimal_62 f_M_decimal_86
      -- one digit d, the next carry e
      have step : ∀ d e : Nat, d < 16 → e ≤ 1 → ∃ c' r' : Nat, c' ≤ 1 ∧ r' < 16 ^ D ∧ f_Processor_decimalSum_25 fuel (nI a) (nI b) (nI D) (nI e) (nI (r + d * 16 ^ i)) (nI (i + 1)) s = f_Processor_decimalSum_110 (nI r') (nI c') s ∧
          f_M_decimal_16 fuel (nI b) (nI a) y (nI e) (nI (r + d * 16 ^ i)) (nI (16 ^ (i + 1))) (nI (i + 1)) t = (f_M_silent 1 t).bind fun q3 => if q3.1 = 0 then ((f_M_flags (nI c') 0 (nI r') y q3.2).bind fun q6 => some (nI r', q6)) else some (nI r', q3.2) := by
        intro d e hd he
        refine ih (i + 1) e (r + d * 16 ^ i) (by omega) (by omega) he ?_
        rw [hpc]
        have : d * 16 ^ i ≤ 15 * 16 ^ i := Nat.mul_le_mul_right _ (by omega)
        omega
      have hor : ∀ d : Nat, d < 16 → nI r ||| (nI d <<< (((4 : Int32) * nI i) &&& 31)) = nI (r + d * 16 ^ i) := by
        intro d hd
        have hdm : d * 16 ^ i < 65536 := by
          have : d * 16 ^ i ≤ 15 * 16 ^ i := Nat.mul_le_mul_right _ (by omega)
          omega
        rw [show (4 : Int32) * nI i = nI (4 * i) from pk_mul 4 i, shl_nI (by omega) (by rw [pow16]; omega), or_nI (by omega) (by rw [pow16]; omega), Nat.or_comm, or_add (by rw [pow16]; exact hr), pow16, Nat.add_comm]
      have hmul : ∀ d : Nat, nI d * nI (16 ^ i) = nI (d * 16 ^ i) := fun d => pk_mul _ _
      have hun2 : nI (16 ^ i) * 16 = nI (16 ^ (i + 1)) := by rw [hpc]; exact pk_mul _ 16
      by_cases h10 : tt < 10
      · obtain ⟨c', r', g1, g2, g3, g4⟩ := step tt 0 (by omega) (by omega)
        refine ⟨c', r', g1, g2, ?_, ?_⟩
        · rw [if_pos (show nI tt < 10 from nI_lt (b := 10) h10 (by omega))]
          rw [show (6 : Int32) * 0 = nI 0 from rfl, nI_add, Nat.add_zero, and_15 (by omega), Nat.mod_eq_of_lt (by omega), hor tt (by omega), nI_1]
          exact g3
        · have hle : nI tt ≤ 9 := nI_le (b := 9) (by omega) (by omega)
          rw [if_pos hle]
          simp only [if_pos hle]
          rw [hmul, nI_add, hun2, nI_1]
          exact g4
      · obtain ⟨c', r', g1, g2, g3, g4⟩ := step ((tt + 6) % 16) 1 (by omega) (by omega)
        refine ⟨c', r', g1, g2, ?_, ?_⟩
        · rw [if_neg (show ¬ nI tt < 10 from nI_nlt (b := 10) (by omega) (by omega))]
          rw [show (6 : Int32) * 1 = nI 6 from rfl, nI_add, and_15 (by omega), hor _ (by omega), nI_1]
          exact g3
        · have hle : ¬ nI tt ≤ 9 := nI_ge (a := 9) (by omega) (by omega)
          rw [if_neg hle]
          simp only [if_neg hle]
          rw [show nI tt + 6 = nI (tt + 6) from nI_add tt 6, show xrem (nI (tt + 6)) 16 = nI ((tt + 6) % 16) from xrem_nI (d := 16) (by omega) (by omega) (by omega), hmul, nI_add, hun2, nI_1]
          exact g4
