-- what always ends, whatever the numbers are
def Fl (s s' : xS) : Prop := s' = s ∨ ∃ p : Int32, s' = xsc (xsc s 16 p) 17 1
def Rl (t t' : xS) : Prop := t' = t ∨ ∃ z : Int32, t' = xsa t 0 2 z
theorem Fl.g {c : Nat} {s s' : xS} (h : Fl s s') (hc : CG c s) : CG c s' ∧ LC s s' ∧ s'.1 14 = s.1 14 ∧ s'.1 15 = s.1 15 := by
  rcases h with rfl | ⟨p, rfl⟩
  · exact ⟨hc, LC.rf _, rfl, rfl⟩
  · exact ⟨hc, LC.rf s, rfl, rfl⟩
theorem Rl.g {c : Nat} {t t' : xS} (h : Rl t t') (hc : RG c t) : RG c t' ∧ LR t t' ∧ t'.1 20 = t.1 20 ∧ t'.1 21 = t.1 21 := by
  rcases h with rfl | ⟨p, rfl⟩
  · exact ⟨hc, LR.rf _, rfl, rfl⟩
  · exact ⟨hc, LR.rf t, rfl, rfl⟩
theorem a_ask (x1 x2 x3 : Int32) (s : xS) : ∃ p : Int32, f_Processor_askFlags x1 x2 x3 s = some (x1, xsc (xsc s 16 p) 17 1) := by
  have h34 : ∀ y1 y2 : Int32, ∃ p : Int32, f_Processor_askFlags_34 x1 x3 y1 y2 s = some (x1, xsc (xsc s 16 p) 17 1) := by
    intro y1 y2
    unfold f_Processor_askFlags_34 f_Processor_askFlags_46
    split <;> exact ⟨_, rfl⟩
  have h19 : ∀ y1 y2 : Int32, ∃ p : Int32, f_Processor_askFlags_19 x1 x3 y1 y2 s = some (x1, xsc (xsc s 16 p) 17 1) := by
    intro y1 y2
    unfold f_Processor_askFlags_19
    rw [hi_eq, Option.bind_some]
    split <;> exact h34 _ _
  have h10 : ∀ y1 : Int32, ∃ p : Int32, f_Processor_askFlags_10 x1 x3 y1 s = some (x1, xsc (xsc s 16 p) 17 1) := by
    intro y1
    unfold f_Processor_askFlags_10
    split <;> exact h19 _ _
  unfold f_Processor_askFlags
  split <;> exact h10 _
theorem a_mask (s : xS) : ∃ q : Int32, f_Processor_mask s = some (q, s) := by
  unfold f_Processor_mask f_Processor_mask_15
  split <;> exact ⟨_, rfl⟩
theorem a_signed (x : Int32) (s : xS) : ∃ q : Int32, f_Processor_signed x s = some (q, s) := by
  unfold f_Processor_signed f_Processor_signed_21
  rw [hi_eq, Option.bind_some]
  split
  · exact ⟨_, rfl⟩
  · show ∃ q, ((f_Processor_highest s).bind _) = some (q, s)
    rw [hi_eq]
    exact ⟨_, rfl⟩
theorem a_logical (x1 x2 : Int32) (s : xS) : ∃ (v : Int32) (s' : xS), f_Processor_logical x1 x2 s = some (v, s') ∧ Fl s s' := by
  unfold f_Processor_logical f_Processor_logical_11
  split
  · obtain ⟨p, e⟩ := a_ask x1 0 x2 s
    rw [e]; exact ⟨_, _, rfl, Or.inr ⟨p, rfl⟩⟩
  · obtain ⟨p, e⟩ := a_ask x1 1 x2 s
    rw [e]; exact ⟨_, _, rfl, Or.inr ⟨p, rfl⟩⟩
theorem a_sum (x1 x2 x3 : Int32) (s : xS) : ∃ (v : Int32) (s' : xS), f_Processor_sum x1 x2 x3 s = some (v, s') ∧ Fl s s' := by
  have h46 : ∀ x4 y0 : Int32, ∃ (v : Int32) (s' : xS), f_Processor_sum_46 x4 y0 s = some (v, s') ∧ Fl s s' := by
    intro x4 y0
    obtain ⟨q, e⟩ := a_mask s
    unfold f_Processor_sum_46 f_Processor_sum_70
    rw [e, Option.bind_some]
    show ∃ (v : Int32) (s' : xS), (f_Processor_mask s).bind _ = some (v, s') ∧ Fl s s'
    rw [e, Option.bind_some]
    split
    · obtain ⟨p, e2⟩ := a_ask (x4 &&& q) 0 y0 s
      exact ⟨_, _, by rw [e2]; rfl, Or.inr ⟨p, rfl⟩⟩
    · obtain ⟨p, e2⟩ := a_ask (x4 &&& q) 1 y0 s
      exact ⟨_, _, by rw [e2]; rfl, Or.inr ⟨p, rfl⟩⟩
  obtain ⟨q1, e1⟩ := a_signed x1 s
  obtain ⟨q2, e2⟩ := a_signed x2 s
  unfold f_Processor_sum f_Processor_sum_41
  rw [e1, Option.bind_some]
  show ∃ (v : Int32) (s' : xS), (f_Processor_signed x2 s).bind _ = some (v, s') ∧ Fl s s'
  rw [e2, Option.bind_some]
  show ∃ (v : Int32) (s' : xS), (f_Processor_highest s).bind _ = some (v, s') ∧ Fl s s'
  rw [hi_eq, Option.bind_some]
  split
  · exact h46 _ _
  · show ∃ (v : Int32) (s' : xS), (f_Processor_highest s).bind _ = some (v, s') ∧ Fl s s'
    rw [hi_eq, Option.bind_some]
    split <;> exact h46 _ _
theorem a_dec25 {D : Nat} {x1 x2 : Int32} {s : xS} (hD : D ≤ 4) : ∀ (fuel i : Nat) (x4 x5 : Int32), i ≤ D → D - i < fuel → ∃ (v : Int32) (s' : xS), f_Processor_decimalSum_25 fuel x1 x2 (nI D) x4 x5 (nI i) s = some (v, s') ∧ Fl s s' := by
  have h110 : ∀ y1 y2 : Int32, ∃ (v : Int32) (s' : xS), f_Processor_decimalSum_110 y1 y2 s = some (v, s') ∧ Fl s s' := by
    intro y1 y2
    unfold f_Processor_decimalSum_110
    obtain ⟨p, e2⟩ := a_ask y1 y2 0 s
    exact ⟨_, _, by rw [e2]; rfl, Or.inr ⟨p, rfl⟩⟩
  intro fuel
  induction fuel with
  | zero => intro i _ _ _ h; omega
  | succ fuel ih =>
    intro i x4 x5 hi hf
    unfold f_Processor_decimalSum_25 f_Processor_decimalSum_67
    by_cases hiD : i = D
    · rw [if_pos (nI_le (by omega) (by omega))]
      split <;> exact h110 _ _
    · rw [if_neg (nI_ge (by omega) (by omega)), nI_1]
      split <;> exact ih (i + 1) _ _ (by omega) (by omega)
theorem a_dec (x1 x2 : Int32) (s : xS) : ∃ (v : Int32) (s' : xS), f_Processor_decimalSum x1 x2 s = some (v, s') ∧ Fl s s' := by
  unfold f_Processor_decimalSum f_Processor_decimalSum_12 f_Processor_carry
  split
  · rw [Option.bind_some]; exact a_dec25 (D := 4) (by omega) 1000 0 _ _ (by omega) (by omega)
  · rw [Option.bind_some]; exact a_dec25 (D := 2) (by omega) 1000 0 _ _ (by omega) (by omega)
theorem a_comb {k : Nat} (hk : 4 ≤ k ∧ k ≤ 15) (x2 x3 : Int32) (s : xS) : ∃ (v : Int32) (s' : xS), f_Processor_combined (nI k) x2 x3 s = some (v, s') ∧ Fl s s' := by
  obtain ⟨q, e⟩ := a_mask s
  unfold f_Processor_combined f_Processor_carry
  rw [e, Option.bind_some]
  have hk' : k = 4 ∨ k = 5 ∨ k = 6 ∨ k = 7 ∨ k = 8 ∨ k = 9 ∨ k = 10 ∨ k = 11 ∨ k = 12 ∨ k = 13 ∨ k = 14 ∨ k = 15 := by omega
  rcases hk' with rfl | rfl | rfl | rfl | rfl | rfl | rfl | rfl | rfl | rfl | rfl | rfl
  · rw [if_pos (by decide)]
    exact ⟨_, _, rfl, Or.inl rfl⟩
  · rw [if_neg (by decide), if_pos (by decide), bind_eta]
    exact a_sum _ _ _ _
  · rw [if_neg (by decide), if_neg (by decide), if_pos (by decide), Option.bind_some, bind_eta]
    exact a_sum _ _ _ _
  · rw [if_neg (by decide), if_neg (by decide), if_neg (by decide), if_pos (by decide), Option.bind_some, bind_eta]
    exact a_sum _ _ _ _
  · rw [if_neg (by decide), if_neg (by decide), if_neg (by decide), if_neg (by decide), if_pos (by decide), bind_eta]
    exact a_sum _ _ _ _
  · rw [if_neg (by decide), if_neg (by decide), if_neg (by decide), if_neg (by decide), if_neg (by decide), if_pos (by decide), bind_eta]
    exact a_sum _ _ _ _
  · rw [if_neg (by decide), if_neg (by decide), if_neg (by decide), if_neg (by decide), if_neg (by decide), if_neg (by decide), if_pos (by decide), bind_eta]
    exact a_dec _ _ _
  · rw [if_neg (by decide), if_neg (by decide), if_neg (by decide), if_neg (by decide), if_neg (by decide), if_neg (by decide), if_neg (by decide), if_pos (by decide), bind_eta]
    exact a_logical _ _ _
  · rw [if_neg (by decide), if_neg (by decide), if_neg (by decide), if_neg (by decide), if_neg (by decide), if_neg (by decide), if_neg (by decide), if_neg (by decide), if_pos (by decide)]
    exact ⟨_, _, rfl, Or.inl rfl⟩
  · rw [if_neg (by decide), if_neg (by decide), if_neg (by decide), if_neg (by decide), if_neg (by decide), if_neg (by decide), if_neg (by decide), if_neg (by decide), if_neg (by decide), if_pos (by decide)]
    exact ⟨_, _, rfl, Or.inl rfl⟩
  · rw [if_neg (by decide), if_neg (by decide), if_neg (by decide), if_neg (by decide), if_neg (by decide), if_neg (by decide), if_neg (by decide), if_neg (by decide), if_neg (by decide), if_neg (by decide), if_pos (by decide)]
    unfold f_Processor_combined_153
    show ∃ (v : Int32) (s' : xS), (f_Processor_highest s).bind _ = some (v, s') ∧ Fl s s'
    rw [hi_eq, Option.bind_some]
    split
    · rw [bind_eta]; exact a_logical _ _ _
    · rw [bind_eta]; exact a_logical _ _ _
  · rw [if_neg (by decide), if_neg (by decide), if_neg (by decide), if_neg (by decide), if_neg (by decide), if_neg (by decide), if_neg (by decide), if_neg (by decide), if_neg (by decide), if_neg (by decide), if_neg (by decide), if_pos (by decide), bind_eta]
    exact a_logical _ _ _
-- the reference
theorem b_flags (c v r y : Int32) (t : xS) : ∃ z : Int32, f_M_flags c v r y t = some (xsa t 0 2 z) := by
  unfold f_M_flags f_M_flags_9 f_M_flags_25 f_M_flags_33
  split
  · split
    · split <;> exact ⟨_, rfl⟩
    · split <;> exact ⟨_, rfl⟩
  · split
    · split <;> exact ⟨_, rfl⟩
    · split <;> exact ⟨_, rfl⟩
theorem b_flag (x : Int32) (t : xS) : ∃ q : Int32, f_M_flag x t = some (q, t) := by
  unfold f_M_flag f_M_flag_16
  split <;> exact ⟨_, rfl⟩
theorem b_signed (x y : Int32) : ∃ q : Int32, f_M_signed x y = some q := by
  unfold f_M_signed f_M_signed_14
  split <;> exact ⟨_, rfl⟩
theorem cut_ne (y : Int32) : (!(nI (cut y) == 0)) = true := by
  unfold cut
  split <;> decide
theorem b_sum (x1 x2 x3 y : Int32) (t : xS) : ∃ (v : Int32) (t' : xS), f_M_sum x1 x2 x3 y t = some (v, t') ∧ Rl t t' := by
  have h148 : ∀ x10 y1 y2 : Int32, ∃ (v : Int32) (t' : xS), f_M_sum_148 y x10 y1 y2 t = some (v, t') ∧ Rl t t' := by
    intro x10 y1 y2
    unfold f_M_sum_148 f_M_sum_155
    obtain ⟨z, e⟩ := b_flags y1 y2 x10 y t
    exact ⟨_, _, by rw [e]; rfl, Or.inr ⟨z, rfl⟩⟩
  have h131 : ∀ x5 x9 x10 y1 : Int32, ∃ (v : Int32) (t' : xS), f_M_sum_131 y x5 x9 x10 y1 t = some (v, t') ∧ Rl t t' := by
    intro x5 x9 x10 y1
    unfold f_M_sum_131
    obtain ⟨q, e⟩ := b_signed x10 x5
    rw [e, Option.bind_some]
    split <;> exact h148 _ _ _
  have h112 : ∀ x5 x8 x9 x10 y1 : Int32, ∃ (v : Int32) (t' : xS), f_M_sum_112 y x5 x8 x9 x10 y1 t = some (v, t') ∧ Rl t t' := by
    intro x5 x8 x9 x10 y1
    unfold f_M_sum_112 f_M_sum_155
    rcases silent_eq y1 t with ⟨z1, -⟩ | ⟨z1, -⟩
    · rw [z1, Option.bind_some, if_neg one_ne0]
      exact ⟨_, _, rfl, Or.inl rfl⟩
    · rw [z1, Option.bind_some, if_pos rfl]
      split <;> exact h131 _ _ _ _
  have h63 : ∀ x6 y0 : Int32, ∃ (v : Int32) (t' : xS), f_M_sum_63 x1 x3 y (nI (cut y)) x6 y0 t = some (v, t') ∧ Rl t t' := by
    intro x6 y0
    unfold f_M_sum_63
    obtain ⟨q1, e1⟩ := b_signed x3 (nI (cut y))
    obtain ⟨q2, e2⟩ := b_signed x6 (nI (cut y))
    rw [e1, Option.bind_some, e2, Option.bind_some, if_pos (cut_ne y)]
    split <;> exact h112 _ _ _ _ _
  have h31 : ∀ y0 : Int32, ∃ (v : Int32) (t' : xS), f_M_sum_31 x1 x3 y (nI (cut y)) y0 t = some (v, t') ∧ Rl t t' := by
    intro y0
    have h45 : ∃ (v : Int32) (t' : xS), f_M_sum_45 x1 x3 y (nI (cut y)) y0 t = some (v, t') ∧ Rl t t' := by
      unfold f_M_sum_45
      obtain ⟨q, e⟩ := b_flag 1 t
      rw [e, Option.bind_some]
      exact h63 _ _
    unfold f_M_sum_31
    split
    · exact h45
    · split
      · exact h45
      · split <;> exact h63 _ _
  rw [M_sum_eq]
  unfold f_M_sum_13
  split <;> exact h31 _
theorem b_bits (x1 x2 x3 y : Int32) (t : xS) : ∃ (v : Int32) (t' : xS), f_M_bits x1 x2 x3 y t = some (v, t') ∧ Rl t t' := by
  have h126 : ∀ x6 x8 y1 : Int32, ∃ (v : Int32) (t' : xS), f_M_bits_126 y x6 x8 y1 t = some (v, t') ∧ Rl t t' := by
    intro x6 x8 y1
    unfold f_M_bits_126 f_M_bits_143 f_M_bits_152
    rcases silent_eq y1 t with ⟨z1, -⟩ | ⟨z1, -⟩
    · rw [z1, Option.bind_some, if_neg one_ne0]
      exact ⟨_, _, rfl, Or.inl rfl⟩
    · rw [z1, Option.bind_some, if_pos rfl]
      split
      · obtain ⟨z, e⟩ := b_flags 0 x8 x6 y t
        exact ⟨_, _, by rw [e]; rfl, Or.inr ⟨z, rfl⟩⟩
      · obtain ⟨z, e⟩ := b_flags 1 x8 x6 y t
        exact ⟨_, _, by rw [e]; rfl, Or.inr ⟨z, rfl⟩⟩
  have h107 : ∀ x6 x7 y0 : Int32, ∃ (v : Int32) (t' : xS), f_M_bits_107 x1 y x6 x7 y0 t = some (v, t') ∧ Rl t t' := by
    intro x6 x7 y0
    unfold f_M_bits_107 f_M_bits_152
    split
    · exact ⟨_, _, rfl, Or.inl rfl⟩
    · split <;> exact h126 _ _ _
  have h78 : ∀ x5 x6 y0 : Int32, ∃ (v : Int32) (t' : xS), f_M_bits_78 x1 x2 x3 y x5 x6 y0 t = some (v, t') ∧ Rl t t' := by
    intro x5 x6 y0
    unfold f_M_bits_78 f_M_bits_106
    split
    · split
      · exact h107 _ _ _
      · split <;> exact h107 _ _ _
    · exact h107 _ _ _
  have h59 : ∀ x5 y0 : Int32, ∃ (v : Int32) (t' : xS), f_M_bits_59 x1 x2 x3 y x5 y0 t = some (v, t') ∧ Rl t t' := by
    intro x5 y0
    unfold f_M_bits_59 f_M_bits_77
    split
    · exact h78 _ _ _
    · split <;> exact h78 _ _ _
  rw [M_bits_eq]
  unfold f_M_bits_13
  split
  · exact h59 _ _
  · split
    · exact h59 _ _
    · split <;> exact h59 _ _
theorem b_dec16 {x1 x2 y : Int32} {t : xS} : ∀ (fuel i : Nat) (x4 x5 : Int32), i ≤ 4 → 4 - i < fuel → ∃ (v : Int32) (t' : xS), f_M_decimal_16 fuel x1 x2 y x4 x5 (nI (16 ^ i)) (nI i) t = some (v, t') ∧ Rl t t' := by
  intro fuel
  induction fuel with
  | zero => intro i _ _ _ h; omega
  | succ fuel ih =>
    intro i x4 x5 hi hf
    have hex : ∃ (v : Int32) (t' : xS), ((f_M_silent 1 t).bind fun q3 => if q3.1 = 0 then ((f_M_flags x4 0 x5 y q3.2).bind fun q6 => f_M_decimal_123 x5 q6) else (f_M_decimal_123 x5 q3.2)) = some (v, t') ∧ Rl t t' := by
      unfold f_M_decimal_123
      rcases silent_eq 1 t with ⟨z1, -⟩ | ⟨z1, -⟩
      · rw [z1, Option.bind_some, if_neg one_ne0]
        exact ⟨_, _, rfl, Or.inl rfl⟩
      · rw [z1, Option.bind_some, if_pos rfl]
        obtain ⟨z, e⟩ := b_flags x4 0 x5 y t
        exact ⟨_, _, by rw [e]; rfl, Or.inr ⟨z, rfl⟩⟩
    have h27 : ∀ D : Nat, D ≤ 4 → ∃ (v : Int32) (t' : xS), f_M_decimal_27 (f_M_decimal_16 fuel) x1 x2 y x4 x5 (nI (16 ^ i)) (nI i) (nI i) (nI D) t = some (v, t') ∧ Rl t t' := by
      intro D hD
      unfold f_M_decimal_27
      by_cases hiD : D ≤ i
      · rw [if_pos (nI_le hiD (by omega))]
        exact hex
      · rw [if_neg (nI_ge (by omega) (by omega))]
        have h16 : 1 ≤ 16 ^ i ∧ 16 ^ i ≤ 4096 := by
          rcases (show i = 0 ∨ i = 1 ∨ i = 2 ∨ i = 3 by omega) with rfl | rfl | rfl | rfl <;> decide
        have hun : (!(nI (16 ^ i) == 0)) = true := by
          have : ¬ nI (16 ^ i) = 0 := nI_ne0 (by omega) (by omega)
          simp [this]
        have hun2 : nI (16 ^ i) * 16 = nI (16 ^ (i + 1)) := by rw [Nat.pow_succ]; exact pk_mul _ 16
        have h86 : ∀ a0 a1 a2 : Int32, ∃ (v : Int32) (t' : xS), f_M_decimal_86 (f_M_decimal_16 fuel) x1 x2 y a0 (nI (16 ^ i)) (nI i) a1 a2 t = some (v, t') ∧ Rl t t' := by
          intro a0 a1 a2
          unfold f_M_decimal_86
          rw [hun2, nI_1]
          exact ih (i + 1) _ _ (by omega) (by omega)
        have h62 : ∀ a0 a1 : Int32, ∃ (v : Int32) (t' : xS), f_M_decimal_62 (f_M_decimal_16 fuel) x1 x2 y x5 (nI (16 ^ i)) (nI i) a0 a1 t = some (v, t') ∧ Rl t t' := by
          intro a0 a1
          unfold f_M_decimal_62
          split <;> exact h86 _ _ _
        rw [if_pos hun, if_pos hun]
        split <;> exact h62 _ _
    show ∃ (v : Int32) (t' : xS), (if y = 0 then _ else _) = some (v, t') ∧ Rl t t'
    split
    · exact h27 4 (by omega)
    · exact h27 2 (by omega)
theorem b_dec (x1 x2 y : Int32) (t : xS) : ∃ (v : Int32) (t' : xS), f_M_decimal x1 x2 y t = some (v, t') ∧ Rl t t' := by
  obtain ⟨q, e⟩ := b_flag 1 t
  unfold f_M_decimal
  rw [e, Option.bind_some]
  exact b_dec16 1000 0 _ _ (by omega) (by omega)
