def top (y : Int32) : Nat := if y = 0 then 32768 else 128
theorem cut_top (y : Int32) : cut y = 2 * top y ∧ (top y = 32768 ∨ top y = 128) := by
  unfold cut top
  split
  · exact ⟨rfl, Or.inl rfl⟩
  · exact ⟨rfl, Or.inr rfl⟩
theorem top_bit (k : Nat) {r : Nat} (hr : r < 2 ^ (k + 1)) : r &&& 2 ^ k = 0 ↔ r < 2 ^ k := by
  constructor
  · intro h
    refine Nat.not_le.mp fun q => ?_
    have h1 : (r &&& 2 ^ k).testBit k = false := by rw [h]; simp
    rw [Nat.testBit_and, Nat.testBit_two_pow_self, Bool.and_true, Nat.testBit_eq_decide_div_mod_eq] at h1
    have h2 : r / 2 ^ k = 1 := by
      rw [Nat.pow_succ] at hr
      exact Nat.div_eq_of_lt_le (by omega) (by omega)
    rw [h2] at h1
    exact absurd h1 (by decide)
  · intro h
    apply Nat.eq_of_testBit_eq
    intro i
    rw [Nat.testBit_and, Nat.zero_testBit]
    by_cases hi : k = i
    · subst hi
      rw [Nat.testBit_lt_two_pow h]; rfl
    · rw [Nat.testBit_two_pow_of_ne hi, Bool.and_false]
theorem hi_eq (s : xS) : f_Processor_highest s = some (nI (top (s.1 13)), s) := by
  unfold f_Processor_highest f_Processor_highest_15 top
  split <;> rfl
theorem hi_bit {y : Int32} {r : Nat} (hr : r < cut y) : nI r &&& nI (top y) = 0 ↔ r < top y := by
  obtain ⟨h1, h2⟩ := cut_top y
  rw [and_nI (by omega) (by omega)]
  show nI (r &&& top y) = nI 0 ↔ _
  rw [nI_eq (b := 0) (Nat.lt_of_le_of_lt Nat.and_le_right (by omega)) (by omega)]
  rcases h2 with h2 | h2
  · rw [h2]; exact top_bit 15 (by omega)
  · rw [h2]; exact top_bit 7 (by omega)
def flagN (c o r : Nat) (y : Int32) : Nat := c + (if r = 0 then 2 else 0) + (if r < top y then 0 else 4) + 256 * o
theorem flag_rg {c o r : Nat} {y : Int32} (hc : c ≤ 1) (ho : o ≤ 1) : rg 2 (nI (flagN c o r y)) := by
  have : ∀ z, z = flagN c o r y → z < 65536 ∧ z &&& 263 = z := by
    intro z hz
    unfold flagN at hz
    have hz : (c = 0 ∨ c = 1) ∧ (o = 0 ∨ o = 1) := by omega
    obtain ⟨h1 | h1, h2 | h2⟩ := hz <;> subst h1 <;> subst h2 <;> (subst_vars; split <;> split <;> decide)
  obtain ⟨h1, h2⟩ := this _ rfl
  exact ⟨_, h1, rfl, fun q => by omega, fun _ => h2, fun q => by omega⟩
theorem ask_eq {c o r : Nat} {s : xS} (hc : c ≤ 1) (ho : o ≤ 1) (hr : r < cut (s.1 13)) : f_Processor_askFlags (nI r) (nI c) (nI o) s = some (nI r, xsc (xsc s 16 (nI (flagN c o r (s.1 13)))) 17 1) := by
  have hcr : cut (s.1 13) ≤ 65536 := by unfold cut; split <;> omega
  have e0 : nI r = 0 ↔ r = 0 := nI_eq_lit (by omega) 0 (by omega)
  have hb := hi_bit hr
  have h34 : ∀ y1 y2 : Int32, f_Processor_askFlags_34 (nI r) (nI o) y1 y2 s = some (nI r, xsc (xsc s 16 ((y1 ||| y2) ||| (if o = 0 then 0 else 256))) 17 1) := by
    intro y1 y2
    unfold f_Processor_askFlags_34 f_Processor_askFlags_46
    rcases (show o = 0 ∨ o = 1 by omega) with rfl | rfl
    · rw [if_pos (show nI 0 = 0 from rfl), if_pos rfl]
    · rw [if_neg (show ¬ nI 1 = 0 from one_ne0), if_neg (by omega)]
  have h19 : ∀ y1 y2 : Int32, f_Processor_askFlags_19 (nI r) (nI o) y1 y2 s = f_Processor_askFlags_34 (nI r) (nI o) (y1 ||| y2) (if r < top (s.1 13) then 0 else 4) s := by
    intro y1 y2
    unfold f_Processor_askFlags_19
    rw [hi_eq, Option.bind_some]
    by_cases ht : r < top (s.1 13)
    · rw [if_pos (hb.mpr ht), if_pos ht]
    · rw [if_neg (fun q => ht (hb.mp q)), if_neg ht]
  have h10 : ∀ y1 : Int32, f_Processor_askFlags_10 (nI r) (nI o) y1 s = f_Processor_askFlags_19 (nI r) (nI o) y1 (if r = 0 then 2 else 0) s := by
    intro y1
    unfold f_Processor_askFlags_10
    by_cases hz : r = 0
    · rw [if_pos (e0.mpr hz), if_pos hz]
    · rw [if_neg (fun q => hz (e0.mp q)), if_neg hz]
  have hA : f_Processor_askFlags (nI r) (nI c) (nI o) s = f_Processor_askFlags_10 (nI r) (nI o) (nI c) s := by
    unfold f_Processor_askFlags
    rcases (show c = 0 ∨ c = 1 by omega) with rfl | rfl
    · rw [if_pos (show nI 0 = 0 from rfl)]; rfl
    · rw [if_neg (show ¬ nI 1 = 0 from one_ne0)]; rfl
  rw [hA, h10, h19, h34]
  unfold flagN
  have hZ : ∃ z : Nat, (z = 0 ∨ z = 2) ∧ (if r = 0 then (2 : Int32) else 0) = nI z ∧ (if r = 0 then 2 else 0) = z := by
    by_cases hz : r = 0
    · rw [if_pos hz, if_pos hz]; exact ⟨2, Or.inr rfl, rfl, rfl⟩
    · rw [if_neg hz, if_neg hz]; exact ⟨0, Or.inl rfl, rfl, rfl⟩
  have hN : ∃ z : Nat, (z = 0 ∨ z = 4) ∧ (if r < top (s.1 13) then (0 : Int32) else 4) = nI z ∧ (if r < top (s.1 13) then 0 else 4) = z := by
    by_cases hz : r < top (s.1 13)
    · rw [if_pos hz, if_pos hz]; exact ⟨0, Or.inl rfl, rfl, rfl⟩
    · rw [if_neg hz, if_neg hz]; exact ⟨4, Or.inr rfl, rfl, rfl⟩
  obtain ⟨z, z1, z2, z3⟩ := hZ
  obtain ⟨n, n1, n2, n3⟩ := hN
  rw [z2, z3, n2, n3]
  have hfin : ((nI c ||| nI z) ||| nI n) ||| (if o = 0 then (0 : Int32) else 256) = nI (c + z + n + 256 * o) := by
    rcases (show c = 0 ∨ c = 1 by omega) with rfl | rfl <;> rcases (show o = 0 ∨ o = 1 by omega) with rfl | rfl <;> rcases z1 with rfl | rfl <;> rcases n1 with rfl | rfl <;> decide
  rw [hfin]
theorem rflags_eq {c o r : Nat} {y : Int32} {t : xS} (hc : c ≤ 1) (ho : o ≤ 1) (hr : r < 65536) : f_M_flags (nI c) (nI o) (nI r) y t = some (xsa t 0 2 (nI (flagN c o r y))) := by
  have e0 : nI r = 0 ↔ r = 0 := nI_eq_lit (by omega) 0 (by omega)
  have h33 : ∀ x5 y0 : Nat, x5 ≤ 2 → y0 ≤ 4 → f_M_flags_33 (nI c) (nI o) (nI x5) (nI y0) t = some (xsa t 0 2 (nI (c + x5 + y0 + 256 * o))) := by
    intro x5 y0 h1 h2
    unfold f_M_flags_33
    rw [nI_add, nI_add, show (256 : Int32) * nI o = nI (256 * o) from pk_mul 256 o, nI_add]
  have h25 : ∀ x5 : Nat, x5 ≤ 2 → f_M_flags_25 (nI c) (nI o) (nI x5) (nI r) (nI (top y)) t = some (xsa t 0 2 (nI (c + x5 + (if r < top y then 0 else 4) + 256 * o))) := by
    intro x5 h1
    unfold f_M_flags_25
    obtain ⟨-, h2⟩ := cut_top y
    by_cases ht : r < top y
    · rw [if_pos (nI_lt ht (by omega)), if_pos ht]; exact h33 x5 0 h1 (by omega)
    · rw [if_neg (nI_nlt (by omega) (by omega)), if_neg ht]; exact h33 x5 4 h1 (by omega)
  have h9 : ∀ x5 : Nat, f_M_flags_9 (nI c) (nI o) (nI r) y (nI x5) t = f_M_flags_25 (nI c) (nI o) (nI x5) (nI r) (nI (top y)) t := by
    intro x5
    unfold f_M_flags_9 top
    split <;> rfl
  unfold f_M_flags flagN
  by_cases hz : r = 0
  · rw [if_pos (e0.mpr hz), if_pos hz]
    exact (h9 2).trans (h25 2 (by omega))
  · rw [if_neg (fun q => hz (e0.mp q)), if_neg hz]
    exact (h9 0).trans (h25 0 (by omega))
theorem silent_eq (x : Int32) (t : xS) : (f_M_silent x t = some (1, t) ∧ (x ≠ 0 ∧ t.1 20 = 1 ∧ t.1 21 = 2)) ∨ (f_M_silent x t = some (0, t) ∧ ¬ (x ≠ 0 ∧ t.1 20 = 1 ∧ t.1 21 = 2)) := by
  unfold f_M_silent f_M_silent_24 f_M_silent_25
  by_cases h1 : x = 0
  · rw [if_pos h1]
    exact Or.inr ⟨rfl, fun q => q.1 h1⟩
  · rw [if_neg h1]
    by_cases h2 : t.1 20 = 1
    · rw [if_pos h2]
      by_cases h3 : t.1 21 = 2
      · rw [if_pos h3]
        exact Or.inl ⟨rfl, h1, h2, h3⟩
      · rw [if_neg h3]
        exact Or.inr ⟨rfl, fun q => h3 q.2.2⟩
    · rw [if_neg h2]
      exact Or.inr ⟨rfl, fun q => h2 q.2.1⟩
