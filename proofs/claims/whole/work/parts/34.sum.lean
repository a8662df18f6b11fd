theorem iI_n (n : Nat) : nI n = Int32.ofInt (n : Int) := Int32.ofInt_eq_ofNat.symm
theorem iI_t {z : Int} (h1 : -2 ^ 31 ≤ z) (h2 : z < 2 ^ 31) : (Int32.ofInt z).toInt = z := Int32.toInt_ofInt_of_le h1 h2
theorem iI_lt {x y : Int} (h1 : -2 ^ 31 ≤ x) (h2 : x < 2 ^ 31) (h3 : -2 ^ 31 ≤ y) (h4 : y < 2 ^ 31) : Int32.ofInt x < Int32.ofInt y ↔ x < y := by
  rw [i32lt, iI_t h1 h2, iI_t h3 h4]
theorem iI_eq {x y : Int} (h1 : -2 ^ 31 ≤ x) (h2 : x < 2 ^ 31) (h3 : -2 ^ 31 ≤ y) (h4 : y < 2 ^ 31) : Int32.ofInt x = Int32.ofInt y ↔ x = y := by
  constructor
  · intro h
    have := congrArg Int32.toInt h
    rwa [iI_t h1 h2, iI_t h3 h4] at this
  · intro h
    rw [h]
def sg (y : Int32) (n : Nat) : Int := if n < top y then (n : Int) else (n : Int) - cut y
theorem sgn_C {s : xS} {n : Nat} (hn : n < cut (s.1 13)) : f_Processor_signed (nI n) s = some (Int32.ofInt (sg (s.1 13) n), s) := by
  unfold f_Processor_signed f_Processor_signed_21 sg
  rw [hi_eq, Option.bind_some]
  by_cases h : n < top (s.1 13)
  · rw [if_pos ((hi_bit hn).mpr h), if_pos h, iI_n]
  · rw [if_neg (fun q => h ((hi_bit hn).mp q)), if_neg h]
    show (f_Processor_highest s).bind _ = _
    rw [hi_eq, Option.bind_some]
    rw [show (2 : Int32) * nI (top (s.1 13)) = nI (cut (s.1 13)) by rw [(cut_top (s.1 13)).1]; exact pk_mul 2 _, iI_n, iI_n, ← Int32.ofInt_sub]
theorem cutI (y : Int32) : (if y = 0 then (65536 : Int32) else 256) = nI (cut y) := by
  unfold cut
  split <;> rfl
theorem sgn_R {y : Int32} {n : Nat} (hn : n < cut y) : f_M_signed (nI n) (nI (cut y)) = some (Int32.ofInt (sg y n)) := by
  obtain ⟨h1, h2⟩ := cut_top y
  unfold f_M_signed f_M_signed_14 sg
  rw [show nI (cut y) / 2 = nI (cut y / 2) from pk_div (d := 2) (by omega) (by omega) (by omega), show cut y / 2 = top y by omega]
  by_cases h : n < top y
  · rw [if_pos (nI_lt h (by omega)), if_pos h, iI_n]
  · rw [if_neg (nI_nlt (by omega) (by omega)), if_neg h, iI_n, iI_n, ← Int32.ofInt_sub]
def Sil (x : Int32) (t : xS) : Prop := x ≠ 0 ∧ t.1 20 = 1 ∧ t.1 21 = 2
/-- a result with flags: the class notes them, the reference sets them at once, but where it is silent -/
def Cmb (s t : xS) (x : Int32) (C R : Option (Int32 × xS)) : Prop := ∃ (v : Nat) (fl : Int32), v < cut (s.1 13) ∧ rg 2 fl ∧ C = some (nI v, xsc (xsc s 16 fl) 17 1) ∧ ((Sil x t ∧ R = some (nI v, t)) ∨ (¬ Sil x t ∧ R = some (nI v, xsa t 0 2 fl)))
theorem p_sum {a b e : Nat} {x1 : Int32} {s t : xS} (ha : a < cut (s.1 13)) (hb : b < cut (s.1 13)) (he : e ≤ 1) : Cmb s t (if x1 = 9 then 0 else 1) (f_Processor_sum (nI a) (nI b) (nI e) s) (f_M_sum_63 x1 (nI a) (s.1 13) (nI (cut (s.1 13))) (nI b) (nI e) t) := by
  obtain ⟨hc, ht⟩ := cut_top (s.1 13)
  generalize hy : s.1 13 = y at *
  have hA : -(top y : Int) ≤ sg y a ∧ sg y a < top y := by unfold sg; split <;> omega
  have hB : -(top y : Int) ≤ sg y b ∧ sg y b < top y := by unfold sg; split <;> omega
  have hst : Int32.ofInt (sg y a) + Int32.ofInt (sg y b) + nI e = Int32.ofInt (sg y a + sg y b + e) := by rw [iI_n, ← Int32.ofInt_add, ← Int32.ofInt_add]
  have htot : nI a + nI b + nI e = nI (a + b + e) := by rw [nI_add, nI_add]
  have hneg : -nI (top y) = Int32.ofInt (-(top y : Int)) := by rw [iI_n, Int32.ofInt_neg]
  -- the overflow of both
  have hov : (sg y a + sg y b + e < -(top y : Int) ∨ ¬ sg y a + sg y b + e < top y) ↔ ¬ sg y a + sg y b + e = sg y ((a + b + e) % cut y) := by
    unfold sg
    rcases ht with q | q
    · rw [hc, q]
      split <;> split <;> split <;> omega
    · rw [hc, q]
      split <;> split <;> split <;> omega
  have hr : (a + b + e) % cut y < cut y := Nat.mod_lt _ (by omega)
  have hmask : ∃ q : Int32, f_Processor_mask s = some (q, s) ∧ nI (a + b + e) &&& q = nI ((a + b + e) % cut y) ∧ (nI (a + b + e) ≤ q ↔ a + b + e < cut y) := by
    unfold f_Processor_mask f_Processor_mask_15 cut
    rw [hy]
    by_cases h : y = 0
    · rw [if_pos h, if_pos h]
      refine ⟨_, rfl, and_65535 (by omega), ?_⟩
      have := nI_leI (a := a + b + e) (b := 65535) (by omega) (by omega)
      exact this.trans (by omega)
    · rw [if_neg h, if_neg h]
      refine ⟨_, rfl, and_255 (by omega), ?_⟩
      have := nI_leI (a := a + b + e) (b := 255) (by omega) (by omega)
      exact this.trans (by omega)
  obtain ⟨mq, mk1, mk2, mk3⟩ := hmask
  have h46 : ∀ o : Nat, o ≤ 1 → f_Processor_sum_46 (nI (a + b + e)) (nI o) s = some (nI ((a + b + e) % cut y), xsc (xsc s 16 (nI (flagN (if a + b + e < cut y then 0 else 1) o ((a + b + e) % cut y) y))) 17 1) := by
    intro o ho
    unfold f_Processor_sum_46 f_Processor_sum_70
    rw [mk1, Option.bind_some]
    show (f_Processor_mask s).bind _ = _
    rw [mk1, Option.bind_some, mk2]
    by_cases hcy : a + b + e < cut y
    · rw [if_pos (mk3.mpr hcy), if_pos hcy]
      show (f_Processor_askFlags (nI ((a + b + e) % cut y)) (nI 0) (nI o) s).bind _ = _
      rw [ask_eq (by omega) ho (by rw [hy]; exact hr), hy]
      rfl
    · rw [if_neg (fun q => hcy (mk3.mp q)), if_neg hcy]
      show (f_Processor_askFlags (nI ((a + b + e) % cut y)) (nI 1) (nI o) s).bind _ = _
      rw [ask_eq (by omega) ho (by rw [hy]; exact hr), hy]
      rfl
  have hC : f_Processor_sum (nI a) (nI b) (nI e) s = some (nI ((a + b + e) % cut y), xsc (xsc s 16 (nI (flagN (if a + b + e < cut y then 0 else 1) (if sg y a + sg y b + e = sg y ((a + b + e) % cut y) then 0 else 1) ((a + b + e) % cut y) y))) 17 1) := by
    unfold f_Processor_sum f_Processor_sum_41
    rw [sgn_C (by rw [hy]; exact ha), Option.bind_some]
    show (f_Processor_signed (nI b) s).bind _ = _
    rw [sgn_C (by rw [hy]; exact hb), Option.bind_some]
    show (f_Processor_highest s).bind _ = _
    rw [hi_eq, Option.bind_some, hy, hst, htot, hneg]
    show (if Int32.ofInt (sg y a + sg y b + e) < Int32.ofInt (-(top y : Int)) then f_Processor_sum_46 (nI (a + b + e)) (nI 1) s else (f_Processor_highest s).bind _) = _
    by_cases h1 : sg y a + sg y b + e < -(top y : Int)
    · rw [if_pos ((iI_lt (by omega) (by omega) (by omega) (by omega)).mpr h1), h46 1 (by omega), if_neg (hov.mp (Or.inl h1))]
    · rw [if_neg (fun q => h1 ((iI_lt (by omega) (by omega) (by omega) (by omega)).mp q)), hi_eq, Option.bind_some, hy]
      show (if Int32.ofInt (sg y a + sg y b + e) < nI (top y) then f_Processor_sum_46 (nI (a + b + e)) (nI 0) s else f_Processor_sum_46 (nI (a + b + e)) (nI 1) s) = _
      rw [iI_n (top y)]
      by_cases h2 : sg y a + sg y b + e < top y
      · rw [if_pos ((iI_lt (by omega) (by omega) (by omega) (by omega)).mpr h2), h46 0 (by omega)]
        have : sg y a + sg y b + e = sg y ((a + b + e) % cut y) := by
          refine Decidable.byContradiction fun q => ?_
          rcases hov.mpr q with z | z
          · exact h1 z
          · exact z h2
        rw [if_pos this]
      · rw [if_neg (fun q => h2 ((iI_lt (by omega) (by omega) (by omega) (by omega)).mp q)), h46 1 (by omega), if_neg (hov.mp (Or.inr h2))]
  have hcb : (if a + b + e < cut y then 0 else 1) ≤ 1 := by split <;> omega
  have hob : (if sg y a + sg y b + e = sg y ((a + b + e) % cut y) then 0 else 1) ≤ 1 := by split <;> omega
  refine ⟨(a + b + e) % cut y, _, by rw [hy]; exact hr, flag_rg hcb hob, hC, ?_⟩
  have h112 : ∀ y1 : Int32, (Sil y1 t ∧ f_M_sum_112 y (nI (cut y)) (nI (a + b + e)) (Int32.ofInt (sg y a + sg y b + e)) (nI ((a + b + e) % cut y)) y1 t = some (nI ((a + b + e) % cut y), t)) ∨ (¬ Sil y1 t ∧ f_M_sum_112 y (nI (cut y)) (nI (a + b + e)) (Int32.ofInt (sg y a + sg y b + e)) (nI ((a + b + e) % cut y)) y1 t = some (nI ((a + b + e) % cut y), xsa t 0 2 (nI (flagN (if a + b + e < cut y then 0 else 1) (if sg y a + sg y b + e = sg y ((a + b + e) % cut y) then 0 else 1) ((a + b + e) % cut y) y)))) := by
    intro y1
    unfold f_M_sum_112 f_M_sum_155
    rcases silent_eq y1 t with ⟨z1, z2⟩ | ⟨z1, z2⟩
    · refine Or.inl ⟨z2, ?_⟩
      rw [z1, Option.bind_some, if_neg one_ne0]
    · refine Or.inr ⟨z2, ?_⟩
      rw [z1, Option.bind_some, if_pos rfl]
      have h131 : ∀ c : Nat, c ≤ 1 → f_M_sum_131 y (nI (cut y)) (Int32.ofInt (sg y a + sg y b + e)) (nI ((a + b + e) % cut y)) (nI c) t = some (nI ((a + b + e) % cut y), xsa t 0 2 (nI (flagN c (if sg y a + sg y b + e = sg y ((a + b + e) % cut y) then 0 else 1) ((a + b + e) % cut y) y))) := by
        intro c hc1
        have hR2 : -(top y : Int) ≤ sg y ((a + b + e) % cut y) ∧ sg y ((a + b + e) % cut y) < top y := by
          generalize (a + b + e) % cut y = r at hr
          unfold sg; split <;> omega
        unfold f_M_sum_131 f_M_sum_148 f_M_sum_155
        rw [sgn_R hr, Option.bind_some]
        by_cases hq : sg y a + sg y b + e = sg y ((a + b + e) % cut y)
        · rw [if_pos ((iI_eq (by omega) (by omega) (by omega) (by omega)).mpr hq), if_pos hq]
          show (f_M_flags (nI c) (nI 0) _ _ _).bind _ = _
          rw [rflags_eq hc1 (by omega) (by omega)]
          rfl
        · rw [if_neg (fun z => hq ((iI_eq (by omega) (by omega) (by omega) (by omega)).mp z)), if_neg hq]
          show (f_M_flags (nI c) (nI 1) _ _ _).bind _ = _
          rw [rflags_eq hc1 (by omega) (by omega)]
          rfl
      by_cases hcy : a + b + e < cut y
      · rw [if_pos (nI_lt hcy (by omega)), if_pos hcy]
        exact h131 0 (by omega)
      · rw [if_neg (nI_nlt (by omega) (by omega)), if_neg hcy]
        exact h131 1 (by omega)
  have hR : f_M_sum_63 x1 (nI a) y (nI (cut y)) (nI b) (nI e) t = f_M_sum_112 y (nI (cut y)) (nI (a + b + e)) (Int32.ofInt (sg y a + sg y b + e)) (nI ((a + b + e) % cut y)) (if x1 = 9 then 0 else 1) t := by
    unfold f_M_sum_63
    rw [sgn_R ha, Option.bind_some, sgn_R hb, Option.bind_some, hst, htot, show xrem (nI (a + b + e)) (nI (cut y)) = nI ((a + b + e) % cut y) from xrem_nI (by omega) (by omega) (by omega)]
    have hz : (!(nI (cut y) == 0)) = true := by
      rcases ht with q | q
      · rw [hc, q]; decide
      · rw [hc, q]; decide
    rw [if_pos hz]
    split <;> rfl
  rw [hR]
  exact h112 _
