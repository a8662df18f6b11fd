theorem le01 (z : Nat) : (if z = 0 then 0 else 1) ≤ 1 := by split <;> omega
theorem and_top {k r : Nat} (hr : r < 2 ^ (k + 1)) : r &&& 2 ^ k = if r < 2 ^ k then 0 else 2 ^ k := by
  by_cases h : r < 2 ^ k
  · rw [if_pos h]; exact (top_bit k hr).mpr h
  · rw [if_neg h]
    apply Nat.eq_of_testBit_eq
    intro i
    rw [Nat.testBit_and]
    by_cases hi : k = i
    · subst hi
      have h2 : r / 2 ^ k = 1 := by
        rw [Nat.pow_succ] at hr
        exact Nat.div_eq_of_lt_le (by omega) (by omega)
      rw [Nat.testBit_two_pow_self, Bool.and_true, Nat.testBit_eq_decide_div_mod_eq, h2]; rfl
    · rw [Nat.testBit_two_pow_of_ne hi, Bool.and_false]
theorem and_topy {y : Int32} {r : Nat} (hr : r < cut y) : nI r &&& nI (top y) = nI (if r < top y then 0 else top y) := by
  obtain ⟨h1, h2⟩ := cut_top y
  rw [and_nI (by omega) (by omega)]
  rcases h2 with h2 | h2
  · rw [h2]; exact congrArg nI (and_top (k := 15) (by omega))
  · rw [h2]; exact congrArg nI (and_top (k := 7) (by omega))
theorem or_top {y : Int32} {a c : Nat} (ha : a < top y) (hc : c = 0 ∨ c = top y) : nI a ||| nI c = nI (a + c) := by
  obtain ⟨h1, h2⟩ := cut_top y
  rw [or_nI (by omega) (by omega)]
  congr 1
  rcases hc with rfl | rfl
  · rw [Nat.or_zero, Nat.add_zero]
  · rw [Nat.or_comm, Nat.add_comm]
    rcases h2 with h2 | h2
    · rw [h2] at ha ⊢
      have := or_add (a := 1) (b := a) (k := 15) (by omega)
      omega
    · rw [h2] at ha ⊢
      have := or_add (a := 1) (b := a) (k := 7) (by omega)
      omega
theorem sxt8 : ∀ x, x < 256 → (nI x).toInt8.toInt32 &&& 65535 = nI (if x < 128 then x else x + 65280) := by decide +kernel
theorem toInt8_mod (v : Nat) : (nI v).toInt8 = (nI (v % 256)).toInt8 := by
  apply Int8.toBitVec_inj.mp
  apply BitVec.eq_of_toNat_eq
  show ((BitVec.ofNat 32 v).signExtend 8).toNat = ((BitVec.ofNat 32 (v % 256)).signExtend 8).toNat
  rw [BitVec.signExtend_eq_setWidth_of_le _ (by omega), BitVec.signExtend_eq_setWidth_of_le _ (by omega), BitVec.toNat_setWidth, BitVec.toNat_setWidth, BitVec.toNat_ofNat, BitVec.toNat_ofNat]
  omega
/-- the end of a one-operand instruction in the reference -/
theorem one286 {k v r c : Nat} {y : Int32} {t : xS} (hk : k = 0 ∨ k = 2 ∨ k = 3) (hv : v < 65536) (hr : r < 65536) (hc : c ≤ 1) (hc3 : k = 3 → c = if r = 0 then 0 else 1) (hc0 : k ≠ 3 → c = v % 2) :
    (Sil 1 t ∧ f_M_one_286 (nI k) y (nI v) (nI r) t = f_M_back (nI r) y t) ∨ (¬ Sil 1 t ∧ f_M_one_286 (nI k) y (nI v) (nI r) t = f_M_back (nI r) y (xsa t 0 2 (nI (flagN c 0 r y)))) := by
  have e1 : ¬ nI k = 1 := by rcases hk with rfl | rfl | rfl <;> decide
  have e0 : nI r = 0 ↔ r = 0 := nI_eq_lit (by omega) 0 (by omega)
  have h331 : ∀ q : xS, f_M_one_331 y (nI r) q = f_M_back (nI r) y q := by
    intro q
    unfold f_M_one_331
    exact bind_eta1 _
  have h324 : ∀ z : Nat, z ≤ 1 → f_M_one_324 y (nI r) (nI z) t = f_M_back (nI r) y (xsa t 0 2 (nI (flagN z 0 r y))) := by
    intro z hz
    unfold f_M_one_324
    show (f_M_flags (nI z) (nI 0) (nI r) y t).bind _ = _
    rw [rflags_eq hz (by omega) hr, Option.bind_some, h331]
  unfold f_M_one_286
  rw [if_neg e1]
  rcases silent_eq 1 t with ⟨z1, z2⟩ | ⟨z1, z2⟩
  · refine Or.inl ⟨z2, ?_⟩
    rw [z1, Option.bind_some, if_neg one_ne0, h331]
  · refine Or.inr ⟨z2, ?_⟩
    rw [z1, Option.bind_some, if_pos rfl]
    by_cases h3 : k = 3
    · rw [h3, if_pos (show nI 3 = 3 from rfl)]
      have hc3 := hc3 h3
      by_cases h0 : r = 0
      · rw [if_pos (e0.mpr h0)]
        rw [if_pos h0] at hc3
        rw [hc3]; exact h324 0 (by omega)
      · rw [if_neg (fun q => h0 (e0.mp q))]
        rw [if_neg h0] at hc3
        rw [hc3]; exact h324 1 (by omega)
    · rw [if_neg (show ¬ nI k = 3 from fun q => h3 ((nI_eq_lit (by omega) 3 (by omega)).mp q)), show xrem (nI v) 2 = nI (v % 2) from xrem_nI (d := 2) (by omega) (by omega) (by omega), hc0 h3]
      exact h324 _ (by omega)
/-- rotations, swaps, sign extension -/
theorem p_chg {m b k v : Nat} {s t : xS} (hk : k ≤ 3) (hv : v < cut (s.1 13)) (hy : s.1 13 = 0 ∨ (k ≠ 1 ∧ k ≠ 3)) (h : OnR m b s t) :
    (k = 1 ∧ ∃ r : Nat, r < cut (s.1 13) ∧ f_Processor_changed (nI k) (nI v) s = some (nI r, s) ∧ f_M_one_137 (nI k) (s.1 13) (nI v) (nI (top (s.1 13))) t = f_M_back (nI r) (s.1 13) t) ∨
    (∃ (r : Nat) (fl : Int32), r < cut (s.1 13) ∧ rg 2 fl ∧ f_Processor_changed (nI k) (nI v) s = some (nI r, xsc (xsc s 16 fl) 17 1) ∧ ((Sil 1 t ∧ f_M_one_137 (nI k) (s.1 13) (nI v) (nI (top (s.1 13))) t = f_M_back (nI r) (s.1 13) t) ∨ (¬ Sil 1 t ∧ f_M_one_137 (nI k) (s.1 13) (nI v) (nI (top (s.1 13))) t = f_M_back (nI r) (s.1 13) (xsa t 0 2 fl)))) := by
  obtain ⟨hct, htp⟩ := cut_top (s.1 13)
  have hcr : cut (s.1 13) ≤ 65536 := by omega
  obtain ⟨cy, cy1, cy2, cy3⟩ := carry_eq h
  have s1 : nI v >>> ((1 : Int32) &&& 31) = nI (v / 2) := shr_nI (k := 1) (by omega) (by omega)
  have a1 : nI v &&& 1 = nI (v % 2) := and_1 (by omega)
  have d2 : nI v / 2 = nI (v / 2) := pk_div (d := 2) (by omega) (by omega) (by omega)
  have h54 : ∀ r : Nat, r < cut (s.1 13) → (if nI (v % 2) = 1 then (f_Processor_changed_54 (nI r) 1 s) else (f_Processor_changed_54 (nI r) 0 s)) = some (nI r, xsc (xsc s 16 (nI (flagN (v % 2) 0 r (s.1 13)))) 17 1) := by
    intro r hr
    unfold f_Processor_changed_54
    by_cases ho : v % 2 = 1
    · rw [ho, if_pos (show nI 1 = 1 from rfl)]
      show (f_Processor_askFlags (nI r) (nI 1) (nI 0) s).bind _ = _
      rw [ask_eq (by omega) (by omega) hr]; rfl
    · rw [show v % 2 = 0 by omega, if_neg (show ¬ nI 0 = 1 by decide)]
      show (f_Processor_askFlags (nI r) (nI 0) (nI 0) s).bind _ = _
      rw [ask_eq (by omega) (by omega) hr]; rfl
  have h96 : ∀ r : Nat, r < cut (s.1 13) → (if nI (v % 2) = 1 then (f_Processor_changed_96 (nI r) 1 s) else (f_Processor_changed_96 (nI r) 0 s)) = some (nI r, xsc (xsc s 16 (nI (flagN (v % 2) 0 r (s.1 13)))) 17 1) := h54
  unfold f_Processor_changed f_M_one_137
  rcases (show k = 0 ∨ k = 1 ∨ k = 2 ∨ k = 3 by omega) with rfl | rfl | rfl | rfl
  · right
    have hr : v / 2 + cy * top (s.1 13) < cut (s.1 13) := by
      rcases (show cy = 0 ∨ cy = 1 by omega) with z | z <;> rw [z] <;> omega
    have hor : nI (v / 2) ||| nI (cy * top (s.1 13)) = nI (v / 2 + cy * top (s.1 13)) := or_top (y := s.1 13) (by omega) (by rcases (show cy = 0 ∨ cy = 1 by omega) with z | z <;> rw [z] <;> omega)
    refine ⟨v / 2 + cy * top (s.1 13), nI (flagN (v % 2) 0 (v / 2 + cy * top (s.1 13)) (s.1 13)), hr, flag_rg (by omega) (by omega), ?_, ?_⟩
    · rw [if_neg (by decide), if_pos (show nI 0 = 0 from rfl), cy2, Option.bind_some]
      show (f_Processor_highest s).bind _ = _
      rw [hi_eq, Option.bind_some, s1, a1]
      show (if nI (v % 2) = 1 then f_Processor_changed_54 (nI (v / 2) ||| (nI cy * nI (top (s.1 13)))) 1 s else f_Processor_changed_54 (nI (v / 2) ||| (nI cy * nI (top (s.1 13)))) 0 s) = _
      rw [pk_mul, hor]
      exact h54 _ hr
    · rw [if_pos (by decide), if_neg (by decide), if_neg (by decide), if_pos (show nI 0 = 0 from rfl), cy3, Option.bind_some, d2]
      unfold f_M_one_285
      show (Sil 1 t ∧ f_M_one_286 (nI 0) (s.1 13) (nI v) (nI (v / 2) + nI cy * nI (top (s.1 13))) t = _) ∨ (¬ Sil 1 t ∧ f_M_one_286 (nI 0) (s.1 13) (nI v) (nI (v / 2) + nI cy * nI (top (s.1 13))) t = _)
      rw [pk_mul, nI_add]
      exact one286 (Or.inl rfl) (by omega) (by omega) (by omega) (fun q => by omega) (fun _ => rfl)
  · left
    have hy0 : s.1 13 = 0 := by
      rcases hy with z | z
      · exact z
      · exact absurd rfl z.1
    have hc0 : cut (s.1 13) = 65536 := by rw [hy0]; rfl
    refine ⟨rfl, v % 256 * 256 + v / 256, by omega, ?_, ?_⟩
    · rw [if_neg (by decide), if_neg (by decide), if_pos (show nI 1 = 1 from rfl), show nI v >>> ((8 : Int32) &&& 31) = nI (v / 256) from shr_nI (k := 8) (by omega) (by omega), and_255 (by omega), show nI (v % 256) <<< ((8 : Int32) &&& 31) = nI (v % 256 * 2 ^ 8) from shl_nI (k := 8) (by omega) (by omega), or_nI (by omega) (by omega), Nat.or_comm, or_add (by omega)]
    · rw [if_pos (by decide), if_pos (show nI 1 = 1 from rfl), show xrem (nI v) 256 = nI (v % 256) from xrem_nI (d := 256) (by omega) (by omega) (by omega), show nI (v % 256) * 256 = nI (v % 256 * 256) from pk_mul _ 256, show nI v / 256 = nI (v / 256) from pk_div (d := 256) (by omega) (by omega) (by omega), nI_add]
      unfold f_M_one_286 f_M_one_331
      rw [if_pos (show nI 1 = 1 from rfl)]
      exact bind_eta1 _
  · right
    have hr : v / 2 + (if v < top (s.1 13) then 0 else top (s.1 13)) < cut (s.1 13) := by split <;> omega
    have hor : nI (v / 2) ||| nI (if v < top (s.1 13) then 0 else top (s.1 13)) = nI (v / 2 + (if v < top (s.1 13) then 0 else top (s.1 13))) := or_top (y := s.1 13) (by omega) (by split <;> omega)
    refine ⟨v / 2 + (if v < top (s.1 13) then 0 else top (s.1 13)), nI (flagN (v % 2) 0 (v / 2 + (if v < top (s.1 13) then 0 else top (s.1 13))) (s.1 13)), hr, flag_rg (by omega) (by omega), ?_, ?_⟩
    · rw [if_neg (by decide), if_neg (by decide), if_neg (by decide), if_pos (show nI 2 = 2 from rfl), hi_eq, Option.bind_some, s1, a1]
      show (if nI (v % 2) = 1 then f_Processor_changed_96 (nI (v / 2) ||| (nI v &&& nI (top (s.1 13)))) 1 s else f_Processor_changed_96 (nI (v / 2) ||| (nI v &&& nI (top (s.1 13)))) 0 s) = _
      rw [and_topy hv, hor]
      exact h96 _ hr
    · rw [if_pos (by decide), if_neg (by decide), if_neg (by decide), if_neg (by decide), d2]
      have hsel : (if nI v < nI (top (s.1 13)) then f_M_one_285 (nI 2) (s.1 13) (nI v) (nI (v / 2)) 0 t else f_M_one_285 (nI 2) (s.1 13) (nI v) (nI (v / 2)) (nI (top (s.1 13))) t) = f_M_one_286 (nI 2) (s.1 13) (nI v) (nI (v / 2 + (if v < top (s.1 13) then 0 else top (s.1 13)))) t := by
        unfold f_M_one_285
        by_cases hl : v < top (s.1 13)
        · rw [if_pos (nI_lt hl (by omega)), if_pos hl, show nI (v / 2) + 0 = nI (v / 2 + 0) from nI_add _ 0]
        · rw [if_neg (nI_nlt (by omega) (by omega)), if_neg hl, nI_add]
      rw [hsel]
      exact one286 (Or.inr (Or.inl rfl)) (by omega) (by omega) (by omega) (fun q => by omega) (fun _ => rfl)
  · right
    have hy0 : s.1 13 = 0 := by
      rcases hy with z | z
      · exact z
      · exact absurd rfl z.2
    have hc0 : cut (s.1 13) = 65536 := by rw [hy0]; rfl
    have hx : v % 256 < 256 := by omega
    have hr : (if v % 256 < 128 then v % 256 else v % 256 + 65280) < cut (s.1 13) := by split <;> omega
    refine ⟨if v % 256 < 128 then v % 256 else v % 256 + 65280, nI (flagN (if (if v % 256 < 128 then v % 256 else v % 256 + 65280) = 0 then 0 else 1) 0 (if v % 256 < 128 then v % 256 else v % 256 + 65280) (s.1 13)), hr, flag_rg (le01 _) (by omega), ?_, ?_⟩
    · rw [if_pos (by decide), toInt8_mod, sxt8 _ hx, bind_eta]
      exact logical_eq (o := 0) (by omega) hr
    · rw [if_pos (by decide), if_neg (by decide), if_pos (show nI 3 = 3 from rfl), show xrem (nI v) 256 = nI (v % 256) from xrem_nI (d := 256) (by omega) (by omega) (by omega)]
      have hsg : ∃ q : Int32, f_M_signed (nI (v % 256)) 256 = some q ∧ xrem (q + 65536) 65536 = nI (if v % 256 < 128 then v % 256 else v % 256 + 65280) := by
        unfold f_M_signed f_M_signed_14
        rw [show (256 : Int32) / 2 = nI 128 by decide]
        by_cases hl : v % 256 < 128
        · rw [if_pos (nI_lt hl (by omega)), if_pos hl]
          refine ⟨_, rfl, ?_⟩
          rw [show nI (v % 256) + 65536 = nI (v % 256 + 65536) from nI_add _ 65536]
          rw [show xrem (nI (v % 256 + 65536)) 65536 = nI ((v % 256 + 65536) % 65536) from xrem_nI (d := 65536) (by omega) (by omega) (by omega)]
          exact congrArg nI (by omega)
        · rw [if_neg (nI_nlt (by omega) (by omega)), if_neg hl]
          refine ⟨_, rfl, ?_⟩
          rw [show (256 : Int32) = nI 256 from rfl, nI_subw (by omega), show nI (v % 256 + 2 ^ 32 - 256) + 65536 = nI (v % 256 + 2 ^ 32 - 256 + 65536) from nI_add _ 65536, nI_mod]
          rw [show (v % 256 + 2 ^ 32 - 256 + 65536) % 2 ^ 32 = v % 256 + 65280 by omega]
          rw [show xrem (nI (v % 256 + 65280)) 65536 = nI ((v % 256 + 65280) % 65536) from xrem_nI (d := 65536) (by omega) (by omega) (by omega)]
          exact congrArg nI (by omega)
      obtain ⟨q, q1, q2⟩ := hsg
      rw [q1, Option.bind_some, q2]
      exact one286 (Or.inr (Or.inr rfl)) (by omega) (by omega) (le01 _) (fun _ => rfl) (fun q => absurd rfl q)
