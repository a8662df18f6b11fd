theorem M_sum_eq {x1 x2 x3 y : Int32} {t : xS} : f_M_sum x1 x2 x3 y t = f_M_sum_13 x1 x2 x3 y (nI (cut y)) t := by
  unfold f_M_sum cut
  split <;> rfl
theorem M_bits_eq {x1 x2 x3 y : Int32} {t : xS} : f_M_bits x1 x2 x3 y t = f_M_bits_13 x1 x2 x3 y (nI (cut y)) t := by
  unfold f_M_bits cut
  split <;> rfl
theorem cut_sub {y : Int32} {c : Nat} (hc : c < cut y) : nI (cut y) - 1 - nI c = nI (cut y - 1 - c) := by
  rw [show nI (cut y) - 1 = nI (cut y - 1) from pk_sub (b := 1) (by omega), pk_sub (by omega)]
/-- what the reference makes of two operands -/
def Res (k a c : Nat) (y : Int32) (t : xS) : Option (Int32 × xS) := if nI k = 4 then some (nI c, t) else if 10 ≤ nI k then (if nI k = 10 then f_M_decimal (nI c) (nI a) y t else f_M_bits (nI k) (nI c) (nI a) y t) else f_M_sum (nI k) (nI c) (nI a) y t
theorem p_comb {m b k a c : Nat} {s t : xS} (hk : 4 ≤ k ∧ k ≤ 15) (ha : a < cut (s.1 13)) (hc : c < cut (s.1 13)) (h : OnR m b s t) :
    ((k = 4 ∨ k = 12 ∨ k = 13) ∧ ∃ v : Nat, v < cut (s.1 13) ∧ f_Processor_combined (nI k) (nI a) (nI c) s = some (nI v, s) ∧ Res k a c (s.1 13) t = some (nI v, t)) ∨
    (¬ (k = 4 ∨ k = 12 ∨ k = 13) ∧ Cmb s t (if k = 9 ∨ k = 11 then 0 else 1) (f_Processor_combined (nI k) (nI a) (nI c) s) (Res k a c (s.1 13) t)) := by
  have hcr : cut (s.1 13) ≤ 65536 := by unfold cut; split <;> omega
  obtain ⟨hct, htp⟩ := cut_top (s.1 13)
  obtain ⟨q, iq1, iq2⟩ := inv_eq hc
  obtain ⟨cy, cy1, cy2, cy3⟩ := carry_eq h
  have hinv : cut (s.1 13) - 1 - c < cut (s.1 13) := by omega
  have hand := and_cut (c := c) ha
  obtain ⟨hor, hxor⟩ := or_cut ha hc
  have eand : nI a &&& nI c = nI (a &&& c) := and_nI (by omega) (by omega)
  have ecom : c &&& a = a &&& c := Nat.and_comm c a
  unfold f_Processor_combined Res
  rw [iq1, Option.bind_some]
  have hk' : k = 4 ∨ k = 5 ∨ k = 6 ∨ k = 7 ∨ k = 8 ∨ k = 9 ∨ k = 10 ∨ k = 11 ∨ k = 12 ∨ k = 13 ∨ k = 14 ∨ k = 15 := by omega
  rcases hk' with rfl | rfl | rfl | rfl | rfl | rfl | rfl | rfl | rfl | rfl | rfl | rfl
  · refine Or.inl ⟨by omega, c, hc, ?_, ?_⟩
    · rw [if_pos (by decide)]
    · rw [if_pos (by decide)]
  · refine Or.inr ⟨by omega, ?_⟩
    show Cmb s t 1 _ _
    rw [if_neg (by decide), if_pos (by decide), if_neg (by decide), if_neg (by decide)]
    have := p_sum (x1 := nI 5) (t := t) ha hc (e := 0) (by omega)
    rw [if_neg (by decide)] at this
    have hR : f_M_sum (nI 5) (nI c) (nI a) (s.1 13) t = f_M_sum_63 (nI 5) (nI a) (s.1 13) (nI (cut (s.1 13))) (nI c) (nI 0) t := by
      rw [M_sum_eq]
      unfold f_M_sum_13 f_M_sum_31
      rw [if_neg (by decide), if_neg (by decide), if_neg (by decide), if_pos (by decide)]
      rfl
    rw [hR, bind_eta]
    exact this
  · refine Or.inr ⟨by omega, ?_⟩
    show Cmb s t 1 _ _
    rw [if_neg (by decide), if_neg (by decide), if_pos (by decide), if_neg (by decide), if_neg (by decide)]
    have := p_sum (x1 := nI 6) (t := t) ha hc cy1
    rw [if_neg (by decide)] at this
    have hR : f_M_sum (nI 6) (nI c) (nI a) (s.1 13) t = f_M_sum_63 (nI 6) (nI a) (s.1 13) (nI (cut (s.1 13))) (nI c) (nI cy) t := by
      rw [M_sum_eq]
      unfold f_M_sum_13 f_M_sum_31 f_M_sum_45
      rw [if_neg (by decide), if_pos (by decide), cy3, Option.bind_some]
    rw [hR]
    show Cmb s t 1 ((f_Processor_carry s).bind _) _
    rw [cy2, Option.bind_some, bind_eta]
    exact this
  · refine Or.inr ⟨by omega, ?_⟩
    show Cmb s t 1 _ _
    rw [if_neg (by decide), if_neg (by decide), if_neg (by decide), if_pos (by decide), if_neg (by decide), if_neg (by decide)]
    have := p_sum (x1 := nI 7) (t := t) ha hinv cy1
    rw [if_neg (by decide)] at this
    have hR : f_M_sum (nI 7) (nI c) (nI a) (s.1 13) t = f_M_sum_63 (nI 7) (nI a) (s.1 13) (nI (cut (s.1 13))) (nI (cut (s.1 13) - 1 - c)) (nI cy) t := by
      rw [M_sum_eq]
      unfold f_M_sum_13 f_M_sum_31 f_M_sum_45
      rw [if_pos (by decide), if_neg (by decide), if_pos (by decide), cy3, Option.bind_some, cut_sub hc]
    rw [hR]
    show Cmb s t 1 ((f_Processor_carry s).bind _) _
    rw [cy2, Option.bind_some, iq2, bind_eta]
    exact this
  · refine Or.inr ⟨by omega, ?_⟩
    show Cmb s t 1 _ _
    rw [if_neg (by decide), if_neg (by decide), if_neg (by decide), if_neg (by decide), if_pos (by decide), if_neg (by decide), if_neg (by decide)]
    have := p_sum (x1 := nI 8) (t := t) ha hinv (e := 1) (by omega)
    rw [if_neg (by decide)] at this
    have hR : f_M_sum (nI 8) (nI c) (nI a) (s.1 13) t = f_M_sum_63 (nI 8) (nI a) (s.1 13) (nI (cut (s.1 13))) (nI (cut (s.1 13) - 1 - c)) (nI 1) t := by
      rw [M_sum_eq]
      unfold f_M_sum_13 f_M_sum_31
      rw [if_pos (by decide), if_neg (by decide), if_neg (by decide), if_neg (by decide), cut_sub hc]
      rfl
    rw [hR, iq2, bind_eta]
    exact this
  · refine Or.inr ⟨by omega, ?_⟩
    show Cmb s t 0 _ _
    rw [if_neg (by decide), if_neg (by decide), if_neg (by decide), if_neg (by decide), if_neg (by decide), if_pos (by decide), if_neg (by decide), if_neg (by decide)]
    have := p_sum (x1 := nI 9) (t := t) ha hinv (e := 1) (by omega)
    rw [if_pos (by decide)] at this
    have hR : f_M_sum (nI 9) (nI c) (nI a) (s.1 13) t = f_M_sum_63 (nI 9) (nI a) (s.1 13) (nI (cut (s.1 13))) (nI (cut (s.1 13) - 1 - c)) (nI 1) t := by
      rw [M_sum_eq]
      unfold f_M_sum_13 f_M_sum_31
      rw [if_pos (by decide), if_neg (by decide), if_neg (by decide), if_neg (by decide), cut_sub hc]
      rfl
    rw [hR, iq2, bind_eta]
    exact this
  · refine Or.inr ⟨by omega, ?_⟩
    show Cmb s t 1 _ _
    rw [if_neg (by decide), if_neg (by decide), if_neg (by decide), if_neg (by decide), if_neg (by decide), if_neg (by decide), if_pos (by decide), if_neg (by decide), if_pos (by decide), if_pos (by decide), bind_eta]
    exact p_dec ha hc h
  · refine Or.inr ⟨by omega, ?_⟩
    show Cmb s t 0 _ _
    rw [if_neg (by decide), if_neg (by decide), if_neg (by decide), if_neg (by decide), if_neg (by decide), if_neg (by decide), if_neg (by decide), if_pos (by decide), if_neg (by decide), if_pos (by decide), if_neg (by decide), bind_eta, eand]
    refine ⟨a &&& c, _, hand, flag_rg (by split <;> omega) (by omega), logical_eq (o := 0) (by omega) hand, ?_⟩
    have hR : f_M_bits (nI 11) (nI c) (nI a) (s.1 13) t = f_M_bits_126 (s.1 13) (nI (a &&& c)) (nI 0) 0 t := by
      rw [M_bits_eq]
      unfold f_M_bits_13 f_M_bits_59 f_M_bits_78 f_M_bits_106 f_M_bits_107
      rw [if_neg (by decide), if_neg (by decide), if_neg (by decide), if_neg (by decide), if_neg (by decide), if_neg (by decide), if_neg (by decide), if_pos (by decide), eand]
      rfl
    rw [hR]
    exact bits126 (by omega) (by omega)
  · refine Or.inl ⟨by omega, a &&& (cut (s.1 13) - 1 - c), and_cut ha, ?_, ?_⟩
    · rw [if_neg (by decide), if_neg (by decide), if_neg (by decide), if_neg (by decide), if_neg (by decide), if_neg (by decide), if_neg (by decide), if_neg (by decide), if_pos (by decide), iq2, and_nI (by omega) (by omega)]
    · rw [if_neg (by decide), if_pos (by decide), if_neg (by decide), M_bits_eq]
      unfold f_M_bits_13 f_M_bits_59 f_M_bits_77 f_M_bits_78 f_M_bits_106 f_M_bits_107 f_M_bits_152
      rw [if_pos (by decide), if_pos (by decide), if_neg (by decide), if_pos rfl, cut_sub hc, and_nI (by omega) (by omega)]
  · refine Or.inl ⟨by omega, a ||| c, hor, ?_, ?_⟩
    · rw [if_neg (by decide), if_neg (by decide), if_neg (by decide), if_neg (by decide), if_neg (by decide), if_neg (by decide), if_neg (by decide), if_neg (by decide), if_neg (by decide), if_pos (by decide), or_nI (by omega) (by omega)]
    · rw [if_neg (by decide), if_pos (by decide), if_neg (by decide), M_bits_eq]
      unfold f_M_bits_13 f_M_bits_59 f_M_bits_77 f_M_bits_78 f_M_bits_106 f_M_bits_107 f_M_bits_152
      rw [if_neg (by decide), if_pos (by decide), if_neg (by decide), if_pos (by decide), if_neg (by decide), if_pos rfl, or_nI (by omega) (by omega)]
  · refine Or.inr ⟨by omega, ?_⟩
    show Cmb s t 1 _ _
    rw [if_neg (by decide), if_neg (by decide), if_neg (by decide), if_neg (by decide), if_neg (by decide), if_neg (by decide), if_neg (by decide), if_neg (by decide), if_neg (by decide), if_neg (by decide), if_pos (by decide), if_neg (by decide), if_pos (by decide), if_neg (by decide)]
    have hov := top_and ha hc
    have exor : nI a ^^^ nI c = nI (a ^^^ c) := xor_nI (by omega) (by omega)
    have hC : ((f_Processor_highest s).bind fun q34 => if ((nI a &&& nI c) &&& q34.1) = 0 then (f_Processor_combined_153 (nI a ^^^ nI c) 0 q34.2) else (f_Processor_combined_153 (nI a ^^^ nI c) 1 q34.2)) = f_Processor_logical (nI (a ^^^ c)) (nI (if a < top (s.1 13) ∨ c < top (s.1 13) then 0 else 1)) s := by
      rw [hi_eq, Option.bind_some, eand, exor]
      unfold f_Processor_combined_153
      by_cases hq : a < top (s.1 13) ∨ c < top (s.1 13)
      · rw [if_pos ((hi_bit hand).mpr (hov.mpr hq)), if_pos hq, bind_eta]; rfl
      · rw [if_neg (fun z => hq (hov.mp ((hi_bit hand).mp z))), if_neg hq, bind_eta]; rfl
    show Cmb s t 1 ((f_Processor_highest s).bind fun q34 => if ((nI a &&& nI c) &&& q34.1) = 0 then (f_Processor_combined_153 (nI a ^^^ nI c) 0 q34.2) else (f_Processor_combined_153 (nI a ^^^ nI c) 1 q34.2)) _
    rw [hC]
    have ho1 : (if a < top (s.1 13) ∨ c < top (s.1 13) then 0 else 1) ≤ 1 := by split <;> omega
    refine ⟨a ^^^ c, _, hxor, flag_rg (by split <;> omega) ho1, logical_eq ho1 hxor, ?_⟩
    have hR : f_M_bits (nI 14) (nI c) (nI a) (s.1 13) t = f_M_bits_126 (s.1 13) (nI (a ^^^ c)) (nI (if a < top (s.1 13) ∨ c < top (s.1 13) then 0 else 1)) 1 t := by
      rw [M_bits_eq]
      unfold f_M_bits_13 f_M_bits_59 f_M_bits_78 f_M_bits_106 f_M_bits_107
      rw [if_neg (by decide), if_neg (by decide), if_pos (by decide), if_neg (by decide), if_neg (by decide), if_pos (by decide), exor]
      rw [show nI (cut (s.1 13)) / 2 = nI (cut (s.1 13) / 2) from pk_div (d := 2) (by omega) (by omega) (by omega), show cut (s.1 13) / 2 = top (s.1 13) by omega]
      by_cases hcq : c < top (s.1 13)
      · rw [if_pos (nI_lt hcq (by omega)), if_pos (Or.inr hcq), if_neg one_ne0, if_neg (by decide)]; rfl
      · rw [if_neg (nI_nlt (by omega) (by omega))]
        by_cases haq : a < top (s.1 13)
        · rw [if_pos (nI_lt haq (by omega)), if_pos (Or.inl haq), if_neg one_ne0, if_neg (by decide)]; rfl
        · rw [if_neg (nI_nlt (by omega) (by omega)), if_neg one_ne0, if_neg (by decide), if_neg (by omega)]; rfl
    rw [hR]
    exact bits126 ho1 (by omega)
  · refine Or.inr ⟨by omega, ?_⟩
    show Cmb s t 1 _ _
    rw [if_neg (by decide), if_neg (by decide), if_neg (by decide), if_neg (by decide), if_neg (by decide), if_neg (by decide), if_neg (by decide), if_neg (by decide), if_neg (by decide), if_neg (by decide), if_neg (by decide), if_pos (by decide), if_neg (by decide), if_pos (by decide), if_neg (by decide), bind_eta, eand]
    refine ⟨a &&& c, _, hand, flag_rg (by split <;> omega) (by omega), logical_eq (o := 0) (by omega) hand, ?_⟩
    have hR : f_M_bits (nI 15) (nI c) (nI a) (s.1 13) t = f_M_bits_126 (s.1 13) (nI (a &&& c)) (nI 0) 1 t := by
      rw [M_bits_eq]
      unfold f_M_bits_13 f_M_bits_59 f_M_bits_78 f_M_bits_106 f_M_bits_107
      rw [if_neg (by decide), if_neg (by decide), if_neg (by decide), if_neg (by decide), if_neg (by decide), if_neg (by decide), if_neg (by decide), if_neg (by decide), eand]
      rfl
    rw [hR]
    exact bits126 (by omega) (by omega)
