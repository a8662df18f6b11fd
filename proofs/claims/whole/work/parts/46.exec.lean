theorem p_exec {s t : xS} (h : OnR 2 3 s t) : Fin 4 4 (f_Processor_execute s) (f_M_instruction t) := by
  obtain ⟨w, s1, t1, c1, c2, ⟨n, hn, rfl⟩, c4, c5, c6⟩ := p_next (by omega) h
  have s12 : nI n >>> ((12 : Int32) &&& 31) = nI (n / 4096) := shr_nI (k := 12) (by omega) (by omega)
  have s10 : nI n >>> ((10 : Int32) &&& 31) = nI (n / 1024) := shr_nI (k := 10) (by omega) (by omega)
  have d12 : nI n / 4096 = nI (n / 4096) := pk_div (d := 4096) (by omega) (by omega) (by omega)
  have d10 : nI n / 1024 = nI (n / 1024) := pk_div (d := 1024) (by omega) (by omega) (by omega)
  have d7 : xrem (nI n / 128) 8 = nI (n / 128 % 8) := by rw [show nI n / 128 = nI (n / 128) from pk_div (d := 128) (by omega) (by omega) (by omega)]; exact xrem_nI (d := 8) (by omega) (by omega) (by omega)
  have hon : OnR 2 3 (xsc s1 17 0) t1 := c4
  have l4 : nI (n / 4096) < 4 ↔ n / 4096 < 4 := nI_ltI (b := 4) (by omega) (by omega)
  have l2 : nI (n / 4096) < 2 ↔ n / 4096 < 2 := nI_ltI (b := 2) (by omega) (by omega)
  have g3 : nI (n / 4096) ≤ 3 ↔ n / 4096 ≤ 3 := nI_leI (b := 3) (by omega) (by omega)
  have g1 : nI (n / 4096) ≤ 1 ↔ n / 4096 ≤ 1 := nI_leI (b := 1) (by omega) (by omega)
  have e4 : nI (n / 1024) = 4 ↔ n / 1024 = 4 := nI_eq_lit (by omega) 4 (by omega)
  unfold f_Processor_execute f_M_instruction f_Processor_execute_55 f_M_instruction_60
  rw [c1, c2, Option.bind_some, Option.bind_some, s12, s10, d12, d10, d7]
  simp only [bind_eta1]
  by_cases h4 : n / 4096 < 4
  · rw [if_pos (l4.mpr h4), if_pos (g3.mpr (by omega))]
    by_cases h2 : n / 4096 < 2
    · rw [if_pos (l2.mpr h2), if_pos (g1.mpr (by omega))]
      by_cases h1 : n / 1024 = 4
      · rw [if_pos (e4.mpr h1), if_pos (e4.mpr h1)]
        exact p_one (by omega) (by omega) hn rfl hon
      · rw [if_neg (fun q => h1 (e4.mp q)), if_neg (fun q => h1 (e4.mp q))]
        exact Or.inl ⟨_, _, rfl, rfl, hon.up.up.1.up, hon.2⟩
    · rw [if_neg (fun q => h2 (l2.mp q)), if_neg (fun q => h2 (by have := g1.mp q; omega))]
      obtain ⟨s2, t2, k1, k2, k3⟩ := p_jump hn hon
      exact Or.inl ⟨s2, t2, k1, k2, k3.up.up.1.up, k3.2⟩
  · rw [if_neg (fun q => h4 (l4.mp q)), if_neg (fun q => h4 (by have := g3.mp q; omega))]
    exact p_two (by omega) (by omega) hn (by omega) rfl hon
-- steps are asked for
theorem step_ok {s : xS} {u : Nat} (h1 : s.1 1 = 1) (h2 : s.2 0 1 = nI u) (hu : u ≤ 1000) (hn : u ≠ 1) : ∃ g : Nat → Int32, g 0 = s.2 0 0 ∧ g 1 = nI (u - 1) ∧ f_Power_allows 1 s = some (1, xsf s 0 g) := by
  have e1 : ¬ s.1 1 = 0 := by rw [h1]; decide
  have e2 : ¬ s.2 0 1 = 1 := by rw [h2]; exact fun q => hn ((nI_eq (b := 1) (by omega) (by omega)).mp q)
  have e3 : xin (1 : Int32) 2 = true := by decide
  by_cases h0 : u = 0
  · subst h0
    refine ⟨s.2 0, rfl, h2, ?_⟩
    have e5 : s.2 0 1 ≤ 0 := by rw [h2]; decide
    rw [xsf_self]
    simp [f_Power_allows, f_Power_allows_36, f_Power_allows_64, f_Power_allows_78, e1, e2, e3, e5]
  · refine ⟨upd (s.2 0) 1 (nI (u - 1)), rfl, rfl, ?_⟩
    have e5 : ¬ s.2 0 1 ≤ 0 := by rw [h2]; exact nI_nle (by omega) (by omega)
    have e6 : s.2 0 1 - 1 = nI (u - 1) := by rw [h2]; exact pk_sub (b := 1) (by omega)
    simp [f_Power_allows, f_Power_allows_36, f_Power_allows_64, f_Power_allows_78, e1, e2, e3, e5, e6]
    rfl
theorem step_no {s : xS} (h1 : s.1 1 = 1) (h2 : s.2 0 1 = 1) : f_Power_allows 1 s = some (0, noS s) := by
  have e1 : ¬ s.1 1 = 0 := by rw [h1]; decide
  have e3 : xin (1 : Int32) 2 = true := by decide
  unfold noS
  simp [f_Power_allows, f_Power_allows_36, e1, e3, h2]
  intro h
  exact absurd rfl h
theorem f_J_fill_lp (s : xS) : ∀ (fuel i : Nat) (g : Nat → Int32), i ≤ 16 → 16 - i < fuel → ∃ g' : Nat → Int32, f_J_fill_5 fuel 0 (nI i) 16 (xsf s 10 g) = some (xsf s 10 g') ∧ (∀ k, i ≤ k → k < 16 → g' k = 0) ∧ ∀ k, k < i → g' k = g k := by
  intro fuel
  induction fuel with
  | zero => intro i g _ h; omega
  | succ fuel ih =>
    intro i g hi hf
    unfold f_J_fill_5
    by_cases hin : i = 16
    · subst hin
      rw [if_pos (by decide)]
      exact ⟨g, rfl, fun k h1 h2 => by omega, fun k _ => rfl⟩
    · have e : xsa (xsf s 10 g) 10 i 0 = xsf s 10 (upd g i 0) := by
        rw [xsa_def]
        show xsf (xsf s 10 g) 10 (upd g i 0) = _
        rw [xsf_two]
      rw [if_neg (show ¬ (16 : Int32) ≤ nI i from nI_ge (b := 16) (by omega) (by omega)), if_pos (xin_nI (by omega) (by omega)), nI_c (by omega), e, nI_1]
      obtain ⟨g', a1, a2, a3⟩ := ih (i + 1) (upd g i 0) (by omega) (by omega)
      refine ⟨g', a1, fun k h1 h2 => ?_, fun k h1 => ?_⟩
      · by_cases hk : k = i
        · subst hk
          rw [a3 k (by omega), pk_us]
        · exact a2 k (by omega) h2
      · rw [a3 k (by omega), pk_un (by omega)]
theorem f_J_fill_ok (s : xS) : ∃ g : Nat → Int32, (∀ k, k < 16 → g k = 0) ∧ f_J_fill 0 s = some (xsf s 10 g) := by
  obtain ⟨g, a1, a2, -⟩ := f_J_fill_lp s 1000 0 (s.2 10) (by omega) (by omega)
  rw [xsf_self] at a1
  exact ⟨g, fun k hk => a2 k (by omega) hk, a1⟩
theorem f_J_fill_1_lp (s : xS) : ∀ (fuel i : Nat) (g : Nat → Int32), i ≤ 16 → 16 - i < fuel → ∃ g' : Nat → Int32, f_J_fill_1_5 fuel 0 (nI i) 16 (xsf s 9 g) = some (xsf s 9 g') ∧ (∀ k, i ≤ k → k < 16 → g' k = 0) ∧ ∀ k, k < i → g' k = g k := by
  intro fuel
  induction fuel with
  | zero => intro i g _ h; omega
  | succ fuel ih =>
    intro i g hi hf
    unfold f_J_fill_1_5
    by_cases hin : i = 16
    · subst hin
      rw [if_pos (by decide)]
      exact ⟨g, rfl, fun k h1 h2 => by omega, fun k _ => rfl⟩
    · have e : xsa (xsf s 9 g) 9 i 0 = xsf s 9 (upd g i 0) := by
        rw [xsa_def]
        show xsf (xsf s 9 g) 9 (upd g i 0) = _
        rw [xsf_two]
      rw [if_neg (show ¬ (16 : Int32) ≤ nI i from nI_ge (b := 16) (by omega) (by omega)), if_pos (xin_nI (by omega) (by omega)), nI_c (by omega), e, nI_1]
      obtain ⟨g', a1, a2, a3⟩ := ih (i + 1) (upd g i 0) (by omega) (by omega)
      refine ⟨g', a1, fun k h1 h2 => ?_, fun k h1 => ?_⟩
      · by_cases hk : k = i
        · subst hk
          rw [a3 k (by omega), pk_us]
        · exact a2 k (by omega) h2
      · rw [a3 k (by omega), pk_un (by omega)]
theorem f_J_fill_1_ok (s : xS) : ∃ g : Nat → Int32, (∀ k, k < 16 → g k = 0) ∧ f_J_fill_1 0 s = some (xsf s 9 g) := by
  obtain ⟨g, a1, a2, -⟩ := f_J_fill_1_lp s 1000 0 (s.2 9) (by omega) (by omega)
  rw [xsf_self] at a1
  exact ⟨g, fun k hk => a2 k (by omega) hk, a1⟩
theorem f_J_fill_2_lp (s : xS) : ∀ (fuel i : Nat) (g : Nat → Int32), i ≤ 128 → 128 - i < fuel → ∃ g' : Nat → Int32, f_J_fill_2_5 fuel 0 (nI i) 128 (xsf s 5 g) = some (xsf s 5 g') ∧ (∀ k, i ≤ k → k < 128 → g' k = 0) ∧ ∀ k, k < i → g' k = g k := by
  intro fuel
  induction fuel with
  | zero => intro i g _ h; omega
  | succ fuel ih =>
    intro i g hi hf
    unfold f_J_fill_2_5
    by_cases hin : i = 128
    · subst hin
      rw [if_pos (by decide)]
      exact ⟨g, rfl, fun k h1 h2 => by omega, fun k _ => rfl⟩
    · have e : xsa (xsf s 5 g) 5 i 0 = xsf s 5 (upd g i 0) := by
        rw [xsa_def]
        show xsf (xsf s 5 g) 5 (upd g i 0) = _
        rw [xsf_two]
      rw [if_neg (show ¬ (128 : Int32) ≤ nI i from nI_ge (b := 128) (by omega) (by omega)), if_pos (xin_nI (by omega) (by omega)), nI_c (by omega), e, nI_1]
      obtain ⟨g', a1, a2, a3⟩ := ih (i + 1) (upd g i 0) (by omega) (by omega)
      refine ⟨g', a1, fun k h1 h2 => ?_, fun k h1 => ?_⟩
      · by_cases hk : k = i
        · subst hk
          rw [a3 k (by omega), pk_us]
        · exact a2 k (by omega) h2
      · rw [a3 k (by omega), pk_un (by omega)]
theorem f_J_fill_2_ok (s : xS) : ∃ g : Nat → Int32, (∀ k, k < 128 → g k = 0) ∧ f_J_fill_2 0 s = some (xsf s 5 g) := by
  obtain ⟨g, a1, a2, -⟩ := f_J_fill_2_lp s 1000 0 (s.2 5) (by omega) (by omega)
  rw [xsf_self] at a1
  exact ⟨g, fun k hk => a2 k (by omega) hk, a1⟩
def bgS (s : xS) (g : Nat → Int32) : xS := xsc (xsc (xsc (xsc (xsc (xsf s 5 g) 10 0) 11 0) 7 0) 8 0) 9 0
theorem begin_ok (s : xS) : ∃ g : Nat → Int32, (∀ k, k < 128 → g k = 0) ∧ f_Section_begin s = some (bgS s g) := by
  obtain ⟨g, a1, a2⟩ := f_J_fill_2_ok s
  refine ⟨g, a1, ?_⟩
  unfold f_Section_begin f_Held_clear
  rw [a2]
  rfl
def fgS (s : xS) (a b c : Nat → Int32) : xS := xsc (bgS (xsf (xsf s 10 a) 9 b) c) 0 2
theorem forget_ok (s : xS) : ∃ a b c : Nat → Int32, (∀ k, k < 16 → a k = 0) ∧ (∀ k, k < 16 → b k = 0) ∧ (∀ k, k < 128 → c k = 0) ∧ f_C_forget s = some (fgS s a b c) := by
  obtain ⟨a, a1, a2⟩ := f_J_fill_ok s
  obtain ⟨b, b1, b2⟩ := f_J_fill_1_ok (xsf s 10 a)
  obtain ⟨c, c1, c2⟩ := begin_ok (xsf (xsf s 10 a) 9 b)
  refine ⟨a, b, c, a1, b1, c1, ?_⟩
  unfold f_C_forget
  rw [a2, Option.bind_some, b2, Option.bind_some, c2]
  rfl
theorem tracked_lp (t : xS) (hv : ∀ k, k < 128 → t.2 3 k = 0 ∨ t.2 3 k = 1 ∨ t.2 3 k = 2) : ∀ (fuel i : Nat), i ≤ 128 → 128 - i < fuel → f_M_tracked_4 fuel (nI (ct (t.2 3) i)) (nI i) t = some (nI (ct (t.2 3) 128), t) := by
  intro fuel
  induction fuel with
  | zero => intro i _ h; omega
  | succ fuel ih =>
    intro i hi hf
    unfold f_M_tracked_4 f_M_tracked_27
    by_cases hin : i = 128
    · subst hin
      rw [if_pos (by decide)]
    · rw [if_neg (show ¬ (128 : Int32) ≤ nI i from nI_ge (b := 128) (by omega) (by omega)), if_pos (xin_nI (by omega) (by omega)), nI_c (by omega), nI_1, nI_1]
      have hs := ih (i + 1) (by omega) (by omega)
      unfold ct at hs
      by_cases h0 : t.2 3 i = 0
      · rw [if_pos (by rw [h0]; decide)]
        rw [if_pos h0, Nat.add_zero] at hs
        exact hs
      · have h1 : ¬ t.2 3 i ≤ 0 := by
          rcases hv i (by omega) with q | q | q
          · exact absurd q h0
          · rw [q]; decide
          · rw [q]; decide
        rw [if_neg h1]
        rw [if_neg h0] at hs
        exact hs
theorem tracked_ok (t : xS) (hv : ∀ k, k < 128 → t.2 3 k = 0 ∨ t.2 3 k = 1 ∨ t.2 3 k = 2) : f_M_tracked t = some (nI (ct (t.2 3) 128), t) := tracked_lp t hv 1000 0 (by omega) (by omega)
theorem ct_zero {f : Nat → Int32} : ∀ n, (∀ k, k < n → f k = 0) → ct f n = 0
  | 0, _ => rfl
  | n + 1, h => by
    unfold ct
    rw [ct_zero n (fun k hk => h k (by omega)), if_pos (h n (by omega))]
