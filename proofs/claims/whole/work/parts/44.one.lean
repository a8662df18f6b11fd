theorem upd_comm {f : Nat → Int32} {i j : Nat} {a b : Int32} (h : i ≠ j) : upd (upd f i a) j b = upd (upd f j b) i a := by
  funext k
  unfold upd
  by_cases h1 : k = j
  · rw [if_pos h1, if_neg (fun q => h (q.symm.trans h1)), if_pos h1]
  · rw [if_neg h1, if_neg h1]
theorem xsa_comm {s : xS} {n i j : Nat} {a b : Int32} (h : i ≠ j) : xsa (xsa s n i a) n j b = xsa (xsa s n j b) n i a := by
  have e1 : ∀ (s : xS) (i j : Nat) (a b : Int32), xsa (xsa s n i a) n j b = xsf s n (upd (upd (s.2 n) i a) j b) := by
    intro s i j a b
    rw [xsa_def, xsa_def]
    have : (xsf s n (upd (s.2 n) i a)).2 n = upd (s.2 n) i a := if_pos rfl
    rw [this, xsf_two]
  rw [e1, e1, upd_comm h]
-- pushing and popping with the power gone
theorem c_pop {c : Nat} {s : xS} (hc : c ≤ 100) (h : CG c s) : ∃ (v : Int32) (s1 : xS), f_Processor_pop s = some (v, s1) ∧ CG (c + 1) s1 ∧ LC s s1 := by
  obtain ⟨v, s1, c1, c2, c3, c4⟩ := c_read (x := s.2 10 1) (y := 0) hc h
  obtain ⟨s2, d1, d2, d3, d4⟩ := c_setany (k := 1) (v := s1.2 10 1 + 2) (by omega) c2
  refine ⟨v, s2, ?_, d2, c3.tr d3⟩
  unfold f_Processor_pop
  rw [c1, Option.bind_some]
  show (f_Processor_setRegister (nI 1) (s1.2 10 1 + 2) s1).bind _ = _
  rw [d1]; rfl
theorem c_push {c : Nat} {v : Int32} {s : xS} (h : CG c s) : ∃ s1 : xS, f_Processor_push v s = some s1 ∧ CG c s1 ∧ LC s s1 := by
  obtain ⟨s1, d1, d2, d3, d4⟩ := c_setany (k := 1) (v := s.2 10 1 - 2) (by omega) h
  obtain ⟨s2, e1, e2, e3, e4⟩ := c_write (x := s1.2 10 1) (v := v) (y := s1.1 13) d2
  refine ⟨s2, ?_, e2, d3.tr e3⟩
  unfold f_Processor_push
  show (f_Processor_setRegister (nI 1) (s.2 10 1 - 2) s).bind _ = _
  rw [d1, Option.bind_some, e1]; rfl
theorem a_changed {k : Nat} (hk : k ≤ 3) (x : Int32) (s : xS) : ∃ (v : Int32) (s' : xS), f_Processor_changed (nI k) x s = some (v, s') ∧ Fl s s' := by
  have h54 : ∀ y1 y2 : Int32, ∃ (v : Int32) (s' : xS), f_Processor_changed_54 y1 y2 s = some (v, s') ∧ Fl s s' := by
    intro y1 y2
    obtain ⟨p, e⟩ := a_ask y1 y2 0 s
    unfold f_Processor_changed_54
    exact ⟨_, _, by rw [e]; rfl, Or.inr ⟨p, rfl⟩⟩
  have h96 : ∀ y1 y2 : Int32, ∃ (v : Int32) (s' : xS), f_Processor_changed_96 y1 y2 s = some (v, s') ∧ Fl s s' := h54
  unfold f_Processor_changed f_Processor_carry
  rcases (show k = 0 ∨ k = 1 ∨ k = 2 ∨ k = 3 by omega) with rfl | rfl | rfl | rfl
  · rw [if_neg (by decide), if_pos (show nI 0 = 0 from rfl), Option.bind_some]
    show ∃ (v : Int32) (s' : xS), (f_Processor_highest s).bind _ = some (v, s') ∧ Fl s s'
    rw [hi_eq, Option.bind_some]
    split <;> exact h54 _ _
  · rw [if_neg (by decide), if_neg (by decide), if_pos (show nI 1 = 1 from rfl)]
    exact ⟨_, _, rfl, Or.inl rfl⟩
  · rw [if_neg (by decide), if_neg (by decide), if_neg (by decide), if_pos (show nI 2 = 2 from rfl), hi_eq, Option.bind_some]
    split <;> exact h96 _ _
  · rw [if_pos (by decide), bind_eta]
    exact a_logical _ _ _
/-- the reference's one-operand instruction from its operand on, with the power gone -/
theorem r_one137 {c k : Nat} {y v tp : Int32} {t : xS} (hk : k ≤ 5) (h : RG c t) (hkr : KR t) : ∃ t1 : xS, f_M_one_137 (nI k) y v tp t = some t1 ∧ RG c t1 ∧ LR t t1 := by
  have h331 : ∀ (r : Int32) (q : xS), RG c q → LR t q → KR q → ∃ t1 : xS, f_M_one_331 y r q = some t1 ∧ RG c t1 ∧ LR t t1 := by
    intro r q h1 h2 h3
    obtain ⟨t1, d1, d2, d3⟩ := r_back (v := r) (y := y) h1 h3
    unfold f_M_one_331
    exact ⟨t1, by rw [d1]; rfl, d2, h2.tr d3⟩
  have h324 : ∀ r z : Int32, ∃ t1 : xS, f_M_one_324 y r z t = some t1 ∧ RG c t1 ∧ LR t t1 := by
    intro r z
    obtain ⟨w, e⟩ := b_flags z 0 r y t
    unfold f_M_one_324
    rw [e, Option.bind_some]
    exact h331 r (xsa t 0 2 w) h (LR.rf t) hkr
  have h286 : ∀ r : Int32, ∃ t1 : xS, f_M_one_286 (nI k) y v r t = some t1 ∧ RG c t1 ∧ LR t t1 := by
    intro r
    unfold f_M_one_286
    split
    · exact h331 r t h (LR.rf t) hkr
    · rcases silent_eq 1 t with ⟨z1, -⟩ | ⟨z1, -⟩
      · rw [z1, Option.bind_some, if_neg one_ne0]
        exact h331 r t h (LR.rf t) hkr
      · rw [z1, Option.bind_some, if_pos rfl]
        split
        · split <;> exact h324 _ _
        · exact h324 _ _
  have h185 : ∀ a b : Int32, ∀ q : xS, RG c q → LR t q → ∃ t1 : xS, f_M_one_185 (nI k) y v a b q = some t1 ∧ RG c t1 ∧ LR t t1 := by
    intro a b q h1 h2
    unfold f_M_one_185 f_M_one_201
    rw [r_store h1, Option.bind_some]
    split
    · obtain ⟨z, d⟩ := r_putany (k := 0) (v := v) (by omega) h1
      refine ⟨xsa q 0 0 z, ?_, h1, h2⟩
      show (f_M_put (nI 0) v q).bind _ = _
      rw [d]; rfl
    · exact ⟨q, rfl, h1, h2⟩
  unfold f_M_one_137 f_M_one_285
  split
  · split
    · exact h286 _
    · split
      · obtain ⟨q, e⟩ := b_signed (xrem v 256) 256
        rw [e, Option.bind_some]
        exact h286 _
      · split
        · obtain ⟨q, e⟩ := b_flag 1 t
          rw [e, Option.bind_some]
          exact h286 _
        · split <;> exact h286 _
  · split
    · exact h185 _ _ _ h (LR.rf t)
    · exact h185 _ _ _ h (LR.rf t)
