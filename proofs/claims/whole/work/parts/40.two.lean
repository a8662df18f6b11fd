-- with the power gone: destinations and operands
theorem c_dest {c d : Nat} {x2 : Int32} {s : xS} (hd : d < 16) (h : CG c s) : ∃ s1 : xS, f_Processor_findDestination (nI d) x2 s = some s1 ∧ CG c s1 ∧ LC s s1 ∧ KC s1 := by
  unfold f_Processor_findDestination f_Processor_find f_Processor_findDestination_31
  split
  · exact ⟨_, rfl, h, LC.rf s, fun _ => ⟨d, hd, rfl⟩⟩
  · have hb : ∃ f : Int32, f_Processor_base (nI d) s = some (f, s) := by
      unfold f_Processor_base f_Processor_base_15
      rw [if_pos (xin_nI hd (by omega))]
      split <;> exact ⟨_, rfl⟩
    obtain ⟨f, e⟩ := hb
    obtain ⟨x, s1, c1, c2, c3, c4⟩ := c_next h
    rw [e, Option.bind_some, c1]
    exact ⟨_, rfl, c2, c3, fun q => absurd q two_ne1⟩
theorem c_operand {c : Nat} {s : xS} (hc : c ≤ 100) (h : CG c s) (hk : KC s) : ∃ (v : Int32) (s1 : xS), f_Processor_operand s = some (v, s1) ∧ CG (c + 1) s1 ∧ LC s s1 ∧ KC s1 := by
  have h48 : ∀ y0 : Int32, ∃ (v : Int32), f_Processor_operand_48 y0 s = some (v, s) := by
    intro y0
    obtain ⟨q, e⟩ := a_mask s
    unfold f_Processor_operand_48
    rw [e]; exact ⟨_, rfl⟩
  unfold f_Processor_operand
  split
  · next q =>
    obtain ⟨v, s1, c1, c2, c3, c4⟩ := c_read (x := s.1 15) (y := s.1 13) hc h
    refine ⟨v, s1, by rw [c1]; rfl, c2, c3, fun z => ?_⟩
    rw [c4.2.2.1, q] at z
    exact absurd z two_ne1
  · split
    · next q =>
      obtain ⟨r, hr, e⟩ := hk q
      rw [e, if_pos (xin_nI hr (by omega))]
      obtain ⟨v, d⟩ := h48 (s.2 10 (nI r).toNatClampNeg)
      exact ⟨v, s, d, h.up, LC.rf s, hk⟩
    · obtain ⟨v, d⟩ := h48 (s.1 15)
      exact ⟨v, s, d, h.up, LC.rf s, hk⟩
theorem c_two72 {c k : Nat} {x3 y0 : Int32} {s : xS} (hk : 4 ≤ k ∧ k ≤ 15) (h : CG c s) (hc : KC s) : ∃ s1 : xS, f_Processor_twoOperands_72 (nI k) x3 y0 s = some s1 ∧ CG c s1 ∧ LC s s1 := by
  obtain ⟨v, s1, e, hf⟩ := a_comb hk y0 x3 s
  obtain ⟨g1, g2, g3, g4⟩ := hf.g h
  have hc1 : KC s1 := by
    intro q
    rw [g3] at q
    rw [g4]
    exact hc q
  obtain ⟨s2, d1, d2, d3⟩ := c_setFlags g1
  obtain ⟨s3, e1, e2, e3⟩ := c_deliver (v := v) g1 hc1
  unfold f_Processor_twoOperands_72 f_Processor_twoOperands_96 f_Processor_twoOperands_109
  rw [e, Option.bind_some]
  split
  · exact ⟨s2, by rw [d1]; rfl, d2, g2.tr d3⟩
  · split
    · exact ⟨s2, by rw [d1]; rfl, d2, g2.tr d3⟩
    · exact ⟨s3, by rw [e1]; rfl, e2, g2.tr e3⟩
theorem r_indexed {c d : Nat} {t : xS} (hd : d < 16) (h : RG c t) : ∃ (v : Int32) (t1 : xS), f_M_indexed (nI d) t = some (v, t1) ∧ RG c t1 ∧ LR t t1 ∧ Tp t t1 := by
  have h33 : ∀ y0 : Int32, ∃ (v : Int32) (t1 : xS), f_M_indexed_33 y0 t = some (v, t1) ∧ RG c t1 ∧ LR t t1 ∧ Tp t t1 := by
    intro y0
    obtain ⟨x, t1, c1, c2, c3, c4⟩ := r_fetch h
    unfold f_M_indexed_33
    rw [c1]
    exact ⟨_, t1, rfl, c2, c3, c4⟩
  unfold f_M_indexed f_M_indexed_23
  split
  · exact h33 _
  · split
    · exact h33 _
    · split
      · exact h33 _
      · rw [if_pos (xin_nI hd (by omega))]
        exact h33 _
theorem r_two205 {c : Nat} {x1 y v : Int32} {t : xS} (h : RG c t) (hk : KR t) : ∃ t1 : xS, f_M_two_205 x1 y v t = some t1 ∧ RG c t1 ∧ LR t t1 := by
  obtain ⟨t1, c1, c2, c3⟩ := r_back (v := v) (y := y) h hk
  unfold f_M_two_205 f_M_two_226
  split
  · exact ⟨t, rfl, h, LR.rf t⟩
  · split
    · exact ⟨t, rfl, h, LR.rf t⟩
    · exact ⟨t1, by rw [c1]; rfl, c2, c3⟩
theorem r_two148 {c : Nat} {x1 y src dst : Int32} {t : xS} (h : RG c t) (hk : KR t) : ∃ t1 : xS, f_M_two_148 x1 y src dst t = some t1 ∧ RG c t1 ∧ LR t t1 := by
  have fin : ∀ (v : Int32) (t' : xS), Rl t t' → ∃ t1 : xS, f_M_two_205 x1 y v t' = some t1 ∧ RG c t1 ∧ LR t t1 := by
    intro v t' hr
    obtain ⟨g1, g2, g3, g4⟩ := hr.g h
    obtain ⟨t1, d1, d2, d3⟩ := r_two205 (x1 := x1) (y := y) (v := v) g1 (by intro q; rw [g3] at q; rw [g4]; exact hk q)
    exact ⟨t1, d1, d2, g2.tr d3⟩
  unfold f_M_two_148
  split
  · exact fin src t (Or.inl rfl)
  · split
    · split
      · obtain ⟨v, t', e, hr⟩ := b_dec src dst y t
        rw [e, Option.bind_some]
        exact fin v t' hr
      · obtain ⟨v, t', e, hr⟩ := b_bits x1 src dst y t
        rw [e, Option.bind_some]
        exact fin v t' hr
    · obtain ⟨v, t', e, hr⟩ := b_sum x1 src dst y t
      rw [e, Option.bind_some]
      exact fin v t' hr
theorem r_two59 {c d : Nat} {x1 y src far : Int32} {t : xS} (hc : c ≤ 100) (hd : d < 16) (h : RG c t) (hlg : ∃ j : Nat, j ≤ 4 ∧ t.1 11 = nI j) : ∃ t1 : xS, f_M_two_59 x1 y (nI d) src far t = some t1 ∧ RG (c + 1) t1 ∧ LR t t1 := by
  have key : ∀ x7 : Int32, (!(x7 == 0)) = true → ∃ t1 : xS, f_M_two_73 x1 y (nI d) src far x7 t = some t1 ∧ RG (c + 1) t1 ∧ LR t t1 := by
    intro x7 hx7
    unfold f_M_two_73
    split
    · next q =>
      unfold f_M_two_86
      rw [if_pos q, if_pos (xin_nI hd (by omega)), if_pos hx7]
      obtain ⟨t1, d1, d2, d3⟩ := r_two148 (x1 := x1) (y := y) (src := src) (dst := xrem (t.2 0 (nI d).toNatClampNeg) x7) (t := xsc (xsc t 20 1) 21 (nI d)) h (fun _ => ⟨d, hd, rfl⟩)
      exact ⟨t1, d1, d2.up, d3⟩
    · next q =>
      unfold f_M_two_86 f_M_two_131
      rw [if_neg q]
      obtain ⟨a, t1, c1, c2, c3, c4⟩ := r_indexed (t := xsc (xsc t 20 2) 21 (nI d)) hd h
      rw [c1, Option.bind_some]
      have hk20 : t1.1 20 = 2 := c4.1
      split
      · obtain ⟨t2, d1, d2, d3⟩ := r_two148 (x1 := x1) (y := y) (src := src) (dst := 0) (t := xsc t1 21 a) c2 (fun z => absurd (hk20.symm.trans z) two_ne1)
        exact ⟨t2, d1, d2.up, c3.tr d3⟩
      · have hlg1 : ∃ j : Nat, j ≤ 4 ∧ (xsc t1 21 a).1 11 = nI j := by
          obtain ⟨j, j1, j2⟩ := hlg
          refine ⟨j, j1, ?_⟩
          show t1.1 11 = nI j
          rw [c3.2.2.2.2.2.2.1]; exact j2
        obtain ⟨v, t2, d1, d2, d3, d4⟩ := r_loaded (x := a) (y := y) (t := xsc t1 21 a) hc c2 hlg1
        have hk2 : t2.1 20 = 2 := d4.2.1.trans hk20
        obtain ⟨t3, e1, e2, e3⟩ := r_two148 (x1 := x1) (y := y) (src := src) (dst := v) d2 (fun z => absurd (hk2.symm.trans z) two_ne1)
        refine ⟨t3, ?_, e2, c3.tr (d3.tr e3)⟩
        show (f_M_loaded a y (xsc t1 21 a)).bind _ = _
        rw [d1, Option.bind_some]
        exact e1
  unfold f_M_two_59
  split
  · exact key _ (by decide)
  · exact key _ (by decide)
