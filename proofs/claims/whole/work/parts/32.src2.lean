theorem src_113 {m b r md : Nat} {s t : xS} (hm : m ≤ 3) (hb : b ≤ 4) (hr : r < 16) (hr2 : r ≠ 2) (hr3 : r ≠ 3) (hmd : md = 2 ∨ (md = 3 ∧ r ≠ 0)) (hy : s.1 13 = 0 ∨ s.1 13 = 1) (h : OnR m b s t) :
    ∃ s1 : xS, f_Processor_findSource_113 (nI r) (nI md) s = some s1 ∧ s1.1 16 = s.1 16 ∧ s1.1 17 = s.1 17 ∧ Src m b (s.1 13) s1 (f_M_operand_120 (nI r) (nI md) (s.1 13) (t.2 0 r) (xsc t 20 2)) := by
  have e := xin_nI hr (N := 16) (by omega)
  have ec := nI_c (n := r) (by omega)
  have e1 : nI r = 1 ↔ r = 1 := nI_eq_lit (by omega) 1 (by omega)
  obtain ⟨a, ha, g1, g2⟩ := h.r hr
  -- the class before the increment
  have hbase : OnR m b (xsc (xsc s 14 2) 15 (nI a)) (xsc (xsc t 20 2) 21 (nI a)) := h
  have hmem := p_mem (a := a) hm hb ha (show (xsc (xsc s 14 2) 15 (nI a)).1 14 = 2 from rfl) rfl hy hbase
  rcases hmd with rfl | ⟨rfl, hr0⟩
  · refine ⟨xsc (xsc s 14 2) 15 (nI a), ?_, rfl, rfl, ?_⟩
    · unfold f_Processor_findSource_113 f_Processor_find f_Processor_findSource_158
      rw [if_pos e, ec, g1, Option.bind_some, if_neg (show ¬ nI 2 = 3 by decide)]
    · rw [g2]
      rcases hmem with ⟨v, s2, t2, c1, c2, c3, c4, c5, c6, c7⟩ | ⟨v, v', s2, t2, c1, c2, c3, c4, c5⟩
      · refine Or.inl ⟨v, s2, t2, c1, (r_120 c2 e).trans (by rw [if_neg (show ¬ nI 2 = 3 by decide)]), c3, c4, c5, ?_, c6.2.1, c6.2.2.2.2.1, c6.2.2.2.2.2⟩
        exact Or.inr (Or.inr ⟨c6.2.2.1, c7.2.1, a, ha, c6.2.2.2.1, c7.2.2⟩)
      · refine Or.inr ⟨v, v', s2, t2, c1, (r_120 c2 e).trans (by rw [if_neg (show ¬ nI 2 = 3 by decide)]), c3, fun q => ?_, fun q => ?_⟩
        · exact absurd (c4.2.2.1.symm.trans q) (show ¬ (2 : Int32) = 1 by decide)
        · exact absurd (c5.2.1.symm.trans q) (show ¬ (2 : Int32) = 1 by decide)
  · -- auto-increment: the class before the load, the reference behind it
    have hinc : ∃ d : Nat, d ≤ 2 ∧ (r = 1 → d = 2) ∧ (if s.1 13 = 0 then (2 : Int32) else if nI r = 1 then 2 else 1) = nI d ∧ f_Processor_findSource_113 (nI r) (nI 3) s = some (xsa (xsc (xsc s 14 2) 15 (nI a)) 10 r (nI (rv r (a + d)))) := by
      have key : ∀ d : Nat, d ≤ 2 → f_Processor_findSource_154 (nI r) (nI a) (nI d) (xsc (xsc s 14 2) 15 (nI a)) = some (xsa (xsc (xsc s 14 2) 15 (nI a)) 10 r (nI (rv r (a + d)))) := by
        intro d hd
        unfold f_Processor_findSource_154 f_Processor_findSource_158
        rw [nI_add, c_setreg hr (by omega), if_neg hr3]
        rfl
      unfold f_Processor_findSource_113 f_Processor_find f_Processor_findSource_153
      rw [if_pos e, ec, g1, Option.bind_some, if_pos (show nI 3 = 3 from rfl), if_pos e]
      show ∃ d : Nat, d ≤ 2 ∧ (r = 1 → d = 2) ∧ (if s.1 13 = 0 then (2 : Int32) else if nI r = 1 then 2 else 1) = nI d ∧ (if s.1 13 = 0 then f_Processor_findSource_154 (nI r) (s.2 10 r) 2 (xsc (xsc s 14 2) 15 (nI a)) else if nI r = 1 then f_Processor_findSource_154 (nI r) (s.2 10 r) 2 (xsc (xsc s 14 2) 15 (nI a)) else f_Processor_findSource_154 (nI r) (s.2 10 r) 1 (xsc (xsc s 14 2) 15 (nI a))) = _
      rw [g1]
      by_cases h13 : s.1 13 = 0
      · rw [if_pos h13, if_pos h13]
        exact ⟨2, by omega, fun _ => rfl, rfl, key 2 (by omega)⟩
      · rw [if_neg h13, if_neg h13]
        by_cases h1 : r = 1
        · rw [if_pos (e1.mpr h1), if_pos (e1.mpr h1)]
          exact ⟨2, by omega, fun _ => rfl, rfl, key 2 (by omega)⟩
        · rw [if_neg (fun q => h1 (e1.mp q)), if_neg (fun q => h1 (e1.mp q))]
          exact ⟨1, by omega, fun q => absurd q h1, rfl, key 1 (by omega)⟩
    obtain ⟨d, hd, hd1, hd2, hd3⟩ := hinc
    have hz : rv r (a + d) = (a + d) % 65536 := by
      unfold rv
      obtain ⟨-, n', q1, q2, q3, -⟩ := h.2 r hr
      have : n' = a := (nI_eq (by omega) (by omega)).mp (q2.symm.trans g2)
      subst this
      by_cases h2 : r < 2
      · rw [if_pos h2]
        have := q3 h2
        have : d = 2 := hd1 (by omega)
        omega
      · rw [if_neg h2, if_neg hr2, if_neg hr3]
    have hrem : xrem (nI a + nI d) 65536 = nI ((a + d) % 65536) := by
      rw [nI_add]
      exact xrem_nI (d := 65536) (by omega) (by omega) (by omega)
    refine ⟨_, hd3, rfl, rfl, ?_⟩
    rw [hz, g2]
    have hrg : rg r (nI ((a + d) % 65536)) := by rw [← hz]; exact rv_rg r _
    -- the load does not look at the registers
    have hread := p_read (y := s.1 13) (s := xsa (xsc (xsc s 14 2) 15 (nI a)) 10 r (nI ((a + d) % 65536))) (t := xsc (xsc t 20 2) 21 (nI a)) hm hb ha hy h.1
    have hop : f_Processor_operand (xsa (xsc (xsc s 14 2) 15 (nI a)) 10 r (nI ((a + d) % 65536))) = f_Bus_read (nI a) (s.1 13) (xsa (xsc (xsc s 14 2) 15 (nI a)) 10 r (nI ((a + d) % 65536))) := op_mem rfl
    rcases hread with ⟨v, s2, t2, c1, c2, c3, c4, c5, c6, c7⟩ | ⟨v, v', s2, t2, c1, c2, c3, c4, c5⟩
    · refine Or.inl ⟨v, s2, xsa t2 0 r (nI ((a + d) % 65536)), hop.trans c1, (r_120 c2 e).trans (by rw [if_pos (show nI 3 = 3 from rfl), ec, hd2, hrem]), c3, c4, ⟨c5, fun i hi => ?_⟩, ?_, c6.2.1, c6.2.2.2.2.1, c6.2.2.2.2.2⟩
      · rw [c6.1]
        show upd (s.2 10) r (nI ((a + d) % 65536)) i = upd (t2.2 0) r (nI ((a + d) % 65536)) i ∧ rg i (upd (t2.2 0) r (nI ((a + d) % 65536)) i)
        rw [c7.1]
        exact (h.reg hrg).2 i hi
      · exact Or.inr (Or.inr ⟨c6.2.2.1, c7.2.1, a, ha, c6.2.2.2.1, c7.2.2⟩)
    · refine Or.inr ⟨v, v', s2, xsa t2 0 r (nI ((a + d) % 65536)), hop.trans c1, (r_120 c2 e).trans (by rw [if_pos (show nI 3 = 3 from rfl), ec, hd2, hrem]), c3, fun q => ?_, fun q => ?_⟩
      · exact absurd (c4.2.2.1.symm.trans q) (show ¬ (2 : Int32) = 1 by decide)
      · exact absurd (c5.2.1.symm.trans q) (show ¬ (2 : Int32) = 1 by decide)
/-- a source operand, as found and read by both -/
theorem p_src {m b r md : Nat} {y : Int32} {s t : xS} (hm : m ≤ 3) (hb : b ≤ 4) (hr : r < 16) (hmd : md < 4) (h13 : s.1 13 = y) (hy : y = 0 ∨ y = 1) (h : OnR m b s t) :
    ∃ s1 : xS, f_Processor_findSource (nI r) (nI md) s = some s1 ∧ s1.1 16 = s.1 16 ∧ s1.1 17 = s.1 17 ∧ Src m b y s1 (f_M_operand (nI r) (nI md) y t) := by
  subst h13
  have e := xin_nI hr (N := 16) (by omega)
  have ec := nI_c (n := r) (by omega)
  have e0 : nI r = 0 ↔ r = 0 := nI_eq_lit (by omega) 0 (by omega)
  have e2 : nI r = 2 ↔ r = 2 := nI_eq_lit (by omega) 2 (by omega)
  have e3 : nI r = 3 ↔ r = 3 := nI_eq_lit (by omega) 3 (by omega)
  have m0 : nI md = 0 ↔ md = 0 := nI_eq_lit (by omega) 0 (by omega)
  have m1 : nI md = 1 ↔ md = 1 := nI_eq_lit (by omega) 1 (by omega)
  have m2 : nI md = 2 ↔ md = 2 := nI_eq_lit (by omega) 2 (by omega)
  have m3 : nI md = 3 ↔ md = 3 := nI_eq_lit (by omega) 3 (by omega)
  have ml : nI md < 2 ↔ md < 2 := nI_ltI (b := 2) (by omega) (by omega)
  have mle : nI md ≤ 1 ↔ md ≤ 1 := nI_leI (b := 1) (by omega) (by omega)
  rw [M_operand_eq]
  unfold f_M_operand_12 f_Processor_findSource
  by_cases hr3 : r = 3
  · -- constants of R3
    rw [if_pos (e3.mpr hr3), if_pos (e3.mpr hr3)]
    unfold f_Processor_findSource_18 f_Processor_find f_Processor_findSource_158 f_M_operand_35
    by_cases hm3 : md = 3
    · rw [if_pos (m3.mpr hm3), if_pos (m3.mpr hm3)]
      obtain ⟨k1, k2⟩ := cut_rem (y := s.1 13) (n := 65535) (by omega) hy
      refine ⟨_, rfl, rfl, rfl, Src.con (n := 65535) (t := xsc t 20 0) (by omega) hy h rfl rfl rfl rfl ?_⟩
      rw [if_pos k1, show (65535 : Int32) = nI 65535 from rfl, k2]
    · rw [if_neg (fun q => hm3 (m3.mp q)), if_neg (fun q => hm3 (m3.mp q))]
      obtain ⟨k1, k2⟩ := cut_rem (y := s.1 13) (n := md) (by omega) hy
      refine ⟨_, rfl, rfl, rfl, Src.con (n := md) (t := xsc t 20 0) (by omega) hy h rfl rfl rfl rfl ?_⟩
      rw [if_pos k1, k2]
  · rw [if_neg (fun q => hr3 (e3.mp q)), if_neg (fun q => hr3 (e3.mp q))]
    by_cases hc2 : r = 2 ∧ 2 ≤ md
    · -- constants of R2
      obtain ⟨hr2, hmd2⟩ := hc2
      rw [if_pos (e2.mpr hr2), if_pos (e2.mpr hr2), if_neg (show ¬ nI md < 2 from fun q => by have := ml.mp q; omega), if_neg (show ¬ nI md ≤ 1 from fun q => by have := mle.mp q; omega)]
      unfold f_Processor_findSource_47 f_Processor_find f_Processor_findSource_158
      have hmul : (4 : Int32) * (nI md - 1) = nI (4 * (md - 1)) := by
        rw [show nI md - 1 = nI (md - 1) from pk_sub (b := 1) (by omega)]
        exact pk_mul 4 (md - 1)
      rw [hmul]
      have hsm : 4 * (md - 1) % cut (s.1 13) = 4 * (md - 1) := by
        unfold cut
        split <;> omega
      by_cases hm2 : md = 2
      · rw [if_pos (m2.mpr hm2)]
        refine ⟨_, rfl, rfl, rfl, Src.con (n := 4) (t := xsc t 20 0) (by omega) hy h rfl rfl rfl rfl ?_⟩
        subst hm2
        rw [show (4 : Nat) = 4 * (2 - 1) from rfl, hsm]
      · rw [if_neg (fun q => hm2 (m2.mp q))]
        have hm3 : md = 3 := by omega
        subst hm3
        refine ⟨_, rfl, rfl, rfl, Src.con (n := 8) (t := xsc t 20 0) (by omega) hy h rfl rfl rfl rfl ?_⟩
        rw [show (8 : Nat) = 4 * (3 - 1) from rfl, hsm]
    · -- registers and memory
      have hC : (if nI r = 2 then (if nI md < 2 then (f_Processor_findSource_53 (nI r) (nI md) s) else (if nI md = 2 then (f_Processor_findSource_47 0 4 s) else (f_Processor_findSource_47 0 8 s))) else (f_Processor_findSource_53 (nI r) (nI md) s)) = f_Processor_findSource_53 (nI r) (nI md) s := by
        by_cases hr2 : r = 2
        · rw [if_pos (e2.mpr hr2), if_pos (ml.mpr (by omega))]
        · rw [if_neg (fun q => hr2 (e2.mp q))]
      have hR : (if nI r = 2 then (if nI md ≤ 1 then (f_M_operand_55 (nI r) (nI md) (s.1 13) (if s.1 13 = 0 then 65536 else 256) (xsc t 20 0)) else (some ((4 * (nI md - 1)), (xsc t 20 0)))) else (f_M_operand_55 (nI r) (nI md) (s.1 13) (if s.1 13 = 0 then 65536 else 256) (xsc t 20 0))) = f_M_operand_55 (nI r) (nI md) (s.1 13) (if s.1 13 = 0 then 65536 else 256) (xsc t 20 0) := by
        by_cases hr2 : r = 2
        · rw [if_pos (e2.mpr hr2), if_pos (mle.mpr (by omega))]
        · rw [if_neg (fun q => hr2 (e2.mp q))]
      rw [hC, hR]
      unfold f_Processor_findSource_53 f_M_operand_55
      by_cases hm0 : md = 0
      · -- a register
        rw [if_pos (m0.mpr hm0), if_pos (m0.mpr hm0), if_pos e, ec]
        obtain ⟨a, ha, g1, g2⟩ := h.r hr
        obtain ⟨k1, k2⟩ := cut_rem (y := s.1 13) ha hy
        obtain ⟨k3, k4⟩ := cut_lt ha hy
        unfold f_Processor_find f_Processor_findSource_158
        refine ⟨_, rfl, rfl, rfl, Or.inl ⟨nI (a % cut (s.1 13)), _, xsc (xsc (xsc t 20 0) 20 1) 21 (nI r), op_reg (s := xsc (xsc s 14 1) 15 (nI r)) rfl hr rfl g1 ha, ?_, ⟨_, k3, rfl⟩, fun q => ⟨_, k4 q, rfl⟩, OnR.up (show OnR m b (xsc (xsc s 14 1) 15 (nI r)) (xsc (xsc (xsc t 20 0) 20 1) 21 (nI r)) from h), Or.inr (Or.inl ⟨rfl, rfl, r, hr, rfl, rfl⟩), rfl, rfl, rfl⟩⟩
        rw [if_pos k1]
        show some (xrem (t.2 0 r) _, _) = _
        rw [g2, k2]
      · rw [if_neg (fun q => hm0 (m0.mp q)), if_neg (fun q => hm0 (m0.mp q))]
        by_cases hm1 : md = 1
        · -- indexed
          subst hm1
          obtain ⟨f, x, a, s1, t1, ha, c1, c2, c3, c4, c5, c6, c7⟩ := p_idx (t := xsc (xsc t 20 0) 20 2) hb hr h
          rw [if_pos (show nI 1 = 1 from rfl), c1, Option.bind_some, c2, Option.bind_some, c3]
          unfold f_Processor_find f_Processor_findSource_158
          rw [Option.bind_some]
          have h96 : (if nI r = 0 then (if nI 1 = 3 then ((f_M_fetch (xsc t 20 0)).bind fun q14 => if (!((if s.1 13 = 0 then (65536 : Int32) else 256) == 0)) = true then some ((xrem q14.1 (if s.1 13 = 0 then 65536 else 256)), q14.2) else none) else (f_M_operand_96 (nI r) (nI 1) (s.1 13) (xsc t 20 0))) else (f_M_operand_96 (nI r) (nI 1) (s.1 13) (xsc t 20 0))) = f_M_operand_120 (nI r) (nI 1) (s.1 13) (nI a) t1 := by
            have : f_M_operand_96 (nI r) (nI 1) (s.1 13) (xsc t 20 0) = f_M_operand_120 (nI r) (nI 1) (s.1 13) (nI a) t1 := by
              unfold f_M_operand_96
              rw [if_pos (show nI 1 = 1 from rfl), c4, Option.bind_some]
            rw [this]
            split
            · rw [if_neg (show ¬ nI 1 = 3 by decide)]
            · rfl
          rw [h96]
          refine ⟨_, rfl, c6.2.2.2.1, c6.2.2.2.2, ?_⟩
          have hmem := p_mem (s := xsc (xsc s1 14 2) 15 (nI a)) (t := xsc t1 21 (nI a)) hm hb ha rfl rfl (by show s1.1 13 = 0 ∨ s1.1 13 = 1; rw [c6.1]; exact hy) c5
          have h13 : (xsc (xsc s1 14 2) 15 (nI a)).1 13 = s.1 13 := c6.1
          rw [h13] at hmem
          rcases hmem with ⟨v, s2, t2, d1, d2, d3, d4, d5, d6, d7⟩ | ⟨v, v', s2, t2, d1, d2, d3, d4, d5⟩
          · refine Or.inl ⟨v, s2, t2, d1, (r_120 d2 e).trans (by rw [if_neg (show ¬ nI 1 = 3 by decide)]), d3, d4, d5, ?_, d6.2.1.trans h13, d6.2.2.2.2.1, d6.2.2.2.2.2⟩
            exact Or.inr (Or.inr ⟨d6.2.2.1, d7.2.1.trans c7.1, a, ha, d6.2.2.2.1, d7.2.2⟩)
          · refine Or.inr ⟨v, v', s2, t2, d1, (r_120 d2 e).trans (by rw [if_neg (show ¬ nI 1 = 3 by decide)]), d3, fun q => ?_, fun q => ?_⟩
            · exact absurd (d4.2.2.1.symm.trans q) (show ¬ (2 : Int32) = 1 by decide)
            · exact absurd ((d5.2.1.trans c7.1).symm.trans q) (show ¬ (2 : Int32) = 1 by decide)
        · rw [if_neg (fun q => hm1 (m1.mp q))]
          by_cases hi : r = 0 ∧ md = 3
          · -- immediate
            obtain ⟨rfl, rfl⟩ := hi
            obtain ⟨x, s1, t1, c1, c2, ⟨xn, hx, rfl⟩, c4, c5, c6⟩ := p_next (t := xsc t 20 0) hb h
            obtain ⟨k1, k2⟩ := cut_rem (y := s.1 13) hx hy
            rw [if_pos (show nI 0 = 0 from rfl), if_pos (show nI 3 = 3 from rfl), c1, Option.bind_some]
            rw [if_pos (show nI 0 = 0 from rfl), if_pos (show nI 3 = 3 from rfl), c2, Option.bind_some, if_pos k1]
            unfold f_Processor_find f_Processor_findSource_158
            refine ⟨_, rfl, c5.2.2.2.1, c5.2.2.2.2, Src.con (n := xn) (t := t1) hx hy c4 c5.1 rfl rfl c6.1 ?_⟩
            show some (xrem (nI xn) _, t1) = _
            rw [k2]
          · -- through a register
            have hr2 : r ≠ 2 := fun q => hc2 ⟨q, by omega⟩
            have hC : (if nI r = 0 then (if nI md = 3 then ((f_Processor_nextWord s).bind fun q14 => (f_Processor_find 0 q14.1 q14.2).bind fun q16 => f_Processor_findSource_158 q16) else (f_Processor_findSource_113 (nI r) (nI md) s)) else (f_Processor_findSource_113 (nI r) (nI md) s)) = f_Processor_findSource_113 (nI r) (nI md) s := by
              by_cases h0 : r = 0
              · rw [if_pos (e0.mpr h0), if_neg (fun q => hi ⟨h0, m3.mp q⟩)]
              · rw [if_neg (fun q => h0 (e0.mp q))]
            have h96 : f_M_operand_96 (nI r) (nI md) (s.1 13) (xsc t 20 0) = f_M_operand_120 (nI r) (nI md) (s.1 13) (t.2 0 r) (xsc (xsc t 20 0) 20 2) := by
              unfold f_M_operand_96
              rw [if_neg (fun q => hm1 (m1.mp q)), if_pos e, ec]
              rfl
            have hR : (if nI r = 0 then (if nI md = 3 then ((f_M_fetch (xsc t 20 0)).bind fun q14 => if (!((if s.1 13 = 0 then (65536 : Int32) else 256) == 0)) = true then some ((xrem q14.1 (if s.1 13 = 0 then 65536 else 256)), q14.2) else none) else (f_M_operand_96 (nI r) (nI md) (s.1 13) (xsc t 20 0))) else (f_M_operand_96 (nI r) (nI md) (s.1 13) (xsc t 20 0))) = f_M_operand_120 (nI r) (nI md) (s.1 13) (t.2 0 r) (xsc (xsc t 20 0) 20 2) := by
              rw [h96]
              by_cases h0 : r = 0
              · rw [if_pos (e0.mpr h0), if_neg (fun q => hi ⟨h0, m3.mp q⟩)]
              · rw [if_neg (fun q => h0 (e0.mp q))]
            rw [hC, hR]
            exact src_113 (t := xsc t 20 0) hm hb hr hr2 hr3 (by omega) hy h
