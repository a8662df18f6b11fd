/-- both come to the end of the instruction: with power, or with the power gone -/
def Fin (m b : Nat) (C R : Option xS) : Prop := (∃ s2 t2 : xS, C = some s2 ∧ R = some t2 ∧ OnR m b s2 t2) ∨ (∃ s2 t2 : xS, C = some s2 ∧ R = some t2 ∧ Gone 9 s2 t2)
theorem CG.to {c d : Nat} {s : xS} (h : CG c s) (hd : c ≤ d) : CG d s := by
  obtain ⟨h1, h2, h3, h4, h5, h6, h7, a, h8, h9⟩ := h
  exact ⟨h1, h2, h3, h4, h5, h6, h7, a, by omega, h9⟩
theorem RG.to {c d : Nat} {t : xS} (h : RG c t) (hd : c ≤ d) : RG d t := by
  obtain ⟨h1, h2, h3, h4, h5, h6, h7, h8, h9, a, h10, h11⟩ := h
  exact ⟨h1, h2, h3, h4, h5, h6, h7, h8, h9, a, by omega, h11⟩
theorem Gone.to {c d : Nat} {s t : xS} (h : Gone c s t) (hd : c ≤ d) : Gone d s t := ⟨h.1, h.2.1.to hd, h.2.2.to hd⟩
theorem Gone.lg {c : Nat} {s t : xS} (h : Gone c s t) : ∃ j : Nat, j ≤ 4 ∧ t.1 11 = nI j := by
  obtain ⟨-, ⟨j, h1, -, h2, -⟩, -⟩ := h.1
  exact ⟨j, h1, h2⟩
theorem Gone.go {c d e : Nat} {s t s' t' : xS} (h : Gone c s t) (hs : CG d s') (hls : LC s s') (ht : RG e t') (hlt : LR t t') (hd : d ≤ 9) (he : e ≤ 9) : Gone 9 s' t' := ⟨h.1.moved hls hlt, hs.to hd, ht.to he⟩
theorem two148 {k a c : Nat} {y : Int32} {t : xS} : f_M_two_148 (nI k) y (nI c) (nI a) t = (Res k a c y t).bind fun q => f_M_two_205 (nI k) y q.1 q.2 := by
  unfold f_M_two_148 Res
  split
  · rfl
  · split
    · split <;> rfl
    · rfl
theorem p_fin {m b k a c : Nat} {s t : xS} (hm : m ≤ 4) (hb : b ≤ 3) (hk : 4 ≤ k ∧ k ≤ 15) (hy : s.1 13 = 0 ∨ s.1 13 = 1) (ha : a < cut (s.1 13)) (hc : c < cut (s.1 13)) (h17 : s.1 17 = 0) (h : OnR m b s t) (hkp : KP s t) : Fin m (b + 1) (f_Processor_twoOperands_72 (nI k) (nI c) (nI a) s) (f_M_two_148 (nI k) (s.1 13) (nI c) (nI a) t) := by
  have k9 : nI k = 9 ↔ k = 9 := nI_eq_lit (by omega) 9 (by omega)
  have k11 : nI k = 11 ↔ k = 11 := nI_eq_lit (by omega) 11 (by omega)
  rw [two148]
  unfold f_Processor_twoOperands_72 f_Processor_twoOperands_96 f_Processor_twoOperands_109 f_M_two_205 f_M_two_226
  rcases p_comb hk ha hc h with ⟨hk3, v, hv, c1, c2⟩ | ⟨hk3, v, fl, hv, hfl, c1, c2⟩
  · rw [c1, c2, Option.bind_some, Option.bind_some, if_neg (fun q => by have := k9.mp q; omega), if_neg (fun q => by have := k11.mp q; omega), if_neg (fun q => by have := k9.mp q; omega), if_neg (fun q => by have := k11.mp q; omega), bind_eta1, bind_eta1]
    rcases p_deliver hm hb hy hv h.1 hkp (Or.inl ⟨h17, h.2⟩) with ⟨s2, t2, d1, d2, d3⟩ | ⟨s2, t2, d1, d2, d3⟩
    · exact Or.inl ⟨s2, t2, d1, d2, d3⟩
    · exact Or.inr ⟨s2, t2, d1, d2, d3.to (by omega)⟩
  · rw [c1, Option.bind_some]
    by_cases h9 : k = 9 ∨ k = 11
    · rw [if_pos h9] at c2
      have c2 : Res k a c (s.1 13) t = some (nI v, xsa t 0 2 fl) := by
        rcases c2 with ⟨q, -⟩ | ⟨-, q⟩
        · exact absurd rfl q.1
        · exact q
      rw [c2, Option.bind_some]
      have hC : (if nI k = 9 then ((f_Processor_setFlags (xsc (xsc s 16 fl) 17 1)).bind fun q1 => some q1) else (if nI k = 11 then ((f_Processor_setFlags (xsc (xsc s 16 fl) 17 1)).bind fun q1 => some q1) else ((f_Processor_deliver (nI v) (xsc (xsc s 16 fl) 17 1)).bind fun q7 => some q7))) = some (xsa (xsc (xsc s 16 fl) 17 1) 10 2 fl) := by
        have hs : f_Processor_setFlags (xsc (xsc s 16 fl) 17 1) = some (xsa (xsc (xsc s 16 fl) 17 1) 10 2 fl) := setFlags_1 rfl
        rcases h9 with z | z
        · rw [if_pos (k9.mpr z), hs]; rfl
        · rw [if_neg (fun q => by have := k9.mp q; omega), if_pos (k11.mpr z), hs]; rfl
      have hR : (if nI k = 9 then (some (xsa t 0 2 fl)) else (if nI k = 11 then (some (xsa t 0 2 fl)) else ((f_M_back (nI v) (s.1 13) (xsa t 0 2 fl)).bind fun q3 => some q3))) = some (xsa t 0 2 fl) := by
        rcases h9 with z | z
        · rw [if_pos (k9.mpr z)]
        · rw [if_neg (fun q => by have := k9.mp q; omega), if_pos (k11.mpr z)]
      refine Or.inl ⟨_, _, hC, hR, ?_⟩
      have := OnR.reg (s := xsc (xsc s 16 fl) 17 1) (t := t) (show OnR m b (xsc (xsc s 16 fl) 17 1) t from h) hfl
      exact ⟨this.1.up, this.2⟩
    · rw [if_neg h9] at c2
      have hn9 : ¬ nI k = 9 := fun q => h9 (Or.inl (k9.mp q))
      have hn11 : ¬ nI k = 11 := fun q => h9 (Or.inr (k11.mp q))
      rw [if_neg hn9, if_neg hn11, bind_eta1]
      have fin : ∀ t' : xS, Res k a c (s.1 13) t = some (nI v, t') → On m b (xsc (xsc s 16 fl) 17 1) t' → KP (xsc (xsc s 16 fl) 17 1) t' → PF (xsc (xsc s 16 fl) 17 1) t' → Fin m (b + 1) (f_Processor_deliver (nI v) (xsc (xsc s 16 fl) 17 1)) ((Res k a c (s.1 13) t).bind fun q => if nI k = 9 then (some q.2) else (if nI k = 11 then (some q.2) else ((f_M_back q.1 (s.1 13) q.2).bind fun q3 => some q3))) := by
        intro t' e1 e2 e3 e4
        rw [e1, Option.bind_some, if_neg hn9, if_neg hn11, bind_eta1]
        rcases p_deliver (s := xsc (xsc s 16 fl) 17 1) hm hb hy hv e2 e3 e4 with ⟨s2, t2, d1, d2, d3⟩ | ⟨s2, t2, d1, d2, d3⟩
        · exact Or.inl ⟨s2, t2, d1, d2, d3⟩
        · exact Or.inr ⟨s2, t2, d1, d2, d3.to (by omega)⟩
      rcases c2 with ⟨q, c2⟩ | ⟨q, c2⟩
      · exact fin t c2 h.1 hkp (Or.inr ⟨rfl, hfl, Or.inl ⟨q.2.1, q.2.2, h.2⟩⟩)
      · refine fin (xsa t 0 2 fl) c2 h.1 hkp (Or.inr ⟨rfl, hfl, Or.inr ⟨fun z => q ⟨one_ne0, z.1, z.2⟩, ?_⟩⟩)
        exact (OnR.reg h hfl).2
theorem nI_lit_of {v : Int32} {y : Int32} (hv : wd v) (h8 : y = 1 → ∃ k, k < 256 ∧ v = nI k) (hy : y = 0 ∨ y = 1) : ∃ n, n < cut y ∧ v = nI n := by
  rcases hy with rfl | rfl
  · obtain ⟨n, h1, h2⟩ := hv
    exact ⟨n, h1, h2⟩
  · obtain ⟨n, h1, h2⟩ := h8 rfl
    exact ⟨n, h1, h2⟩
theorem p_two {m b n : Nat} {s t : xS} (hm : m ≤ 2) (hb : b ≤ 3) (hn : n < 65536) (hop : 4 ≤ n / 4096) (h17 : s.1 17 = 0) (h : OnR m b s t) : Fin (m + 2) (b + 1) (f_Processor_twoOperands (nI n) s) (f_M_two (nI (n / 4096)) (nI n) t) := by
  have s6 : (nI n >>> ((6 : Int32) &&& 31)) &&& 1 = nI (n / 64 % 2) := by rw [show nI n >>> ((6 : Int32) &&& 31) = nI (n / 64) from shr_nI (k := 6) (by omega) (by omega), and_1 (by omega)]
  have s12 : nI n >>> ((12 : Int32) &&& 31) = nI (n / 4096) := shr_nI (k := 12) (by omega) (by omega)
  have s8 : (nI n >>> ((8 : Int32) &&& 31)) &&& 15 = nI (n / 256 % 16) := by rw [show nI n >>> ((8 : Int32) &&& 31) = nI (n / 256) from shr_nI (k := 8) (by omega) (by omega), and_15 (by omega)]
  have s4 : (nI n >>> ((4 : Int32) &&& 31)) &&& 3 = nI (n / 16 % 4) := by rw [show nI n >>> ((4 : Int32) &&& 31) = nI (n / 16) from shr_nI (k := 4) (by omega) (by omega), and_3 (by omega)]
  have s7 : (nI n >>> ((7 : Int32) &&& 31)) &&& 1 = nI (n / 128 % 2) := by rw [show nI n >>> ((7 : Int32) &&& 31) = nI (n / 128) from shr_nI (k := 7) (by omega) (by omega), and_1 (by omega)]
  have s0 : nI n &&& 15 = nI (n % 16) := and_15 (by omega)
  have r6 : xrem (nI n / 64) 2 = nI (n / 64 % 2) := by rw [show nI n / 64 = nI (n / 64) from pk_div (d := 64) (by omega) (by omega) (by omega)]; exact xrem_nI (d := 2) (by omega) (by omega) (by omega)
  have r8 : xrem (nI n / 256) 16 = nI (n / 256 % 16) := by rw [show nI n / 256 = nI (n / 256) from pk_div (d := 256) (by omega) (by omega) (by omega)]; exact xrem_nI (d := 16) (by omega) (by omega) (by omega)
  have r4 : xrem (nI n / 16) 4 = nI (n / 16 % 4) := by rw [show nI n / 16 = nI (n / 16) from pk_div (d := 16) (by omega) (by omega) (by omega)]; exact xrem_nI (d := 4) (by omega) (by omega) (by omega)
  have r7 : xrem (nI n / 128) 2 = nI (n / 128 % 2) := by rw [show nI n / 128 = nI (n / 128) from pk_div (d := 128) (by omega) (by omega) (by omega)]; exact xrem_nI (d := 2) (by omega) (by omega) (by omega)
  have r0 : xrem (nI n) 16 = nI (n % 16) := xrem_nI (d := 16) (by omega) (by omega) (by omega)
  generalize hk0 : n / 4096 = k at *
  have hk : 4 ≤ k ∧ k ≤ 15 := by omega
  have k4 : nI k = 4 ↔ k = 4 := nI_eq_lit (by omega) 4 (by omega)
  have hr : n / 256 % 16 < 16 := by omega
  have hmd : n / 16 % 4 < 4 := by omega
  have hd : n % 16 < 16 := by omega
  generalize n / 256 % 16 = r at *
  generalize n / 16 % 4 = md at *
  generalize hfar : n / 128 % 2 = far at *
  have hfar2 : far = 0 ∨ far = 1 := by omega
  generalize n % 16 = d at *
  -- the reference from its destination on
  have hR59 : ∀ (y src : Int32) (t : xS), f_M_two_59 (nI k) y (nI d) src (nI far) t = f_M_two_86 (nI k) y (nI d) src (nI far) (if y = 0 then 65536 else 256) (if far = 0 then 1 else 2) t := by
    intro y src t
    have h73 : ∀ x7 : Int32, f_M_two_73 (nI k) y (nI d) src (nI far) x7 t = f_M_two_86 (nI k) y (nI d) src (nI far) x7 (if far = 0 then 1 else 2) t := by
      intro x7
      unfold f_M_two_73
      rcases hfar2 with z | z
      · rw [z, if_pos (show nI 0 = 0 from rfl), if_pos rfl]
      · rw [z, if_neg (show ¬ nI 1 = 0 from one_ne0), if_neg (by omega)]
    unfold f_M_two_59
    split
    · exact h73 _
    · exact h73 _
  have main : ∀ y : Int32, y = 0 ∨ y = 1 → Fin (m + 2) (b + 1) (f_Processor_twoOperands_21 (nI n) (nI k) y s) (f_M_two_15 (nI k) (nI n) y t) := by
    intro y hy
    have hxy : xbl y = true := by rcases hy with rfl | rfl <;> decide
    have hR15 : f_M_two_15 (nI k) (nI n) y t = (f_M_operand (nI r) (nI md) y t).bind fun q24 => f_M_two_59 (nI k) y (nI d) q24.1 (nI far) q24.2 := by
      unfold f_M_two_15
      rw [r8, r4, r7, r0]
      congr 1
      funext q
      rcases hfar2 with z | z
      · rw [z, if_neg (show ¬ nI 0 = 1 by decide)]; rfl
      · rw [z, if_pos (show nI 1 = 1 from rfl)]; rfl
    obtain ⟨s1, c1, c2, c3, hsrc⟩ := p_src (y := y) (s := xsc s 13 y) (t := t) (m := m) (b := b) (by omega) (by omega) hr hmd rfl hy h
    have hC21 : f_Processor_twoOperands_21 (nI n) (nI k) y s = (f_Processor_operand s1).bind fun q12 => (f_Processor_findDestination (nI d) (nI far) q12.2).bind fun q14 => if nI k = 4 then (f_Processor_twoOperands_72 (nI k) (q12.1) 0 q14) else ((f_Processor_operand q14).bind fun q17 => f_Processor_twoOperands_72 (nI k) (q12.1) (q17.1) q17.2) := by
      unfold f_Processor_twoOperands_21
      rw [if_pos hxy, s8, s4, s0, s7, c1, Option.bind_some]
    rw [hC21, hR15]
    rcases hsrc with ⟨v, s2, t2, d1, d2, d3, d4, d5, d6, d7, d8, d9⟩ | ⟨v, v', s2, t2, d1, d2, d3, d4, d5⟩
    · -- the source is there
      obtain ⟨c, hcc, rfl⟩ := nI_lit_of d3 d4 hy
      have hs17 : s2.1 17 = 0 := d9.trans (c3.trans h17)
      rw [d1, d2, Option.bind_some, Option.bind_some, hR59]
      show Fin (m + 2) (b + 1) ((f_Processor_findDestination (nI d) (nI far) s2).bind fun q14 => if nI k = 4 then (f_Processor_twoOperands_72 (nI k) (nI c) 0 q14) else ((f_Processor_operand q14).bind fun q17 => f_Processor_twoOperands_72 (nI k) (nI c) (q17.1) q17.2)) _
      have hcut0 : 0 < cut y := by unfold cut; split <;> omega
      rcases hfar2 with rfl | rfl
      · -- a register
        obtain ⟨a, ha, g1, g2⟩ := d5.r hd
        obtain ⟨z1, z2⟩ := cut_rem (y := y) ha hy
        have hdst : f_Processor_findDestination (nI d) (nI 0) s2 = some (xsc (xsc s2 14 1) 15 (nI d)) := by
          unfold f_Processor_findDestination f_Processor_find f_Processor_findDestination_31
          rw [if_pos (show nI 0 = 0 from rfl)]; rfl
        have hop : f_Processor_operand (xsc (xsc s2 14 1) 15 (nI d)) = some (nI (a % cut y), xsc (xsc s2 14 1) 15 (nI d)) := by
          have := op_reg (s := xsc (xsc s2 14 1) 15 (nI d)) rfl hd rfl g1 ha
          rw [show (xsc (xsc s2 14 1) 15 (nI d)).1 13 = y from d7] at this
          exact this
        have hR86 : f_M_two_86 (nI k) y (nI d) (nI c) (nI 0) (if y = 0 then 65536 else 256) (if 0 = 0 then 1 else 2) t2 = f_M_two_148 (nI k) y (nI c) (nI (a % cut y)) (xsc (xsc t2 20 1) 21 (nI d)) := by
          unfold f_M_two_86
          rw [if_pos (show nI 0 = 0 from rfl), if_pos (xin_nI hd (by omega)), if_pos z1, nI_c (by omega), g2, z2, if_pos rfl]
        rw [hdst, Option.bind_some, hop, hR86]
        have hon : OnR (m + 1) b (xsc (xsc s2 14 1) 15 (nI d)) (xsc (xsc t2 20 1) 21 (nI d)) := d5
        have hkp : KP (xsc (xsc s2 14 1) 15 (nI d)) (xsc (xsc t2 20 1) 21 (nI d)) := Or.inr (Or.inl ⟨rfl, rfl, d, hd, rfl, rfl⟩)
        have h13 : (xsc (xsc s2 14 1) 15 (nI d)).1 13 = y := d7
        have ham : a % cut y < cut y := Nat.mod_lt _ hcut0
        by_cases hk4 : k = 4
        · rw [if_pos (k4.mpr hk4)]
          have h1 := p_fin (s := xsc (xsc s2 14 1) 15 (nI d)) (a := a % cut y) (c := c) (by omega) hb hk (by rw [h13]; exact hy) (by rw [h13]; exact ham) (by rw [h13]; exact hcc) hs17 hon.up hkp
          have h0 := p_fin (s := xsc (xsc s2 14 1) 15 (nI d)) (a := 0) (c := c) (by omega) hb hk (by rw [h13]; exact hy) (by rw [h13]; exact hcut0) (by rw [h13]; exact hcc) hs17 hon.up hkp
          rw [h13] at h0 h1
          -- MOV does not look at its destination
          have e : f_M_two_148 (nI k) y (nI c) (nI (a % cut y)) (xsc (xsc t2 20 1) 21 (nI d)) = f_M_two_148 (nI k) y (nI c) (nI 0) (xsc (xsc t2 20 1) 21 (nI d)) := by
            unfold f_M_two_148
            rw [if_pos (k4.mpr hk4), if_pos (k4.mpr hk4)]
          rw [e]
          exact h0
        · rw [if_neg (fun q => hk4 (k4.mp q)), Option.bind_some]
          have h1 := p_fin (s := xsc (xsc s2 14 1) 15 (nI d)) (a := a % cut y) (c := c) (by omega) hb hk (by rw [h13]; exact hy) (by rw [h13]; exact ham) (by rw [h13]; exact hcc) hs17 hon.up hkp
          rw [h13] at h1
          exact h1
      · -- memory
        obtain ⟨f, x, a, s3, t3, ha, g1, g2, g3, g4, g5, g6, g7⟩ := p_idx (t := xsc (xsc t2 20 2) 21 (nI d)) (by omega) hd d5
        have hdst : f_Processor_findDestination (nI d) (nI 1) s2 = some (xsc (xsc s3 14 2) 15 (nI a)) := by
          unfold f_Processor_findDestination f_Processor_find f_Processor_findDestination_31
          rw [if_neg (show ¬ nI 1 = 0 from one_ne0), g1, Option.bind_some, g2, Option.bind_some, g3]; rfl
        have hR86 : f_M_two_86 (nI k) y (nI d) (nI c) (nI 1) (if y = 0 then 65536 else 256) (if 1 = 0 then 1 else 2) t2 = if nI k = 4 then f_M_two_148 (nI k) y (nI c) (nI 0) (xsc t3 21 (nI a)) else (f_M_loaded (nI a) y (xsc t3 21 (nI a))).bind fun q20 => f_M_two_148 (nI k) y (nI c) q20.1 q20.2 := by
          unfold f_M_two_86 f_M_two_131
          rw [if_neg (show ¬ nI 1 = 0 from one_ne0), if_neg (show ¬ 1 = 0 by omega), g4, Option.bind_some]
          rfl
        rw [hdst, Option.bind_some, hR86]
        have h13 : (xsc (xsc s3 14 2) 15 (nI a)).1 13 = y := g6.1.trans d7
        have hon : OnR (m + 1) b (xsc (xsc s3 14 2) 15 (nI a)) (xsc t3 21 (nI a)) := g5
        have hs17' : (xsc (xsc s3 14 2) 15 (nI a)).1 17 = 0 := g6.2.2.2.2.trans hs17
        by_cases hk4 : k = 4
        · rw [if_pos (k4.mpr hk4), if_pos (k4.mpr hk4)]
          have h0 := p_fin (a := 0) (c := c) (by omega) hb hk (by rw [h13]; exact hy) (by rw [h13]; exact hcut0) (by rw [h13]; exact hcc) hs17' hon.up (Or.inr (Or.inr ⟨rfl, g7.1, a, ha, rfl, rfl⟩))
          rw [h13] at h0
          exact h0
        · rw [if_neg (fun q => hk4 (k4.mp q)), if_neg (fun q => hk4 (k4.mp q))]
          have hmem := p_mem (s := xsc (xsc s3 14 2) 15 (nI a)) (t := xsc t3 21 (nI a)) (by omega) (by omega) ha rfl rfl (by rw [h13]; exact hy) hon
          rw [h13] at hmem
          rcases hmem with ⟨w, s4, t4, e1, e2, e3, e4, e5, e6, e7⟩ | ⟨w, w', s4, t4, e1, e2, e3, e4, e5⟩
          · obtain ⟨z, hz, rfl⟩ := nI_lit_of e3 e4 hy
            rw [e1, e2, Option.bind_some, Option.bind_some]
            have h13' : s4.1 13 = y := e6.2.1.trans h13
            have h1 := p_fin (a := z) (c := c) (by omega) hb hk (by rw [h13']; exact hy) (by rw [h13']; exact hz) (by rw [h13']; exact hcc) (e6.2.2.2.2.2.trans hs17') e5 (Or.inr (Or.inr ⟨e6.2.2.1, e7.2.1.trans g7.1, a, ha, e6.2.2.2.1, e7.2.2⟩))
            rw [h13'] at h1
            exact h1
          · rw [e1, e2, Option.bind_some, Option.bind_some]
            obtain ⟨s5, f1, f2, f3⟩ := c_two72 (x3 := nI c) (y0 := w) hk e3.2.1 (fun q => absurd ((e4.2.2.1).symm.trans q) two_ne1)
            obtain ⟨t5, f4, f5, f6⟩ := r_two148 (x1 := nI k) (y := y) (src := nI c) (dst := w') e3.2.2 (fun q => absurd ((e5.2.1.trans g7.1).symm.trans q) two_ne1)
            exact Or.inr ⟨s5, t5, f1, f4, e3.go f2 f3 f5 f6 (by omega) (by omega)⟩
    · -- the power went away with the source
      rw [d1, d2, Option.bind_some, Option.bind_some]
      obtain ⟨s3, g1, g2, g3, g4⟩ := c_dest (x2 := nI far) hd d3.2.1
      obtain ⟨t3, g5, g6, g7⟩ := r_two59 (x1 := nI k) (y := y) (src := v') (far := nI far) (by omega) hd d3.2.2 d3.lg
      have hC : ∃ s4 : xS, ((f_Processor_findDestination (nI d) (nI far) s2).bind fun q14 => if nI k = 4 then (f_Processor_twoOperands_72 (nI k) v 0 q14) else ((f_Processor_operand q14).bind fun q17 => f_Processor_twoOperands_72 (nI k) v (q17.1) q17.2)) = some s4 ∧ CG 6 s4 ∧ LC s2 s4 := by
        rw [g1, Option.bind_some]
        split
        · obtain ⟨s4, e1, e2, e3⟩ := c_two72 (x3 := v) (y0 := 0) hk g2 g4
          exact ⟨s4, e1, e2.up, g3.tr e3⟩
        · obtain ⟨w, s4, e1, e2, e3, e4⟩ := c_operand (by omega) g2 g4
          obtain ⟨s5, f1, f2, f3⟩ := c_two72 (x3 := v) (y0 := w) hk e2 e4
          exact ⟨s5, by rw [e1]; exact f1, f2, g3.tr (e3.tr f3)⟩
      obtain ⟨s4, e1, e2, e3⟩ := hC
      exact Or.inr ⟨s4, t3, e1, g5, d3.go e2 e3 g6 g7 (by omega) (by omega)⟩
  unfold f_Processor_twoOperands f_M_two
  rw [s6, s12, r6]
  by_cases hb6 : n / 64 % 2 = 1
  · rw [hb6, if_pos (show nI 1 = 1 from rfl), if_pos (show nI 1 = 1 from rfl)]
    exact main 1 (Or.inr rfl)
  · rw [show n / 64 % 2 = 0 by omega, if_neg (show ¬ nI 0 = 1 by decide), if_neg (show ¬ nI 0 = 1 by decide)]
    exact main 0 (Or.inl rfl)
