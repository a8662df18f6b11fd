def OnR (m b : Nat) (s t : xS) : Prop := On m b s t ∧ LKr (s.2 10) (t.2 0)
def Fp (s s' : xS) : Prop := s'.1 13 = s.1 13 ∧ s'.1 14 = s.1 14 ∧ s'.1 15 = s.1 15 ∧ s'.1 16 = s.1 16 ∧ s'.1 17 = s.1 17
def Tp (t t' : xS) : Prop := t'.1 20 = t.1 20 ∧ t'.1 21 = t.1 21
theorem Fc.p {s s' : xS} (h : Fc s s') : Fp s s' := h.2
theorem Ft.p {t t' : xS} (h : Ft t t') : Tp t t' := h.2
theorem Fp.rf (s : xS) : Fp s s := ⟨rfl, rfl, rfl, rfl, rfl⟩
theorem Tp.rf (s : xS) : Tp s s := ⟨rfl, rfl⟩
theorem Fp.tr {a b c : xS} (h : Fp a b) (g : Fp b c) : Fp a c := ⟨g.1.trans h.1, g.2.1.trans h.2.1, g.2.2.1.trans h.2.2.1, g.2.2.2.1.trans h.2.2.2.1, g.2.2.2.2.trans h.2.2.2.2⟩
theorem Tp.tr {a b c : xS} (h : Tp a b) (g : Tp b c) : Tp a c := ⟨g.1.trans h.1, g.2.trans h.2⟩
theorem OnR.of {m b : Nat} {s t s' t' : xS} (h : OnR m b s t) {m' b' : Nat} (h' : On m' b' s' t') (hs : Fc s s') (ht : Ft t t') : OnR m' b' s' t' := ⟨h', by rw [hs.1, ht.1]; exact h.2⟩
theorem nI_eq_lit {k : Nat} (hk : k < 65536) (j : Nat) (hj : j < 65536) : nI k = nI j ↔ k = j := nI_eq (by omega) (by omega)
/-- the value that a register takes -/
def rv (k n : Nat) : Nat := if k < 2 then n % 65536 / 2 * 2 else if k = 2 then n &&& 263 else if k = 3 then 0 else n % 65536
theorem and_263 (n : Nat) : n &&& 263 < 65536 := Nat.lt_of_le_of_lt Nat.and_le_right (by decide)
theorem rv_rg (k n : Nat) : rg k (nI (rv k n)) := by
  unfold rv
  by_cases h1 : k < 2
  · rw [if_pos h1]
    exact ⟨_, by omega, rfl, fun _ => by omega, fun q => by omega, fun q => by omega⟩
  · rw [if_neg h1]
    by_cases h2 : k = 2
    · rw [if_pos h2]
      exact ⟨_, and_263 n, rfl, fun q => by omega, fun _ => by rw [Nat.and_assoc, Nat.and_self], fun q => by omega⟩
    · rw [if_neg h2]
      by_cases h3 : k = 3
      · rw [if_pos h3]
        exact ⟨0, by omega, rfl, fun q => by omega, fun q => by omega, fun _ => rfl⟩
      · rw [if_neg h3]
        exact ⟨_, by omega, rfl, fun q => by omega, fun q => by omega, fun q => by omega⟩
theorem c_setreg {k n : Nat} (hk : k < 16) (hn : n < 2 ^ 32) (s : xS) : f_Processor_setRegister (nI k) (nI n) s = some (if k = 3 then s else xsa s 10 k (nI (rv k n))) := by
  have e := xin_nI hk (N := 16) (by omega)
  have ec := nI_c (n := k) (by omega)
  have e0 : nI k = 0 ↔ k = 0 := nI_eq_lit (by omega) 0 (by omega)
  have e1 : nI k = 1 ↔ k = 1 := nI_eq_lit (by omega) 1 (by omega)
  have e2 : nI k = 2 ↔ k = 2 := nI_eq_lit (by omega) 2 (by omega)
  have e3 : nI k = 3 ↔ k = 3 := nI_eq_lit (by omega) 3 (by omega)
  unfold f_Processor_setRegister f_Processor_setRegister_9 f_Processor_setRegister_56 rv
  rw [if_pos e, if_pos e, if_pos e, ec, and_65534 hn, and_65535 hn, show nI n &&& 263 = nI (n &&& 263) from and_nI (b := 263) hn (by omega)]
  by_cases h0 : k = 0
  · rw [if_pos (e0.mpr h0), if_neg (by omega), if_pos (by omega)]
  · rw [if_neg (fun q => h0 (e0.mp q))]
    by_cases h1 : k = 1
    · rw [if_pos (e1.mpr h1), if_neg (by omega), if_pos (by omega)]
    · rw [if_neg (fun q => h1 (e1.mp q))]
      by_cases h2 : k = 2
      · rw [if_pos (e2.mpr h2), if_neg (by omega), if_neg (by omega), if_pos h2]
      · rw [if_neg (fun q => h2 (e2.mp q))]
        by_cases h3 : k = 3
        · rw [if_pos (e3.mpr h3), if_pos h3]
        · rw [if_neg (fun q => h3 (e3.mp q)), if_neg h3, if_neg (by omega), if_neg h2, if_neg h3]
theorem r_put {k n : Nat} (hk : k < 16) (hn : n < 65536) (t : xS) : f_M_put (nI k) (nI n) t = some (xsa t 0 k (nI (rv k n))) := by
  have e := xin_nI hk (N := 16) (by omega)
  have ec := nI_c (n := k) (by omega)
  have e2 : nI k = 2 ↔ k = 2 := nI_eq_lit (by omega) 2 (by omega)
  have e3 : nI k = 3 ↔ k = 3 := nI_eq_lit (by omega) 3 (by omega)
  have el : (2 : Int32) ≤ nI k ↔ 2 ≤ k := nI_leI (a := 2) (by omega) (by omega)
  unfold f_M_put f_M_put_41 rv
  rw [if_pos e, if_pos e, if_pos e, if_pos e, ec, show nI n &&& 263 = nI (n &&& 263) from and_nI (b := 263) (by omega) (by omega)]
  by_cases h2 : k < 2
  · rw [if_neg (fun q => by have := el.mp q; omega), if_pos h2, show nI n / 2 = nI (n / 2) from pk_div (d := 2) (by omega) (by omega) (by omega), show nI (n / 2) * 2 = nI (n / 2 * 2) from pk_mul _ 2, show n % 65536 = n from Nat.mod_eq_of_lt hn]
  · rw [if_pos (el.mpr (by omega)), if_neg h2]
    by_cases h3 : k = 2
    · rw [if_pos (e2.mpr h3), if_pos h3]
    · rw [if_neg (fun q => h3 (e2.mp q)), if_neg h3]
      by_cases h4 : k = 3
      · rw [if_pos (e3.mpr h4), if_pos h4]
        rfl
      · rw [if_neg (fun q => h4 (e3.mp q)), if_neg h4, show n % 65536 = n from Nat.mod_eq_of_lt hn]
theorem OnR.reg {m b k : Nat} {z : Int32} {s t : xS} (h : OnR m b s t) (hz : rg k z) : OnR m b (xsa s 10 k z) (xsa t 0 k z) := by
  refine ⟨h.1, fun i hi => ?_⟩
  show upd (s.2 10) k z i = upd (t.2 0) k z i ∧ rg i (upd (t.2 0) k z i)
  by_cases hik : i = k
  · subst hik
    rw [pk_us, pk_us]
    exact ⟨rfl, hz⟩
  · rw [pk_un hik, pk_un hik]
    exact h.2 i hi
/-- a register is set by both -/
theorem p_setreg {m b k n : Nat} {s t : xS} (hk : k < 16) (hn : n < 65536) (h : OnR m b s t) : ∃ s1 t1 : xS, f_Processor_setRegister (nI k) (nI n) s = some s1 ∧ f_M_put (nI k) (nI n) t = some t1 ∧ OnR m b s1 t1 ∧ Fp s s1 ∧ Tp t t1 := by
  rw [c_setreg hk (by omega), r_put hk hn]
  by_cases h3 : k = 3
  · subst h3
    refine ⟨s, _, rfl, rfl, ⟨h.1, fun i hi => ?_⟩, Fp.rf s, ⟨rfl, rfl⟩⟩
    obtain ⟨c1, c2⟩ := h.2 i hi
    show s.2 10 i = upd (t.2 0) 3 (nI (rv 3 n)) i ∧ rg i (upd (t.2 0) 3 (nI (rv 3 n)) i)
    by_cases hi3 : i = 3
    · subst hi3
      rw [pk_us]
      refine ⟨?_, rv_rg 3 n⟩
      obtain ⟨z, -, c3, -, -, c4⟩ := c2
      rw [c1, c3, c4 rfl]
      rfl
    · rw [pk_un hi3]
      exact ⟨c1, c2⟩
  · rw [if_neg h3]
    exact ⟨_, _, rfl, rfl, h.reg (rv_rg k n), ⟨rfl, rfl, rfl, rfl, rfl⟩, ⟨rfl, rfl⟩⟩
theorem OnR.pc {m b : Nat} {s t : xS} (h : OnR m b s t) : ∃ n, n < 65536 ∧ n % 2 = 0 ∧ s.2 10 0 = nI n ∧ t.2 0 0 = nI n := by
  obtain ⟨c1, n, c2, c3, c4, -⟩ := h.2 0 (by omega)
  exact ⟨n, c2, c4 (by omega), c1.trans c3, c3⟩
theorem OnR.sp {m b : Nat} {s t : xS} (h : OnR m b s t) : ∃ n, n < 65536 ∧ n % 2 = 0 ∧ s.2 10 1 = nI n ∧ t.2 0 1 = nI n := by
  obtain ⟨c1, n, c2, c3, c4, -⟩ := h.2 1 (by omega)
  exact ⟨n, c2, c4 (by omega), c1.trans c3, c3⟩
theorem OnR.r {m b k : Nat} {s t : xS} (h : OnR m b s t) (hk : k < 16) : ∃ n, n < 65536 ∧ s.2 10 k = nI n ∧ t.2 0 k = nI n := by
  obtain ⟨c1, n, c2, c3, -⟩ := h.2 k hk
  exact ⟨n, c2, c1.trans c3, c3⟩
/-- the next word -/
theorem p_next {m b : Nat} {s t : xS} (hb : b ≤ 4) (h : OnR m b s t) : ∃ (v : Int32) (s1 t1 : xS), f_Processor_nextWord s = some (v, s1) ∧ f_M_fetch t = some (v, t1) ∧ wd v ∧ OnR m b s1 t1 ∧ Fp s s1 ∧ Tp t t1 := by
  obtain ⟨n, hn, hev, e1, e2⟩ := h.pc
  obtain ⟨v, s1, t1, c1, c2, c3, c4, c5, c6⟩ := p_fetch hb h.1 (nI n)
  have h1 := h.of c4 c5 c6
  have f1 : s1.2 10 0 = nI n := by rw [c5.1]; exact e1
  have f2 : t1.2 0 0 = nI n := by rw [c6.1]; exact e2
  have g1 : rv 0 (n + 2) = (n + 2) % 65536 := by unfold rv; rw [if_pos (by omega)]; omega
  refine ⟨v, xsa s1 10 0 (nI ((n + 2) % 65536)), xsa t1 0 0 (nI ((n + 2) % 65536)), ?_, ?_, c3, h1.reg ⟨_, by omega, rfl, fun _ => by omega, fun q => by omega, fun q => by omega⟩, c5.p.tr ⟨rfl, rfl, rfl, rfl, rfl⟩, c6.p.tr ⟨rfl, rfl⟩⟩
  · unfold f_Processor_nextWord
    rw [e1, c1, Option.bind_some, f1, show nI n + 2 = nI (n + 2) from nI_add n 2]
    rw [show f_Processor_setRegister 0 (nI (n + 2)) s1 = _ from c_setreg (k := 0) (by omega) (by omega) s1, if_neg (by omega), Option.bind_some, g1]
  · unfold f_M_fetch
    rw [e2, c2, Option.bind_some, f2, show nI n + 2 = nI (n + 2) from nI_add n 2, show xrem (nI (n + 2)) 65536 = nI ((n + 2) % 65536) from xrem_nI (d := 65536) (by omega) (by omega) (by omega)]
-- the same with the power gone
theorem c_setany {c k : Nat} {v : Int32} {s : xS} (hk : k < 16) (h : CG c s) : ∃ s1 : xS, f_Processor_setRegister (nI k) v s = some s1 ∧ CG c s1 ∧ LC s s1 ∧ Fp s s1 := by
  obtain ⟨n, hn, rfl⟩ := nI_all v
  rw [c_setreg hk hn]
  by_cases h3 : k = 3
  · rw [if_pos h3]
    exact ⟨s, rfl, h, LC.rf s, Fp.rf s⟩
  · rw [if_neg h3]
    exact ⟨_, rfl, h, LC.rf s, ⟨rfl, rfl, rfl, rfl, rfl⟩⟩
theorem c_next {c : Nat} {s : xS} (h : CG c s) : ∃ (v : Int32) (s1 : xS), f_Processor_nextWord s = some (v, s1) ∧ CG c s1 ∧ LC s s1 ∧ Fp s s1 := by
  obtain ⟨v, s1, c1, c2, c3, c4⟩ := c_fetch h (s.2 10 0)
  obtain ⟨s2, d1, d2, d3, d4⟩ := c_setany (k := 0) (v := s1.2 10 0 + 2) (by omega) c2
  refine ⟨v, s2, ?_, d2, c3.tr d3, c4.p.tr d4⟩
  unfold f_Processor_nextWord
  rw [c1, Option.bind_some]
  show (f_Processor_setRegister (nI 0) (s1.2 10 0 + 2) s1).bind _ = _
  rw [d1]
  rfl
theorem r_fetch {c : Nat} {t : xS} (h : RG c t) : ∃ (v : Int32) (t1 : xS), f_M_fetch t = some (v, t1) ∧ RG c t1 ∧ LR t t1 ∧ Tp t t1 := by
  obtain ⟨v, c1⟩ := r_plain h (t.2 0 0)
  unfold f_M_fetch
  rw [c1]
  exact ⟨v, _, rfl, h, LR.rf t, ⟨rfl, rfl⟩⟩
