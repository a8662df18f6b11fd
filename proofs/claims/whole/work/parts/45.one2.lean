def popC (r : Nat) (s : xS) : Option xS := (f_Processor_pop s).bind fun q => f_Processor_setRegister (nI r) q.1 q.2
def popR (r : Nat) (t : xS) : Option xS := (f_M_loaded (t.2 0 1) 0 t).bind fun q => (f_M_put (nI r) q.1 q.2).bind fun z => some (xsa z 0 1 (xrem ((z.2 0 1) + 2) 65536))
theorem c_popset {c r : Nat} {s : xS} (hc : c ≤ 100) (hr : r < 16) (h : CG c s) : ∃ s1 : xS, popC r s = some s1 ∧ CG (c + 1) s1 ∧ LC s s1 := by
  obtain ⟨v, s1, c1, c2, c3⟩ := c_pop hc h
  obtain ⟨s2, d1, d2, d3, d4⟩ := c_setany (v := v) hr c2
  unfold popC
  exact ⟨s2, by rw [c1]; exact d1, d2, c3.tr d3⟩
theorem r_popset {c r : Nat} {t : xS} (hc : c ≤ 100) (hr : r < 16) (h : RG c t) (hlg : ∃ j : Nat, j ≤ 4 ∧ t.1 11 = nI j) : ∃ t1 : xS, popR r t = some t1 ∧ RG (c + 1) t1 ∧ LR t t1 := by
  obtain ⟨v, t1, c1, c2, c3, c4⟩ := r_loaded (x := t.2 0 1) (y := 0) hc h hlg
  obtain ⟨z, d⟩ := r_putany (v := v) hr c2
  unfold popR
  rw [c1, Option.bind_some, d]
  exact ⟨_, rfl, c2, c3⟩
theorem rv1 {n : Nat} (hn : n < 65536) (he : n % 2 = 0) : rv 1 (n + 2) = (n + 2) % 65536 := by
  unfold rv
  rw [if_pos (by omega)]
  omega
theorem p_popset {m b r : Nat} {s t : xS} (hm : m ≤ 3) (hb : b ≤ 4) (hr : r = 0 ∨ r = 2) (h : OnR m b s t) :
    (∃ s1 t1 : xS, popC r s = some s1 ∧ popR r t = some t1 ∧ OnR (m + 1) b s1 t1) ∨ (∃ s1 t1 : xS, popC r s = some s1 ∧ popR r t = some t1 ∧ Gone 5 s1 t1) := by
  obtain ⟨n, hn, hev, e1, e2⟩ := h.sp
  have hr16 : r < 16 := by omega
  unfold popC popR f_Processor_pop
  rw [e1, e2]
  rcases p_read (y := 0) hm hb hn (Or.inl rfl) h.1 with ⟨v, s1, t1, c1, c2, ⟨vn, hv, rfl⟩, c4, c5, c6, c7⟩ | ⟨v, v', s1, t1, c1, c2, c3, c4, c5⟩
  · left
    have f1 : s1.2 10 1 = nI n := by rw [c6.1]; exact e1
    have f2 : t1.2 0 1 = nI n := by rw [c7.1]; exact e2
    have h1 := h.of c5 c6 c7
    rw [c1, c2, Option.bind_some, Option.bind_some, f1, show nI n + 2 = nI (n + 2) from nI_add n 2]
    rw [show f_Processor_setRegister 1 (nI (n + 2)) s1 = some _ from c_setreg (k := 1) (by omega) (by omega) s1, if_neg (by omega), Option.bind_some, Option.bind_some]
    show ∃ s1' t1' : xS, f_Processor_setRegister (nI r) (nI vn) (xsa s1 10 1 (nI (rv 1 (n + 2)))) = some s1' ∧ ((f_M_put (nI r) (nI vn) t1).bind fun z => some (xsa z 0 1 (xrem (z.2 0 1 + 2) 65536))) = some t1' ∧ OnR (m + 1) b s1' t1'
    rw [c_setreg hr16 (by omega), if_neg (by omega), r_put hr16 hv, Option.bind_some]
    have hz : (xsa t1 0 r (nI (rv r vn))).2 0 1 = nI n := by
      show upd (t1.2 0) r (nI (rv r vn)) 1 = nI n
      rw [pk_un (by omega)]; exact f2
    rw [hz, show nI n + 2 = nI (n + 2) from nI_add n 2, show xrem (nI (n + 2)) 65536 = nI ((n + 2) % 65536) from xrem_nI (d := 65536) (by omega) (by omega) (by omega), rv1 hn hev, xsa_comm (n := 10) (show 1 ≠ r by omega)]
    refine ⟨_, _, rfl, rfl, (h1.reg (rv_rg r vn)).reg ?_⟩
    rw [← rv1 hn hev]
    exact rv_rg 1 _
  · right
    rw [c1, c2, Option.bind_some, Option.bind_some]
    obtain ⟨s2, d1, d2, d3, d4⟩ := c_setany (k := 1) (v := s1.2 10 1 + 2) (by omega) c3.2.1
    obtain ⟨s3, f1, f2, f3, f4⟩ := c_setany (k := r) (v := v) hr16 d2
    obtain ⟨z, g⟩ := r_putany (v := v') hr16 c3.2.2
    show ∃ s1' t1' : xS, (((f_Processor_setRegister (nI 1) (s1.2 10 1 + 2) s1).bind fun q3 => some (v, q3)).bind fun q => f_Processor_setRegister (nI r) q.1 q.2) = some s1' ∧ ((f_M_put (nI r) v' t1).bind fun z => some (xsa z 0 1 (xrem (z.2 0 1 + 2) 65536))) = some t1' ∧ Gone 5 s1' t1'
    rw [d1, Option.bind_some, Option.bind_some, g, Option.bind_some]
    exact ⟨s3, _, f1, rfl, c3.1.moved (d3.tr f3) (LR.rf t1), f2, c3.2.2⟩
theorem one_reti {n : Nat} {s : xS} (h6 : n / 128 % 8 = 6) (hn : n < 65536) : f_Processor_oneOperand (nI n) s = (popC 2 s).bind fun q => popC 0 q := by
  have s7 : (nI n >>> ((7 : Int32) &&& 31)) &&& 7 = nI 6 := by
    rw [show nI n >>> ((7 : Int32) &&& 31) = nI (n / 128) from shr_nI (k := 7) (by omega) (by omega), and_7 (by omega), h6]
  unfold f_Processor_oneOperand f_Processor_oneOperand_32 popC
  rw [s7, if_pos (show nI 6 = 6 from rfl)]
  simp only [if_neg (show ¬ nI 6 < 6 by decide), Option.bind_assoc, bind_eta1]
  rfl
theorem one_retiR {n : Nat} {t : xS} : f_M_one (nI 6) (nI n) t = (popR 2 t).bind fun q => popR 0 q := by
  unfold f_M_one popR
  rw [if_neg (by decide), if_pos (show nI 6 = 6 from rfl)]
  simp only [Option.bind_assoc, Option.bind_some]
  rfl
/-- a push -/
theorem p_push {m b : Nat} {v : Int32} {s t : xS} (hm : m ≤ 4) (hb : b ≤ 3) (hy : s.1 13 = 0 ∨ s.1 13 = 1) (hv : wd v) (hv8 : s.1 13 = 1 → ∃ k, k < 256 ∧ v = nI k) (h : OnR m b s t) :
    ∃ z : Int32, xrem (t.2 0 1 + 65534) 65536 = z ∧
    ((∃ s1 t1 : xS, f_Processor_push v s = some s1 ∧ f_M_store z v (s.1 13) (xsa t 0 1 z) = some t1 ∧ OnR m (b + 1) s1 t1) ∨ (∃ s1 t1 : xS, f_Processor_push v s = some s1 ∧ f_M_store z v (s.1 13) (xsa t 0 1 z) = some t1 ∧ Gone 5 s1 t1)) := by
  obtain ⟨n, hn, hev, e1, e2⟩ := h.sp
  refine ⟨nI ((n + 65534) % 65536), ?_, ?_⟩
  · rw [e2, show nI n + 65534 = nI (n + 65534) from nI_add n 65534]
    exact xrem_nI (d := 65536) (by omega) (by omega) (by omega)
  · have hset : f_Processor_setRegister 1 (s.2 10 1 - 2) s = some (xsa s 10 1 (nI ((n + 65534) % 65536))) := by
      rw [e1, show (2 : Int32) = nI 2 from rfl, nI_subw (by omega), nI_mod]
      rw [show f_Processor_setRegister 1 (nI ((n + 2 ^ 32 - 2) % 2 ^ 32)) s = some _ from c_setreg (k := 1) (by omega) (by omega) s, if_neg (by omega)]
      have : rv 1 ((n + 2 ^ 32 - 2) % 2 ^ 32) = (n + 65534) % 65536 := by
        unfold rv
        rw [if_pos (by omega)]
        omega
      rw [this]
    have hon : OnR m b (xsa s 10 1 (nI ((n + 65534) % 65536))) (xsa t 0 1 (nI ((n + 65534) % 65536))) := h.reg ⟨_, by omega, rfl, fun _ => by omega, fun q => by omega, fun q => by omega⟩
    have hC : f_Processor_push v s = f_Bus_write (nI ((n + 65534) % 65536)) v (s.1 13) (xsa s 10 1 (nI ((n + 65534) % 65536))) := by
      unfold f_Processor_push
      rw [hset, Option.bind_some, bind_eta1]
      rfl
    rw [hC]
    have hz0 : (n + 65534) % 65536 < 65536 := by omega
    clear hC hset
    generalize (n + 65534) % 65536 = z0 at hon hz0 ⊢
    rcases p_store (s := xsa s 10 1 (nI z0)) (y := s.1 13) hm hb hz0 hy hv hv8 hon.1 with ⟨s1, t1, c1, c2, c3, c4, c5⟩ | ⟨s1, t1, c1, c2, c3, c4, c5⟩
    · exact Or.inl ⟨s1, t1, c1, c2, hon.of c3 c4 c5⟩
    · exact Or.inr ⟨s1, t1, c1, c2, c3⟩
theorem p_one {m b n : Nat} {s t : xS} (hm : m ≤ 2) (hb : b ≤ 3) (hn : n < 65536) (h17 : s.1 17 = 0) (h : OnR m b s t) : Fin (m + 2) (b + 1) (f_Processor_oneOperand (nI n) s) (f_M_one (nI (n / 128 % 8)) (nI n) t) := by
  have s7 : (nI n >>> ((7 : Int32) &&& 31)) &&& 7 = nI (n / 128 % 8) := by rw [show nI n >>> ((7 : Int32) &&& 31) = nI (n / 128) from shr_nI (k := 7) (by omega) (by omega), and_7 (by omega)]
  have s6 : (nI n >>> ((6 : Int32) &&& 31)) &&& 1 = nI (n / 64 % 2) := by rw [show nI n >>> ((6 : Int32) &&& 31) = nI (n / 64) from shr_nI (k := 6) (by omega) (by omega), and_1 (by omega)]
  have s4 : (nI n >>> ((4 : Int32) &&& 31)) &&& 3 = nI (n / 16 % 4) := by rw [show nI n >>> ((4 : Int32) &&& 31) = nI (n / 16) from shr_nI (k := 4) (by omega) (by omega), and_3 (by omega)]
  have s0 : nI n &&& 15 = nI (n % 16) := and_15 (by omega)
  have r6 : xrem (nI n / 64) 2 = nI (n / 64 % 2) := by rw [show nI n / 64 = nI (n / 64) from pk_div (d := 64) (by omega) (by omega) (by omega)]; exact xrem_nI (d := 2) (by omega) (by omega) (by omega)
  have r4 : xrem (nI n / 16) 4 = nI (n / 16 % 4) := by rw [show nI n / 16 = nI (n / 16) from pk_div (d := 16) (by omega) (by omega) (by omega)]; exact xrem_nI (d := 4) (by omega) (by omega) (by omega)
  have r0 : xrem (nI n) 16 = nI (n % 16) := xrem_nI (d := 16) (by omega) (by omega) (by omega)
  have hbu : ∀ {m' : Nat} {s' t' : xS}, OnR m' b s' t' → OnR m' (b + 1) s' t' := fun q => ⟨q.1.up, q.2⟩
  by_cases h6 : n / 128 % 8 = 6
  · rw [one_reti h6 hn, h6, one_retiR]
    rcases p_popset (r := 2) (by omega) (by omega) (Or.inr rfl) h with ⟨s1, t1, c1, c2, c3⟩ | ⟨s1, t1, c1, c2, c3⟩
    · rw [c1, c2, Option.bind_some, Option.bind_some]
      rcases p_popset (r := 0) (by omega) (by omega) (Or.inl rfl) c3 with ⟨s2, t2, d1, d2, d3⟩ | ⟨s2, t2, d1, d2, d3⟩
      · exact Or.inl ⟨s2, t2, d1, d2, hbu d3⟩
      · exact Or.inr ⟨s2, t2, d1, d2, d3.to (by omega)⟩
    · rw [c1, c2, Option.bind_some, Option.bind_some]
      obtain ⟨s2, d1, d2, d3⟩ := c_popset (r := 0) (by omega) (by omega) c3.2.1
      obtain ⟨t2, e1, e2, e3⟩ := r_popset (r := 0) (by omega) (by omega) c3.2.2 c3.lg
      exact Or.inr ⟨s2, t2, d1, e1, c3.go d2 d3 e2 e3 (by omega) (by omega)⟩
  · have k6 : ¬ nI (n / 128 % 8) = 6 := fun q => h6 ((nI_eq_lit (by omega) 6 (by omega)).mp q)
    unfold f_Processor_oneOperand f_M_one
    rw [s7, if_neg k6]
    by_cases h7 : n / 128 % 8 = 7
    · rw [h7, if_pos (show nI 7 = 7 from rfl)]
      unfold f_Processor_oneOperand_32
      rw [if_neg (by decide)]
      exact Or.inl ⟨s, t, rfl, rfl, hbu h.up.up⟩
    · have k7 : ¬ nI (n / 128 % 8) = 7 := fun q => h7 ((nI_eq_lit (by omega) 7 (by omega)).mp q)
      rw [if_neg k7, if_neg k6]
      generalize hk0 : n / 128 % 8 = k at *
      have hk : k ≤ 5 := by omega
      have hmd : n / 16 % 4 < 4 := by omega
      have hr : n % 16 < 16 := by omega
      have hb6 : n / 64 % 2 = 0 ∨ n / 64 % 2 = 1 := by omega
      generalize n / 16 % 4 = md at *
      generalize n % 16 = r at *
      -- the size of the operand
      have hsize : ∃ y : Int32, (y = 0 ∨ y = 1) ∧ (y = 0 ∨ (k ≠ 1 ∧ k ≠ 3 ∧ k ≠ 5)) ∧ f_Processor_oneOperand_32 (nI n) (nI k) s = f_Processor_oneOperand_69 (nI n) (nI k) y s ∧ (if xrem (nI n / 64) 2 = 1 then (if xrem (nI k) 2 = 0 then f_M_one_107 (nI k) (nI n) 1 t else f_M_one_106 (nI k) (nI n) t) else f_M_one_106 (nI k) (nI n) t) = f_M_one_107 (nI k) (nI n) y t := by
        unfold f_Processor_oneOperand_32 f_Processor_oneOperand_64 f_Processor_oneOperand_68 f_M_one_106
        rw [s6, r6, show xrem (nI k) 2 = nI (k % 2) from xrem_nI (d := 2) (by omega) (by omega) (by omega), if_pos (show nI k < 6 from nI_lt (b := 6) (by omega) (by omega))]
        rcases hb6 with z | z
        · rw [z, if_neg (show ¬ nI 0 = 1 by decide), if_neg (show ¬ nI 0 = 1 by decide)]
          exact ⟨0, Or.inl rfl, Or.inl rfl, rfl, rfl⟩
        · rw [z, if_pos (show nI 1 = 1 from rfl), if_pos (show nI 1 = 1 from rfl)]
          rcases (show k = 0 ∨ k = 1 ∨ k = 2 ∨ k = 3 ∨ k = 4 ∨ k = 5 by omega) with rfl | rfl | rfl | rfl | rfl | rfl
          · exact ⟨1, Or.inr rfl, Or.inr (by omega), rfl, rfl⟩
          · exact ⟨0, Or.inl rfl, Or.inl rfl, rfl, rfl⟩
          · exact ⟨1, Or.inr rfl, Or.inr (by omega), rfl, rfl⟩
          · exact ⟨0, Or.inl rfl, Or.inl rfl, rfl, rfl⟩
          · exact ⟨1, Or.inr rfl, Or.inr (by omega), rfl, rfl⟩
          · exact ⟨0, Or.inl rfl, Or.inl rfl, rfl, rfl⟩
      obtain ⟨y, hy, hyk, hC, hR⟩ := hsize
      rw [hC, hR]
      have hxy : xbl y = true := by rcases hy with rfl | rfl <;> decide
      obtain ⟨s1, c1, c2, c3, hsrc⟩ := p_src (y := y) (s := xsc s 13 y) (t := t) (m := m) (b := b) (by omega) (by omega) hr hmd rfl hy h
      have hR107 : f_M_one_107 (nI k) (nI n) y t = (f_M_operand (nI r) (nI md) y t).bind fun q => f_M_one_137 (nI k) y q.1 (nI (top y)) q.2 := by
        unfold f_M_one_107 top
        rw [r4, r0]
        congr 1
        funext q
        split <;> rfl
      have hC69 : f_Processor_oneOperand_69 (nI n) (nI k) y s = (f_Processor_operand s1).bind fun q4 => if nI k = 4 then ((f_Processor_push q4.1 q4.2).bind fun q16 => some q16) else (if nI k = 5 then ((f_Processor_push ((q4.2.2 10) 0) q4.2).bind fun q12 => (f_Processor_setRegister 0 q4.1 q12).bind fun q14 => some q14) else ((f_Processor_changed (nI k) q4.1 q4.2).bind fun q8 => (f_Processor_deliver q8.1 q8.2).bind fun q10 => some q10)) := by
        unfold f_Processor_oneOperand_69 f_Processor_oneOperand_137
        rw [if_pos hxy, s4, s0, c1, Option.bind_some]
      rw [hR107, hC69]
      have k4 : nI k = 4 ↔ k = 4 := nI_eq_lit (by omega) 4 (by omega)
      have k5 : nI k = 5 ↔ k = 5 := nI_eq_lit (by omega) 5 (by omega)
      rcases hsrc with ⟨v, s2, t2, d1, d2, d3, d4, d5, d6, d7, d8, d9⟩ | ⟨v, v', s2, t2, d1, d2, d3, d4, d5⟩
      · rw [d1, d2, Option.bind_some, Option.bind_some]
        have hs17 : s2.1 17 = 0 := d9.trans (c3.trans h17)
        by_cases hk3 : k ≤ 3
        · -- changed
          obtain ⟨vn, hvn, rfl⟩ := nI_lit_of d3 d4 hy
          rw [if_neg (fun q => by have := k4.mp q; omega), if_neg (fun q => by have := k5.mp q; omega)]
          have hch := p_chg (k := k) (v := vn) (s := s2) (t := t2) hk3 (by rw [d7]; exact hvn) (by rw [d7]; rcases hyk with z | z; exact Or.inl z; exact Or.inr ⟨z.1, z.2.1⟩) d5
          rw [d7] at hch
          have h13 : s2.1 13 = 0 ∨ s2.1 13 = 1 := by rw [d7]; exact hy
          have fin : ∀ (rr : Nat) (s' t' : xS), rr < cut y → s'.1 13 = y → On (m + 1) b s' t' → KP s' t' → PF s' t' → Fin (m + 2) (b + 1) ((f_Processor_deliver (nI rr) s').bind fun q10 => some q10) (f_M_back (nI rr) y t') := by
            intro rr s' t' h1 h2 h3 h4 h5
            rw [bind_eta1]
            have hd := p_deliver (v := rr) (by omega) hb (by rw [h2]; exact hy) (by rw [h2]; exact h1) h3 h4 h5
            rw [h2] at hd
            rcases hd with ⟨s3, t3, e1, e2, e3⟩ | ⟨s3, t3, e1, e2, e3⟩
            · exact Or.inl ⟨s3, t3, e1, e2, e3.up⟩
            · exact Or.inr ⟨s3, t3, e1, e2, e3.to (by omega)⟩
          rcases hch with ⟨-, rr, e1, e2, e3⟩ | ⟨rr, fl, e1, hfl, e2, e3⟩
          · show Fin (m + 2) (b + 1) ((f_Processor_changed (nI k) (nI vn) s2).bind _) _
            rw [e2, e3, Option.bind_some]
            exact fin rr s2 t2 e1 d7 d5.1 d6 (Or.inl ⟨hs17, d5.2⟩)
          · show Fin (m + 2) (b + 1) ((f_Processor_changed (nI k) (nI vn) s2).bind _) (f_M_one_137 (nI k) y (nI vn) (nI (top y)) t2)
            rw [e2, Option.bind_some]
            rcases e3 with ⟨q, e3⟩ | ⟨q, e3⟩
            · rw [e3]
              exact fin rr (xsc (xsc s2 16 fl) 17 1) t2 e1 d7 d5.1 d6 (Or.inr ⟨rfl, hfl, Or.inl ⟨q.2.1, q.2.2, d5.2⟩⟩)
            · rw [e3]
              exact fin rr (xsc (xsc s2 16 fl) 17 1) (xsa t2 0 2 fl) e1 d7 d5.1 d6 (Or.inr ⟨rfl, hfl, Or.inr ⟨fun z => q ⟨one_ne0, z.1, z.2⟩, (OnR.reg d5 hfl).2⟩⟩)
        · -- PUSH and CALL
          have h13 : s2.1 13 = 0 ∨ s2.1 13 = 1 := by rw [d7]; exact hy
          have hR137 : f_M_one_137 (nI k) y v (nI (top y)) t2 = f_M_one_185 (nI k) y v (xrem (t2.2 0 1 + 65534) 65536) (if k = 4 then v else t2.2 0 0) (xsa t2 0 1 (xrem (t2.2 0 1 + 65534) 65536)) := by
            unfold f_M_one_137
            rw [if_neg (show ¬ nI k ≤ 3 from nI_ge (a := 3) (by omega) (by omega))]
            by_cases hk4 : k = 4
            · rw [if_pos (k4.mpr hk4), if_pos hk4]; rfl
            · rw [if_neg (fun q => hk4 (k4.mp q)), if_neg hk4]; rfl
          show Fin (m + 2) (b + 1) _ (f_M_one_137 (nI k) y v (nI (top y)) t2)
          rw [hR137]
          unfold f_M_one_185 f_M_one_201
          by_cases hk4 : k = 4
          · rw [if_pos (k4.mpr hk4), if_pos hk4]
            obtain ⟨z, z1, z2⟩ := p_push (by omega) hb h13 d3 (by rw [d7]; exact d4) d5
            rw [z1]
            rw [d7] at z2
            simp only [if_neg (show ¬ nI k = 5 from fun q => by have := k5.mp q; omega), bind_eta1]
            rcases z2 with ⟨s3, t3, e1, e2, e3⟩ | ⟨s3, t3, e1, e2, e3⟩
            · exact Or.inl ⟨s3, t3, e1, e2, e3.up⟩
            · exact Or.inr ⟨s3, t3, e1, e2, e3.to (by omega)⟩
          · have hk5 : k = 5 := by omega
            have hy0 : y = 0 := by
              rcases hyk with z | z
              · exact z
              · exact absurd hk5 z.2.2
            rw [if_neg (fun q => hk4 (k4.mp q)), if_pos (k5.mpr hk5), if_neg hk4]
            obtain ⟨pc, hpc, hev, e1, e2⟩ := d5.pc
            obtain ⟨vn, hvn, rfl⟩ := d3
            obtain ⟨z, z1, z2⟩ := p_push (v := nI pc) (by omega) hb h13 ⟨pc, hpc, rfl⟩ (by rw [d7, hy0]; exact fun q => absurd q (by decide)) d5
            rw [z1, e2]
            show Fin (m + 2) (b + 1) ((f_Processor_push (s2.2 10 0) s2).bind _) _
            rw [e1]
            rw [d7] at z2
            simp only [if_pos (k5.mpr hk5), bind_eta1]
            rcases z2 with ⟨s3, t3, g1, g2, g3⟩ | ⟨s3, t3, g1, g2, g3⟩
            · rw [g1, g2, Option.bind_some, Option.bind_some]
              obtain ⟨s4, t4, i1, i2, i3, -, -⟩ := p_setreg (k := 0) (n := vn) (by omega) hvn g3
              exact Or.inl ⟨s4, t4, i1, i2, i3.up⟩
            · rw [g1, g2, Option.bind_some, Option.bind_some]
              obtain ⟨s4, i1, i2, i3, -⟩ := c_setany (k := 0) (v := nI vn) (by omega) g3.2.1
              obtain ⟨w, j1⟩ := r_putany (k := 0) (v := nI vn) (by omega) g3.2.2
              exact Or.inr ⟨s4, _, i1, j1, g3.go i2 i3 g3.2.2 (LR.rf t3) (by omega) (by omega)⟩
      · -- the power went away with the operand
        rw [d1, d2, Option.bind_some, Option.bind_some]
        obtain ⟨t3, g5, g6, g7⟩ := r_one137 (k := k) (y := y) (v := v') (tp := nI (top y)) hk d3.2.2 d5
        have hCC : ∃ s4 : xS, (if nI k = 4 then ((f_Processor_push v s2).bind fun q16 => some q16) else (if nI k = 5 then ((f_Processor_push ((s2.2 10) 0) s2).bind fun q12 => (f_Processor_setRegister 0 v q12).bind fun q14 => some q14) else ((f_Processor_changed (nI k) v s2).bind fun q8 => (f_Processor_deliver q8.1 q8.2).bind fun q10 => some q10))) = some s4 ∧ CG 5 s4 ∧ LC s2 s4 := by
          split
          · obtain ⟨s3, e1, e2, e3⟩ := c_push (v := v) d3.2.1
            exact ⟨s3, by rw [e1]; rfl, e2, e3⟩
          · split
            · obtain ⟨s3, e1, e2, e3⟩ := c_push (v := s2.2 10 0) d3.2.1
              obtain ⟨s4, i1, i2, i3, -⟩ := c_setany (k := 0) (v := v) (by omega) e2
              refine ⟨s4, ?_, i2, e3.tr i3⟩
              rw [e1, Option.bind_some, bind_eta1]
              exact i1
            · next q4 q5 =>
              have hk3 : k ≤ 3 := by
                have w4 : ¬ k = 4 := fun z => q4 (k4.mpr z)
                have w5 : ¬ k = 5 := fun z => q5 (k5.mpr z)
                omega
              obtain ⟨w, s3, e1, hf⟩ := a_changed hk3 v s2
              obtain ⟨f1, f2, f3, f4⟩ := hf.g d3.2.1
              obtain ⟨s4, i1, i2, i3⟩ := c_deliver (v := w) f1 (by intro q; rw [f3] at q; rw [f4]; exact d4 q)
              refine ⟨s4, ?_, i2, f2.tr i3⟩
              rw [e1, Option.bind_some, bind_eta1]
              exact i1
        obtain ⟨s4, e1, e2, e3⟩ := hCC
        exact Or.inr ⟨s4, t3, e1, g5, d3.go e2 e3 g6 g7 (by omega) (by omega)⟩
