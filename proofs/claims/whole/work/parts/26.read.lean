theorem c_sense {c : Nat} {s : xS} (hc : c ≤ 100) (h : CG c s) : ∃ (v : Int32) (s1 : xS), f_Bus_loadSensor s = some (v, s1) ∧ CG (c + 1) s1 ∧ LC s s1 ∧ Fc s s1 := by
  obtain ⟨h1, h2, h3, h4, h5, h6, h7, a, h8, h9⟩ := h
  have hg : CG (c + 1) (xsc s 8 (nI (a + 1))) := ⟨h1, h2, h3, h4, h5, h6, h7, a + 1, by omega, rfl⟩
  have h54 : f_Bus_loadSensor_54 (xsc s 8 (nI (a + 1))) = some (0, xsc s 8 (nI (a + 1))) := by
    unfold f_Bus_loadSensor_54
    rw [if_pos (show (xsc s 8 (nI (a + 1))).1 1 = 0 from h2)]
  unfold f_Bus_loadSensor
  rw [h9, nI_1]
  split
  · exact ⟨_, _, h54, hg, LC.rf s, Fc.rf s⟩
  · split
    · exact ⟨_, _, h54, hg, LC.rf s, Fc.rf s⟩
    · next q =>
      have ha : a < 4 := by
        refine Nat.not_le.mp fun z => q ?_
        exact nI_le (a := 4) z (by omega)
      rw [if_pos (xin_nI ha (by omega))]
      exact ⟨_, _, rfl, hg, LC.rf s, Fc.rf s⟩
theorem r_sense {c : Nat} {t : xS} (hc : c ≤ 100) (h : RG c t) (hlg : ∃ j : Nat, j ≤ 4 ∧ t.1 11 = nI j) : ∃ (v : Int32) (t1 : xS), f_M_sense t = some (v, t1) ∧ RG (c + 1) t1 ∧ LR t t1 ∧ Ft t t1 := by
  obtain ⟨h1, h2, h3, h4, h5, h6, h7, h8, h9, a, h10, h11⟩ := h
  obtain ⟨j, hj, h12⟩ := hlg
  have hg : RG (c + 1) (xsc t 2 (nI (a + 1))) := ⟨h1, h2, h3, h4, h5, h6, h7, h8, h9, a + 1, by omega, rfl⟩
  unfold f_M_sense
  rw [h11, nI_1, h12]
  split
  · exact ⟨_, _, rfl, hg, LR.rf t, Ft.rf t⟩
  · next q =>
    have ha : a + 1 ≤ j := by
      refine Nat.not_lt.mp fun z => q ?_
      exact nI_lt z (by omega)
    rw [show nI (a + 1) - 1 = nI a from pk_sub (a := a + 1) (b := 1) (by omega), if_pos (xin_nI (by omega) (by omega))]
    exact ⟨_, _, rfl, hg, LR.rf t, Ft.rf t⟩
-- bytes
theorem odd_C (x : Int32) : (∃ n, n < 2 ^ 32 ∧ x = nI n ∧ (x &&& 1 = 1 ↔ n % 2 = 1)) := by
  obtain ⟨n, h1, h2⟩ := nI_all x
  refine ⟨n, h1, h2, ?_⟩
  rw [h2, and_1 h1]
  exact nI_eq (b := 1) (by omega) (by omega)
/-- what is read of a word, for an address of sixteen bits -/
theorem p_part {z n : Nat} {y : Int32} {v : Int32} {s t : xS} (hn : n < 65536) (hv : wd v) (hy : y = 0 ∨ y = 1) : ∃ r : Int32, f_Bus_read_21 (nI n) y v s = some (r, s) ∧ f_M_loaded_24 (nI n) y v t = some (r, t) ∧ wd r ∧ (y = 1 → ∃ k, k < 256 ∧ r = nI k) := by
  obtain ⟨u, hu, rfl⟩ := hv
  unfold f_Bus_read_21 f_M_loaded_24 f_Bus_read_47 f_M_loaded_52
  rcases hy with rfl | rfl
  · rw [if_pos rfl, if_pos rfl]
    exact ⟨_, rfl, rfl, ⟨u, hu, rfl⟩, fun q => absurd q (by decide)⟩
  · rw [if_neg one_ne0, if_neg one_ne0, and_1 (by omega), show xrem (nI n) 2 = nI (n % 2) from xrem_nI (d := 2) (by omega) (by omega) (by omega)]
    by_cases ho : n % 2 = 1
    · rw [ho, if_pos (show nI 1 = 1 from rfl), if_neg (show ¬ nI 1 = 0 from one_ne0)]
      refine ⟨nI (u / 256), ?_, ?_, ⟨u / 256, by omega, rfl⟩, fun _ => ⟨u / 256, by omega, rfl⟩⟩
      · rw [show nI u >>> ((8 : Int32) &&& 31) = nI (u / 256) from shr_nI (k := 8) (by omega) (by omega)]
      · rw [show nI u / 256 = nI (u / 256) from pk_div (d := 256) (by omega) (by omega) (by omega)]
    · rw [show n % 2 = 0 by omega, if_neg (show ¬ nI 0 = 1 by decide), if_pos (show nI 0 = 0 from rfl)]
      refine ⟨nI (u % 256), ?_, ?_, ⟨u % 256, by omega, rfl⟩, fun _ => ⟨u % 256, by omega, rfl⟩⟩
      · rw [and_255 (by omega)]
      · rw [show xrem (nI u) 256 = nI (u % 256) from xrem_nI (d := 256) (by omega) (by omega) (by omega)]
theorem sens {n : Nat} (hn : n < 65536) : (nI n &&& 65534 = 16 ↔ (n = 16 ∨ n = 17)) ∧ (nI n = 16 ↔ n = 16) ∧ (nI n = 17 ↔ n = 17) := by
  refine ⟨?_, nI_eq (b := 16) (by omega) (by omega), nI_eq (b := 17) (by omega) (by omega)⟩
  rw [and_65534 (by omega)]
  have := nI_eq (a := n % 65536 / 2 * 2) (b := 16) (by omega) (by omega)
  constructor
  · intro h
    have := this.mp h
    omega
  · intro h
    exact this.mpr (by omega)
theorem p_read {m b n : Nat} {y : Int32} {s t : xS} (hm : m ≤ 3) (hb : b ≤ 4) (hn : n < 65536) (hy : y = 0 ∨ y = 1) (h : On m b s t) :
    (∃ (v : Int32) (s1 t1 : xS), f_Bus_read (nI n) y s = some (v, s1) ∧ f_M_loaded (nI n) y t = some (v, t1) ∧ wd v ∧ (y = 1 → ∃ k, k < 256 ∧ v = nI k) ∧ On (m + 1) b s1 t1 ∧ Fc s s1 ∧ Ft t t1) ∨
    (∃ (v v' : Int32) (s1 t1 : xS), f_Bus_read (nI n) y s = some (v, s1) ∧ f_M_loaded (nI n) y t = some (v', t1) ∧ Gone 5 s1 t1 ∧ Fc s s1 ∧ Ft t t1) := by
  obtain ⟨e1, e2, e3⟩ := sens hn
  by_cases h16 : n = 16 ∨ n = 17
  · have hR : f_M_loaded (nI n) y t = (f_M_sense t).bind fun q => f_M_loaded_24 (nI n) y q.1 q.2 := by
      unfold f_M_loaded f_M_loaded_12
      rcases h16 with z | z
      · rw [if_pos (e2.mpr z)]
      · rw [if_neg (fun q => by have := e2.mp q; omega), if_pos (e3.mpr z)]
    have hC : f_Bus_read (nI n) y s = (f_Bus_loadSensor s).bind fun q => f_Bus_read_21 (nI n) y q.1 q.2 := by
      unfold f_Bus_read
      rw [if_pos (e1.mpr h16)]
    rcases p_sense hm hb h with ⟨v, s1, t1, c1, c2, c3, c4, c5, c6⟩ | ⟨v, v', s1, t1, c1, c2, c3, c4, c5⟩
    · obtain ⟨r, d1, d2, d3, d4⟩ := p_part (z := 0) (s := s1) (t := t1) hn c3 hy
      exact Or.inl ⟨r, s1, t1, by rw [hC, c1]; exact d1, by rw [hR, c2]; exact d2, d3, d4, c4, c5, c6⟩
    · have g1 : ∃ r, f_Bus_read_21 (nI n) y v s1 = some (r, s1) := by
        unfold f_Bus_read_21 f_Bus_read_47
        split
        · exact ⟨_, rfl⟩
        · split <;> exact ⟨_, rfl⟩
      have g2 : ∃ r, f_M_loaded_24 (nI n) y v' t1 = some (r, t1) := by
        unfold f_M_loaded_24 f_M_loaded_52
        split
        · exact ⟨_, rfl⟩
        · split <;> exact ⟨_, rfl⟩
      obtain ⟨r1, g1⟩ := g1
      obtain ⟨r2, g2⟩ := g2
      exact Or.inr ⟨r1, r2, s1, t1, by rw [hC, c1]; exact g1, by rw [hR, c2]; exact g2, c3, c4, c5⟩
  · obtain ⟨v, s1, t1, c1, c2, c3, c4, c5, c6⟩ := p_fetch hb h (nI n)
    obtain ⟨r, d1, d2, d3, d4⟩ := p_part (z := 0) (s := s1) (t := t1) hn c3 hy
    refine Or.inl ⟨r, s1, t1, ?_, ?_, d3, d4, ?_, c5, c6⟩
    · unfold f_Bus_read
      rw [if_neg (fun q => h16 (e1.mp q)), c1]
      exact d1
    · unfold f_M_loaded
      rw [if_neg (fun q => h16 (Or.inl (e2.mp q))), if_neg (fun q => h16 (Or.inr (e3.mp q))), c2]
      exact d2
    · obtain ⟨hl, ⟨⟨a, j, v1, v2, v3, v4, v5, v6⟩, w2⟩, r1⟩ := c4
      exact ⟨hl, ⟨⟨a, j, by omega, v2, v3, v4, v5, v6⟩, w2⟩, r1⟩
theorem c_read {c : Nat} {x y : Int32} {s : xS} (hc : c ≤ 100) (h : CG c s) : ∃ (v : Int32) (s1 : xS), f_Bus_read x y s = some (v, s1) ∧ CG (c + 1) s1 ∧ LC s s1 ∧ Fc s s1 := by
  have key : ∀ (v : Int32) (s1 : xS), ∃ r, f_Bus_read_21 x y v s1 = some (r, s1) := by
    intro v s1
    unfold f_Bus_read_21 f_Bus_read_47
    split
    · exact ⟨_, rfl⟩
    · split <;> exact ⟨_, rfl⟩
  unfold f_Bus_read
  split
  · obtain ⟨v, s1, c1, c2, c3, c4⟩ := c_sense hc h
    obtain ⟨r, d⟩ := key v s1
    exact ⟨r, s1, by rw [c1]; exact d, c2, c3, c4⟩
  · obtain ⟨v, s1, c1, c2, c3, c4⟩ := c_fetch h x
    obtain ⟨r, d⟩ := key v s1
    obtain ⟨h1, h2, h3, h4, h5, h6, h7, a, h8, h9⟩ := c2
    exact ⟨r, s1, by rw [c1]; exact d, ⟨h1, h2, h3, h4, h5, h6, h7, a, by omega, h9⟩, c3, c4⟩
theorem RG.up {c : Nat} {t : xS} (h : RG c t) : RG (c + 1) t := by
  obtain ⟨h1, h2, h3, h4, h5, h6, h7, h8, h9, a, h10, h11⟩ := h
  exact ⟨h1, h2, h3, h4, h5, h6, h7, h8, h9, a, by omega, h11⟩
theorem CG.up {c : Nat} {s : xS} (h : CG c s) : CG (c + 1) s := by
  obtain ⟨h1, h2, h3, h4, h5, h6, h7, a, h8, h9⟩ := h
  exact ⟨h1, h2, h3, h4, h5, h6, h7, a, by omega, h9⟩
theorem r_loaded {c : Nat} {x y : Int32} {t : xS} (hc : c ≤ 100) (h : RG c t) (hlg : ∃ j : Nat, j ≤ 4 ∧ t.1 11 = nI j) : ∃ (v : Int32) (t1 : xS), f_M_loaded x y t = some (v, t1) ∧ RG (c + 1) t1 ∧ LR t t1 ∧ Ft t t1 := by
  have key : ∀ (v : Int32) (t1 : xS), ∃ r, f_M_loaded_24 x y v t1 = some (r, t1) := by
    intro v t1
    unfold f_M_loaded_24 f_M_loaded_52
    split
    · exact ⟨_, rfl⟩
    · split <;> exact ⟨_, rfl⟩
  obtain ⟨v, t1, c1, c2, c3, c4⟩ := r_sense hc h hlg
  obtain ⟨r, d⟩ := key v t1
  obtain ⟨v2, e1⟩ := r_plain h x
  obtain ⟨r2, d2⟩ := key v2 t
  unfold f_M_loaded f_M_loaded_12
  split
  · exact ⟨r, t1, by rw [c1]; exact d, c2, c3, c4⟩
  · split
    · exact ⟨r, t1, by rw [c1]; exact d, c2, c3, c4⟩
    · exact ⟨r2, t, by rw [e1]; exact d2, h.up, LR.rf t, Ft.rf t⟩
