theorem bind_eta (o : Option (Int32 × xS)) : (o.bind fun q => some (q.1, q.2)) = o := by cases o <;> rfl
theorem bind_eta1 {α : Type} (o : Option α) : (o.bind fun q => some q) = o := by cases o <;> rfl
def KP (s t : xS) : Prop := (s.1 14 = 0 ∧ t.1 20 = 0) ∨ (s.1 14 = 1 ∧ t.1 20 = 1 ∧ ∃ r : Nat, r < 16 ∧ s.1 15 = nI r ∧ t.1 21 = nI r) ∨ (s.1 14 = 2 ∧ t.1 20 = 2 ∧ ∃ a : Nat, a < 65536 ∧ s.1 15 = nI a ∧ t.1 21 = nI a)
def KC (s : xS) : Prop := s.1 14 = 1 → ∃ r : Nat, r < 16 ∧ s.1 15 = nI r
def KR (t : xS) : Prop := t.1 20 = 1 → ∃ r : Nat, r < 16 ∧ t.1 21 = nI r
theorem KP.c {s t : xS} (h : KP s t) : KC s := by
  intro q
  rcases h with ⟨h, -⟩ | ⟨-, -, r, h1, h2, -⟩ | ⟨h, -⟩
  · rw [h] at q; exact absurd q (by decide)
  · exact ⟨r, h1, h2⟩
  · rw [h] at q; exact absurd q (by decide)
theorem KP.r {s t : xS} (h : KP s t) : KR t := by
  intro q
  rcases h with ⟨-, h⟩ | ⟨-, -, r, h1, -, h2⟩ | ⟨-, h, -⟩
  · rw [h] at q; exact absurd q (by decide)
  · exact ⟨r, h1, h2⟩
  · rw [h] at q; exact absurd q (by decide)
def cut (y : Int32) : Nat := if y = 0 then 65536 else 256
theorem mask_eq (s : xS) (n : Nat) (hn : n < 65536) : ∃ q : Int32, f_Processor_mask s = some (q, s) ∧ nI n &&& q = nI (n % cut (s.1 13)) := by
  unfold f_Processor_mask f_Processor_mask_15 cut
  by_cases h : s.1 13 = 0
  · rw [if_pos h, if_pos h]
    exact ⟨_, rfl, and_65535 (by omega)⟩
  · rw [if_neg h, if_neg h]
    exact ⟨_, rfl, and_255 (by omega)⟩
theorem op_mem {s : xS} (h : s.1 14 = 2) : f_Processor_operand s = f_Bus_read (s.1 15) (s.1 13) s := by
  unfold f_Processor_operand
  rw [if_pos h]
  exact bind_eta _
theorem op_48 {s : xS} {n : Nat} (hn : n < 65536) : f_Processor_operand_48 (nI n) s = some (nI (n % cut (s.1 13)), s) := by
  obtain ⟨q, c1, c2⟩ := mask_eq s n hn
  unfold f_Processor_operand_48
  rw [c1, Option.bind_some, c2]
theorem op_reg {s : xS} {r n : Nat} (h : s.1 14 = 1) (hr : r < 16) (h2 : s.1 15 = nI r) (h3 : s.2 10 r = nI n) (hn : n < 65536) : f_Processor_operand s = some (nI (n % cut (s.1 13)), s) := by
  unfold f_Processor_operand
  rw [h, if_neg (by decide), if_pos rfl, h2, if_pos (xin_nI hr (by omega)), nI_c (by omega), h3, op_48 hn]
theorem op_con {s : xS} {n : Nat} (h : s.1 14 = 0) (h2 : s.1 15 = nI n) (hn : n < 65536) : f_Processor_operand s = some (nI (n % cut (s.1 13)), s) := by
  unfold f_Processor_operand
  rw [h, if_neg (by decide), if_neg (by decide), h2, op_48 hn]
theorem p_idx {m b r : Nat} {s t : xS} (hb : b ≤ 4) (hr : r < 16) (h : OnR m b s t) : ∃ (f x : Int32) (a : Nat) (s1 t1 : xS), a < 65536 ∧ f_Processor_base (nI r) s = some (f, s) ∧ f_Processor_nextWord s = some (x, s1) ∧ (f + x) &&& 65535 = nI a ∧ f_M_indexed (nI r) t = some (nI a, t1) ∧ OnR m b s1 t1 ∧ Fp s s1 ∧ Tp t t1 := by
  obtain ⟨x, s1, t1, c1, c2, ⟨xn, hx, rfl⟩, c4, c5, c6⟩ := p_next hb h
  have e := xin_nI hr (N := 16) (by omega)
  have ec := nI_c (n := r) (by omega)
  have e0 : nI r = 0 ↔ r = 0 := nI_eq_lit (by omega) 0 (by omega)
  have e2 : nI r = 2 ↔ r = 2 := nI_eq_lit (by omega) 2 (by omega)
  have e3 : nI r = 3 ↔ r = 3 := nI_eq_lit (by omega) 3 (by omega)
  -- the base of both
  have hbase : ∃ fn, fn < 65536 ∧ f_Processor_base (nI r) s = some (nI fn, s) ∧ f_M_indexed (nI r) t = f_M_indexed_33 (nI fn) t := by
    unfold f_Processor_base f_Processor_base_15 f_M_indexed f_M_indexed_23
    rw [if_pos e, if_pos e, ec]
    by_cases h2 : r = 2
    · rw [if_pos (e2.mpr h2), if_neg (fun q => by have := e0.mp q; omega), if_pos (e2.mpr h2)]
      exact ⟨0, by omega, rfl, rfl⟩
    · rw [if_neg (fun q => h2 (e2.mp q)), if_neg (fun q => h2 (e2.mp q))]
      obtain ⟨n, hn, g1, g2⟩ := h.r hr
      by_cases h0 : r = 0
      · subst h0
        rw [if_pos (show nI 0 = 0 from rfl), g1, g2]
        exact ⟨n, hn, rfl, rfl⟩
      · rw [if_neg (fun q => h0 (e0.mp q))]
        by_cases h3 : r = 3
        · rw [if_pos (e3.mpr h3)]
          subst h3
          obtain ⟨c1, z, -, c3, -, -, c4⟩ := h.2 3 (by omega)
          rw [c1, c3, c4 rfl]
          exact ⟨0, by omega, rfl, rfl⟩
        · rw [if_neg (fun q => h3 (e3.mp q)), g1, g2]
          exact ⟨n, hn, rfl, rfl⟩
  obtain ⟨fn, hf, d1, d2⟩ := hbase
  refine ⟨nI fn, nI xn, (fn + xn) % 65536, s1, t1, by omega, d1, c1, ?_, ?_, c4, c5, c6⟩
  · rw [nI_add, and_65535 (by omega)]
  · rw [d2]
    unfold f_M_indexed_33
    rw [c2, Option.bind_some, nI_add, show xrem (nI (xn + fn)) 65536 = nI ((xn + fn) % 65536) from xrem_nI (d := 65536) (by omega) (by omega) (by omega), Nat.add_comm xn fn]
/-- the end of a source that lies in memory: read by the class, loaded by the reference -/
theorem p_mem {m b a : Nat} {s t : xS} (hm : m ≤ 3) (hb : b ≤ 4) (ha : a < 65536) (h14 : s.1 14 = 2) (h15 : s.1 15 = nI a) (hy : s.1 13 = 0 ∨ s.1 13 = 1) (h : OnR m b s t) :
    (∃ (v : Int32) (s1 t1 : xS), f_Processor_operand s = some (v, s1) ∧ f_M_loaded (nI a) (s.1 13) t = some (v, t1) ∧ wd v ∧ (s.1 13 = 1 → ∃ k, k < 256 ∧ v = nI k) ∧ OnR (m + 1) b s1 t1 ∧ Fc s s1 ∧ Ft t t1) ∨
    (∃ (v v' : Int32) (s1 t1 : xS), f_Processor_operand s = some (v, s1) ∧ f_M_loaded (nI a) (s.1 13) t = some (v', t1) ∧ Gone 5 s1 t1 ∧ Fc s s1 ∧ Ft t t1) := by
  rw [op_mem h14, h15]
  rcases p_read hm hb ha hy h.1 with ⟨v, s1, t1, c1, c2, c3, c4, c5, c6, c7⟩ | ⟨v, v', s1, t1, c1, c2, c3, c4, c5⟩
  · exact Or.inl ⟨v, s1, t1, c1, c2, c3, c4, h.of c5 c6 c7, c6, c7⟩
  · exact Or.inr ⟨v, v', s1, t1, c1, c2, c3, c4, c5⟩
theorem OnR.up {m b : Nat} {s t : xS} (h : OnR m b s t) : OnR (m + 1) b s t := by
  obtain ⟨⟨hl, ⟨⟨a, j, v1, v2, v3, v4, v5, v6⟩, w2⟩, r1⟩, hr⟩ := h
  exact ⟨⟨hl, ⟨⟨a, j, by omega, v2, v3, v4, v5, v6⟩, w2⟩, r1⟩, hr⟩
theorem cut_lt {y : Int32} {n : Nat} (hn : n < 65536) (hy : y = 0 ∨ y = 1) : n % cut y < 65536 ∧ (y = 1 → n % cut y < 256) := by
  unfold cut
  rcases hy with rfl | rfl
  · rw [if_pos rfl]
    exact ⟨by omega, fun q => absurd q (by decide)⟩
  · rw [if_neg one_ne0]
    exact ⟨by omega, fun _ => by omega⟩
/-- what is found of a source: the class's state behind findSource, then the operand of both -/
def Src (m b : Nat) (y : Int32) (s1 : xS) (R : Option (Int32 × xS)) : Prop :=
  (∃ (v : Int32) (s2 t2 : xS), f_Processor_operand s1 = some (v, s2) ∧ R = some (v, t2) ∧ wd v ∧ (y = 1 → ∃ k, k < 256 ∧ v = nI k) ∧ OnR (m + 1) b s2 t2 ∧ KP s2 t2 ∧ s2.1 13 = y ∧ s2.1 16 = s1.1 16 ∧ s2.1 17 = s1.1 17) ∨
  (∃ (v v' : Int32) (s2 t2 : xS), f_Processor_operand s1 = some (v, s2) ∧ R = some (v', t2) ∧ Gone 5 s2 t2 ∧ KC s2 ∧ KR t2)
theorem Src.con {m b n : Nat} {y : Int32} {s t : xS} {R : Option (Int32 × xS)} (hn : n < 65536) (hy : y = 0 ∨ y = 1) (h : OnR m b s t) (h13 : s.1 13 = y) (h14 : s.1 14 = 0) (h15 : s.1 15 = nI n) (h20 : t.1 20 = 0) (hR : R = some (nI (n % cut y), t)) : Src m b y s R := by
  subst h13
  obtain ⟨c1, c2⟩ := cut_lt hn hy
  exact Or.inl ⟨_, s, t, op_con h14 h15 hn, hR, ⟨_, c1, rfl⟩, fun q => ⟨_, c2 q, rfl⟩, h.up, Or.inl ⟨h14, h20⟩, rfl, rfl, rfl⟩
theorem cut_rem {y : Int32} {n : Nat} (hn : n < 65536) (hy : y = 0 ∨ y = 1) : (!((if y = 0 then (65536 : Int32) else 256) == 0)) = true ∧ xrem (nI n) (if y = 0 then (65536 : Int32) else 256) = nI (n % cut y) := by
  unfold cut
  rcases hy with rfl | rfl
  · rw [if_pos rfl, if_pos rfl]
    exact ⟨by decide, xrem_nI (d := 65536) (by omega) (by omega) (by omega)⟩
  · rw [if_neg one_ne0, if_neg one_ne0]
    exact ⟨by decide, xrem_nI (d := 256) (by omega) (by omega) (by omega)⟩
theorem M_operand_eq {x1 x2 y : Int32} {t : xS} : f_M_operand x1 x2 y t = f_M_operand_12 x1 x2 y (if y = 0 then 65536 else 256) t := by
  unfold f_M_operand
  split <;> rfl
/-- the reference behind a load of a source -/
theorem r_120 {x1 x2 y v a : Int32} {t t1 : xS} (h : f_M_loaded a y (xsc t 21 a) = some (v, t1)) (hx : xin x1 16 = true) : f_M_operand_120 x1 x2 y a t = some (v, if x2 = 3 then xsa t1 0 x1.toNatClampNeg (xrem (a + (if y = 0 then 2 else if x1 = 1 then 2 else 1)) 65536) else t1) := by
  unfold f_M_operand_120 f_M_operand_162 f_M_operand_163 f_M_operand_168
  rw [h, Option.bind_some]
  by_cases h3 : x2 = 3
  · rw [if_pos h3, if_pos h3]
    by_cases hy : y = 0
    · rw [if_pos hy, if_pos hy, if_pos hx]
    · rw [if_neg hy, if_neg hy]
      by_cases h1 : x1 = 1
      · rw [if_pos h1, if_pos h1, if_pos hx]
      · rw [if_neg h1, if_neg h1, if_pos hx]
  · rw [if_neg h3, if_neg h3]
