/-- what a finish leaves alone -/
def kv (s : xS) : (Int32 × Int32 × Int32 × Int32 × Int32 × Int32 × Int32) × ((Nat → Int32) × (Nat → Int32) × (Nat → Int32) × (Nat → Int32) × (Nat → Int32)) := ((s.1 0, s.1 7, s.1 8, s.1 9, s.1 10, s.1 11, s.1 12), (s.2 5, s.2 9, s.2 10, s.2 11, s.2 12))
def kt (t : xS) : (Int32 × Int32) × ((Nat → Int32) × (Nat → Int32) × (Nat → Int32) × (Nat → Int32)) := ((t.1 3, t.1 8), (t.2 0, t.2 1, t.2 7, t.2 8))
def Emp (t : xS) : Prop := t.1 0 = 0 ∧ t.1 1 = 0 ∧ t.1 2 = 0 ∧ t.1 4 = 0 ∧ ∀ k, k < 128 → t.2 3 k = 0 ∧ t.2 4 k = 0
def FinNo (s s' t' : xS) : Prop := Las s' t' ∧ kv s' = kv s ∧ (s'.1 1 = 0 ∧ s'.2 0 0 = 0 ∧ s'.2 0 1 = 0) ∧ RG 5 t'
def FinOK (s t s' t' : xS) : Prop := Las s' t' ∧ kv s' = kv s ∧ (s'.1 1 = 1 ∧ s'.1 22 = 1 ∧ s'.1 3 = 0) ∧ (t'.1 15 = 1 ∧ t'.1 9 = 0 ∧ t'.1 14 = (if t.1 8 = 0 then 1 else 3)) ∧ kt t' = kt t ∧ Emp t'
theorem fin_no {s s0 t : xS} {g k : Nat → Int32} (hk : kv s = kv s0) (h : Las (noS s) (offS t g k)) (hz : ∀ j, j < 128 → g j = 0 ∧ k j = 0) : FinNo s0 (noS s) (offS t g k) := ⟨h, hk, ⟨rfl, rfl, rfl⟩, rfl, rfl, rfl, rfl, rfl, rfl, rfl, rfl, hz, 0, by omega, rfl⟩
theorem p_close {s t : xS} (h : Las s t) (h1 : s.1 1 = 1) (h2 : t.1 15 = 1) (n : Nat) (hc : t.1 6 ≤ t.1 7) :
    (∃ s' t', f_Keeper_close s = some (1, s') ∧ f_M_finish_41 (n + 1) t = some t' ∧ FinOK s t s' t') ∨ (∃ s' t', f_Keeper_close s = some (0, s') ∧ f_M_finish_41 (n + 1) t = some t' ∧ FinNo s s' t') := by
  unfold f_Keeper_close f_M_finish_41
  rw [if_pos hc]
  rcases pw0 h h1 h2 with ⟨g, x, c1, c2, c3⟩ | ⟨g, k, c0, c1, c2, c3⟩
  · rw [c1, c2, Option.bind_some, Option.bind_some, if_neg one_ne0, if_neg one_ne0]
    have l1 : Las (xsc (okS s g) 3 0) (xsc (okT t x) 11 0) := by
      obtain ⟨a1, -, a3, a4, a5, a6, a7, a8, a9, a10, a11, a12⟩ := c3
      exact ⟨a1, ⟨0, by omega, rfl, rfl, fun i hi => by omega⟩, a3, a4, a5, a6, a7, a8, a9, a10, a11, a12⟩
    rcases pw0 l1 h1 h2 with ⟨g', x', d1, d2, d3⟩ | ⟨g', k, d0, d1, d2, d3⟩
    · refine Or.inl ?_
      show ∃ s' t', (f_Power_allows 0 (xsc (okS s g) 3 0)).bind _ = _ ∧ (f_M_write (xsc (okT t x) 11 0)).bind _ = _ ∧ _
      rw [d1, d2, Option.bind_some, Option.bind_some, if_neg one_ne0, if_neg one_ne0]
      show ∃ s' t', some ((1 : Int32), xsc (okS (xsc (okS s g) 3 0) g') 22 1) = some (1, s') ∧ (f_M_fresh (xsc (okT (xsc (okT t x) 11 0) x') 9 0)).bind _ = _ ∧ _
      obtain ⟨gg, hh, e1, e2⟩ := fresh_ok (xsc (okT (xsc (okT t x) 11 0) x') 9 0)
      rw [e2, Option.bind_some]
      have l2 : Las (xsc (okS (xsc (okS s g) 3 0) g') 22 1) (fz (xsf (xsf (xsc (okT (xsc (okT t x) 11 0) x') 9 0) 3 gg) 4 hh)) := by
        obtain ⟨a1, a2, a3, a4, a5, a6, a7, a8, ⟨a9, b9, -⟩, a10, a11, a12⟩ := d3
        exact ⟨a1, a2, a3, a4, a5, a6, a7, a8, ⟨a9, b9, Or.inl ⟨rfl, rfl⟩⟩, a10, a11, a12⟩
      by_cases h8 : t.1 8 = 0
      · refine ⟨_, _, rfl, if_pos h8, l2, rfl, ⟨h1, rfl, rfl⟩, ⟨h2, rfl, ?_⟩, rfl, rfl, rfl, rfl, rfl, e1⟩
        rw [if_pos h8]; rfl
      · refine ⟨_, _, rfl, if_neg h8, l2, rfl, ⟨h1, rfl, rfl⟩, ⟨h2, rfl, ?_⟩, rfl, rfl, rfl, rfl, rfl, e1⟩
        rw [if_neg h8]; rfl
    · refine Or.inr ?_
      show ∃ s' t', (f_Power_allows 0 (xsc (okS s g) 3 0)).bind _ = _ ∧ (f_M_write (xsc (okT t x) 11 0)).bind _ = _ ∧ _
      rw [d1, d2, Option.bind_some, Option.bind_some, if_pos rfl, if_pos rfl]
      exact ⟨_, _, rfl, rfl, fin_no rfl d3 d0⟩
  · rw [c1, c2, Option.bind_some, Option.bind_some, if_pos rfl, if_pos rfl]
    exact Or.inr ⟨_, _, rfl, rfl, fin_no rfl c3 c0⟩
theorem p_send : ∀ (n : Nat) (s t : xS) (v z : Nat), Las s t → s.1 1 = 1 → t.1 15 = 1 → t.1 6 = nI v → t.1 7 = nI z → v ≤ 4 → z ≤ v → v - z < n →
    (∃ s' t' m, f_Keeper_sendHeldRecords_8 n (s.1 20) s = some (1, s') ∧ f_M_finish_41 n t = f_M_finish_41 (m + 1) t' ∧ t'.1 6 ≤ t'.1 7 ∧ Las s' t' ∧ s'.1 1 = 1 ∧ t'.1 15 = 1 ∧ kv s' = kv s ∧ kt t' = kt t) ∨
    (∃ s' t', f_Keeper_sendHeldRecords_8 n (s.1 20) s = some (0, s') ∧ f_M_finish_41 n t = some t' ∧ FinNo s s' t') := by
  intro n
  induction n with
  | zero => intro s t v z _ _ _ _ _ _ _ h; omega
  | succ n ih =>
    intro s t v z h h1 h2 hv hz v4 hzv hf
    have e24 : s.1 24 = nI v := by
      obtain ⟨-, -, ⟨u', v', z', -, -, b3, -, -, b6, b7, -⟩, -⟩ := h
      rw [b6, ← b7, hv]
    have e20 : s.1 20 = nI z := by
      obtain ⟨-, -, ⟨u', v', z', -, -, b3, -, -, b6, b7, b8, b9, -⟩, -⟩ := h
      rw [b8, ← b9, hz]
    by_cases hd : z = v
    · subst hd
      refine Or.inl ⟨s, t, n, ?_, rfl, ?_, h, h1, h2, rfl, rfl⟩
      · unfold f_Keeper_sendHeldRecords_8
        rw [if_pos (by rw [e24, e20]; exact Int32.le_refl _)]
      · rw [hv, hz]; exact Int32.le_refl _
    · have hlt : z < v := by omega
      have n1 : ¬ s.1 24 ≤ s.1 20 := by rw [e24, e20]; exact nI_ge hlt (by omega)
      have n2 : ¬ t.1 6 ≤ t.1 7 := by rw [hv, hz]; exact nI_ge hlt (by omega)
      unfold f_Keeper_sendHeldRecords_8 f_M_finish_41
      rw [if_neg n1, if_neg n2]
      rcases pw0 h h1 h2 with ⟨g, x, c1, c2, c3⟩ | ⟨g, k, c0, c1, c2, c3⟩
      · obtain ⟨a1, a2, ⟨u, v', z', b1, b2, b3, b4, b5, b6, b7, b8, b9, b10, b11⟩, a4, a5, a6, a7, a8, a9, a10, a11, a12⟩ := c3
        have hvv : v' = v := (nI_eq (by omega) (by omega)).mp (b7.symm.trans hv)
        have hzz : z' = z := (nI_eq (by omega) (by omega)).mp (b9.symm.trans hz)
        subst hvv hzz
        have x4 : xin (s.1 20) 4 = true := by rw [e20]; exact xin_nI (by omega) (by omega)
        have t4 : (s.1 20).toNatClampNeg = z' := by rw [e20]; exact nI_c (by omega)
        have s4 : s.1 4 = nI u := b4
        have t13 : t.1 13 = nI u := b5
        have pl : f_Lasting_placeRecord (s.2 15 z') (okS s g) = some (xsa (okS s g) 3 u (s.2 15 z')) := by
          unfold f_Lasting_placeRecord
          rw [if_neg (show ¬ (200 : Int32) ≤ (okS s g).1 4 from by rw [b4]; exact nI_ge (b := 200) (by omega) (by omega)), if_pos (show xin ((okS s g).1 4) 200 = true from by rw [b4]; exact xin_nI (by omega) (by omega)), b4, nI_c (by omega)]
          rfl
        rw [c1, c2, Option.bind_some, Option.bind_some, if_neg one_ne0, if_neg one_ne0, if_pos x4, t4]
        show (∃ s' t' m, (f_Lasting_placeRecord (s.2 15 z') (okS s g)).bind _ = _ ∧ _) ∨ (∃ s' t', (f_Lasting_placeRecord (s.2 15 z') (okS s g)).bind _ = _ ∧ _)
        rw [pl, Option.bind_some]
        have l1 : Las (xsa (okS s g) 3 u (s.2 15 z')) (okT t x) := ⟨a1, a2, ⟨u, v', z', b1, b2, b3, b4, b5, b6, b7, b8, b9, fun i hi => (pk_un (by omega)).trans (b10 i hi), b11⟩, a4, a5, a6, a7, a8, a9, a10, a11, a12⟩
        rcases pw0 l1 h1 h2 with ⟨g', x', d1, d2, d3⟩ | ⟨g', k, d0, d1, d2, d3⟩
        · have cr : f_Lasting_countRecord (okS (xsa (okS s g) 3 u (s.2 15 z')) g') = some (xsc (okS (xsa (okS s g) 3 u (s.2 15 z')) g') 4 (nI (u + 1))) := by
            unfold f_Lasting_countRecord
            rw [if_neg (show ¬ (200 : Int32) ≤ (okS (xsa (okS s g) 3 u (s.2 15 z')) g').1 4 from by
              show ¬ (200 : Int32) ≤ s.1 4
              rw [s4]; exact nI_ge (b := 200) (by omega) (by omega))]
            show some (xsc (okS (xsa (okS s g) 3 u (s.2 15 z')) g') 4 (s.1 4 + 1)) = _
            rw [s4, nI_1]
          have y1 : xin (t.1 7) 8 = true := by rw [hz]; exact xin_nI (by omega) (by omega)
          have y2 : xin (t.1 13) 200 = true := by rw [t13]; exact xin_nI (by omega) (by omega)
          have l2 : Las (xsc (xsc (okS (xsa (okS s g) 3 u (s.2 15 z')) g') 4 (nI (u + 1))) 20 (s.1 20 + 1)) (xsc (xsc (xsa (okT (okT t x) x') 14 u (t.2 11 z')) 13 (t.1 13 + 1)) 7 (t.1 7 + 1)) := by
            obtain ⟨w1, w2, -, w4, w5, w6, w7, w8, w9, w10, w11, w12⟩ := d3
            refine ⟨w1, w2, ⟨u + 1, v', z' + 1, by omega, by omega, b3, rfl, ?_, b6, b7, ?_, ?_, ?_, b11⟩, w4, w5, w6, w7, w8, w9, w10, w11, w12⟩
            · show t.1 13 + 1 = _
              rw [t13, nI_1]
            · show s.1 20 + 1 = _
              rw [e20, nI_1]
            · show t.1 7 + 1 = _
              rw [hz, nI_1]
            · intro i hi
              show upd (s.2 3) u (s.2 15 z') i = upd (t.2 14) u (t.2 11 z') i
              by_cases hiu : i = u
              · subst hiu
                rw [pk_us, pk_us]
                exact b11 z' hlt
              · rw [pk_un (by omega), pk_un (by omega)]
                exact b10 i (by omega)
          have ii := ih _ _ v' (z' + 1) l2 h1 h2 hv (by show t.1 7 + 1 = _; rw [hz, nI_1]) v4 (by omega) (by omega)
          show (∃ s' t' m, (f_Power_allows 0 (xsa (okS s g) 3 u (s.2 15 z'))).bind _ = _ ∧ (f_M_write (okT t x)).bind _ = _ ∧ _) ∨ (∃ s' t', (f_Power_allows 0 (xsa (okS s g) 3 u (s.2 15 z'))).bind _ = _ ∧ (f_M_write (okT t x)).bind _ = _ ∧ _)
          rw [d1, d2, Option.bind_some, Option.bind_some, if_neg one_ne0, if_neg one_ne0]
          show (∃ s' t' m, (f_Lasting_countRecord (okS (xsa (okS s g) 3 u (s.2 15 z')) g')).bind _ = _ ∧ (if xin (t.1 7) 8 = true then if xin (t.1 13) 200 = true then f_M_finish_41 n (xsc (xsc (xsa (okT (okT t x) x') 14 (t.1 13).toNatClampNeg (t.2 11 (t.1 7).toNatClampNeg)) 13 (t.1 13 + 1)) 7 (t.1 7 + 1)) else none else none) = _ ∧ _) ∨ (∃ s' t', (f_Lasting_countRecord (okS (xsa (okS s g) 3 u (s.2 15 z')) g')).bind _ = _ ∧ (if xin (t.1 7) 8 = true then if xin (t.1 13) 200 = true then f_M_finish_41 n (xsc (xsc (xsa (okT (okT t x) x') 14 (t.1 13).toNatClampNeg (t.2 11 (t.1 7).toNatClampNeg)) 13 (t.1 13 + 1)) 7 (t.1 7 + 1)) else none else none) = _ ∧ _)
          rw [cr, Option.bind_some, if_pos y1, if_pos y2, show (t.1 13).toNatClampNeg = u from by rw [t13]; exact nI_c (by omega), show (t.1 7).toNatClampNeg = z' from by rw [hz]; exact nI_c (by omega)]
          exact ii
        · refine Or.inr ?_
          show ∃ s' t', (f_Power_allows 0 (xsa (okS s g) 3 u (s.2 15 z'))).bind _ = _ ∧ (f_M_write (okT t x)).bind _ = _ ∧ _
          rw [d1, d2, Option.bind_some, Option.bind_some, if_pos rfl, if_pos rfl]
          exact ⟨_, _, rfl, rfl, fin_no rfl d3 d0⟩
      · rw [c1, c2, Option.bind_some, Option.bind_some, if_pos rfl, if_pos rfl]
        exact Or.inr ⟨_, _, rfl, rfl, fin_no rfl c3 c0⟩
theorem p_words : ∀ (n : Nat) (s t : xS) (u i : Nat), Las s t → s.1 1 = 1 → t.1 15 = 1 → t.1 5 = nI u → u ≤ 4 → i ≤ u → u - i < n →
    (∃ s' t', f_Keeper_writeHeldWords_2 n (nI i) s = some (1, s') ∧ f_M_finish_2 n (nI i) t = f_M_finish_41 1000 t' ∧ Las s' t' ∧ s'.1 1 = 1 ∧ t'.1 15 = 1 ∧ kv s' = kv s ∧ kt t' = kt t) ∨
    (∃ s' t', f_Keeper_writeHeldWords_2 n (nI i) s = some (0, s') ∧ f_M_finish_2 n (nI i) t = some t' ∧ FinNo s s' t') := by
  intro n
  induction n with
  | zero => intro s t u i _ _ _ _ _ _ h; omega
  | succ n ih =>
    intro s t u i h h1 h2 hu u4 hi hf
    have e23 : s.1 23 = nI u := by
      obtain ⟨-, -, -, -, -, -, -, ⟨u', -, b2, b3, -⟩, -⟩ := h
      rw [b2, ← b3, hu]
    unfold f_Keeper_writeHeldWords_2 f_M_finish_2
    by_cases hd : i = u
    · subst hd
      rw [if_pos (show s.1 23 ≤ nI i by rw [e23]; exact Int32.le_refl _), if_pos (show t.1 5 ≤ nI i by rw [hu]; exact Int32.le_refl _)]
      exact Or.inl ⟨s, t, rfl, rfl, h, h1, h2, rfl, rfl⟩
    · have hlt : i < u := by omega
      have n1 : ¬ s.1 23 ≤ nI i := by rw [e23]; exact nI_ge hlt (by omega)
      have n2 : ¬ t.1 5 ≤ nI i := by rw [hu]; exact nI_ge hlt (by omega)
      rw [if_neg n1, if_neg n2]
      rcases pw0 h h1 h2 with ⟨g, x, c1, c2, c3⟩ | ⟨g, k, c0, c1, c2, c3⟩
      · obtain ⟨a1, a2, a3, a4, a5, a6, a7, ⟨u', b1, b2, b3, b4⟩, a9, a10, a11, a12⟩ := c3
        have huu : u' = u := (nI_eq (by omega) (by omega)).mp (b3.symm.trans hu)
        subst huu
        obtain ⟨⟨w, w1, w2, w3⟩, w4, w5⟩ := b4 i hlt
        have x4 : xin (nI i) 4 = true := xin_nI (by omega) (by omega)
        have x8 : xin (nI i) 8 = true := xin_nI (by omega) (by omega)
        have x128 : xin (nI w) 128 = true := xin_nI w1 (by omega)
        have l1 : Las (xsa (okS s g) 1 w (s.2 14 i)) (xsa (okT t x) 2 w (t.2 10 i)) := by
          refine ⟨fun k hk => ?_, a2, a3, a4, a5, a6, a7, ⟨u', b1, b2, b3, b4⟩, a9, a10, a11, a12⟩
          show upd (s.2 1) w (s.2 14 i) k = upd (t.2 2) w (t.2 10 i) k ∧ wd (upd (t.2 2) w (t.2 10 i) k)
          by_cases hkw : k = w
          · subst hkw
            rw [pk_us, pk_us]
            exact ⟨w4, w5⟩
          · rw [pk_un hkw, pk_un hkw]
            exact a1 k hk
        have ii := ih _ _ u' (i + 1) l1 h1 h2 hu u4 (by omega) (by omega)
        have g1 : s.2 13 i = nI w := w2
        have g2 : t.2 9 i = nI w := w3
        rw [c1, c2, Option.bind_some, Option.bind_some, if_neg one_ne0, if_neg one_ne0, if_pos x4, if_pos x4, if_pos x8, if_pos x8, nI_c (by omega), nI_1]
        show (∃ s' t', (if xin (s.2 13 i) 128 = true then f_Keeper_writeHeldWords_2 n (nI (i + 1)) (xsa (okS s g) 1 (s.2 13 i).toNatClampNeg (s.2 14 i)) else none) = _ ∧ (if xin (t.2 9 i) 128 = true then f_M_finish_2 n (nI (i + 1)) (xsa (okT t x) 2 (t.2 9 i).toNatClampNeg (t.2 10 i)) else none) = _ ∧ _) ∨ (∃ s' t', (if xin (s.2 13 i) 128 = true then f_Keeper_writeHeldWords_2 n (nI (i + 1)) (xsa (okS s g) 1 (s.2 13 i).toNatClampNeg (s.2 14 i)) else none) = _ ∧ (if xin (t.2 9 i) 128 = true then f_M_finish_2 n (nI (i + 1)) (xsa (okT t x) 2 (t.2 9 i).toNatClampNeg (t.2 10 i)) else none) = _ ∧ _)
        rw [g1, g2, if_pos x128, if_pos x128, nI_c (by omega)]
        exact ii
      · rw [c1, c2, Option.bind_some, Option.bind_some, if_pos rfl, if_pos rfl]
        exact Or.inr ⟨_, _, rfl, rfl, fin_no rfl c3 c0⟩
theorem p_finish {s t : xS} (h : Las s t) (h1 : s.1 1 = 1) (h2 : t.1 15 = 1) :
    (∃ s' t', f_Keeper_finish s = some (1, s') ∧ f_M_finish t = some t' ∧ FinOK s t s' t') ∨ (∃ s' t', f_Keeper_finish s = some (0, s') ∧ f_M_finish t = some t' ∧ FinNo s s' t') := by
  have hu : ∃ u : Nat, u ≤ 4 ∧ t.1 5 = nI u := by
    obtain ⟨-, -, -, -, -, -, -, ⟨u', b1, b2, b3, -⟩, -⟩ := h
    exact ⟨u', b1, b3⟩
  obtain ⟨u, u4, hu⟩ := hu
  unfold f_Keeper_finish f_M_finish f_Keeper_writeHeldWords
  rcases p_words 1000 s t u 0 h h1 h2 hu u4 (by omega) (by omega) with ⟨s1, t1, c1, c2, c3, c4, c5, c6, c7⟩ | ⟨s1, t1, c1, c2, c3⟩
  · have hvz : ∃ v z : Nat, t1.1 6 = nI v ∧ t1.1 7 = nI z ∧ v ≤ 4 ∧ z ≤ v := by
      obtain ⟨-, -, ⟨u', v', z', b1, b2, b3, -, -, b6, b7, b8, b9, -⟩, -⟩ := c3
      exact ⟨v', z', b7, b9, b3, b2⟩
    obtain ⟨v, z, hv, hz, v4, hzv⟩ := hvz
    rw [show f_Keeper_writeHeldWords_2 1000 0 s = _ from c1, show f_M_finish_2 1000 0 t = _ from c2, Option.bind_some, if_neg one_ne0]
    unfold f_Keeper_sendHeldRecords
    rcases p_send 1000 s1 t1 v z c3 c4 c5 hv hz v4 hzv (by omega) with ⟨s2, t2, m, d1, d2, d3, d4, d5, d6, d7, d8⟩ | ⟨s2, t2, d1, d2, d3⟩
    · rw [d1, d2, Option.bind_some, if_neg one_ne0]
      rcases p_close d4 d5 d6 m d3 with ⟨s3, t3, e1, e2, e3, e4, e5, ⟨e6, e7, e8⟩, e9, e10⟩ | ⟨s3, t3, e1, e2, e3, e4, e5⟩
      · rw [e1, e2, Option.bind_some, if_neg one_ne0]
        have h8 : t2.1 8 = t.1 8 := (congrArg (fun q => q.1.2) d8).trans (congrArg (fun q => q.1.2) c7)
        exact Or.inl ⟨s3, t3, rfl, rfl, e3, e4.trans (d7.trans c6), e5, ⟨e6, e7, by rw [e8, h8]⟩, e9.trans (d8.trans c7), e10⟩
      · rw [e1, e2, Option.bind_some, if_pos rfl]
        exact Or.inr ⟨s3, t3, rfl, rfl, e3, e4.trans (d7.trans c6), e5⟩
    · rw [d1, d2, Option.bind_some, if_pos rfl]
      exact Or.inr ⟨s2, t2, rfl, rfl, d3.1, d3.2.1.trans c6, d3.2.2⟩
  · rw [show f_Keeper_writeHeldWords_2 1000 0 s = _ from c1, show f_M_finish_2 1000 0 t = _ from c2, Option.bind_some, if_pos rfl]
    exact Or.inr ⟨s1, t1, rfl, rfl, c3⟩
