theorem one_ne0 : ¬ (1 : Int32) = 0 := by decide
theorem xsc_self (s : xS) (n : Nat) : xsc s n (s.1 n) = s := by
  unfold xsc
  rw [upd_self]
theorem shift_63 (t : xS) {u : Nat} {y : Int32} (hu : u ≤ 16) (h12 : t.1 12 = nI u) : ∀ (fuel i : Nat) (g : Nat → Int32), 1 ≤ i → i ≤ u ∨ i = 1 → u - i < fuel → ∃ g' : Nat → Int32, f_M_sense_63 fuel y (nI i) (xsf t 13 g) = f_M_sense_109 y (nI (u - 1)) (xsf t 13 g') ∧ (∀ k, i - 1 ≤ k → k < u - 1 → g' k = g (k + 1)) ∧ ∀ k, k < i - 1 → g' k = g k := by
  intro fuel
  induction fuel with
  | zero => intro i g _ _ h; omega
  | succ fuel ih =>
    intro i g h1 h2 hf
    unfold f_M_sense_63
    rw [show (xsf t 13 g).1 12 = nI u from h12]
    by_cases hi : u ≤ i
    · refine ⟨g, ?_, fun k a b => by omega, fun k _ => rfl⟩
      rw [if_pos (nI_le hi (by omega))]
      by_cases h0 : u = 0
      · subst h0
        rw [if_pos (by decide)]
        rfl
      · rw [if_neg (nI_nle (by omega) (by omega)), show nI u - 1 = nI (u - 1) from pk_sub (b := 1) (by omega)]
    · have e0 : nI i - 1 = nI (i - 1) := pk_sub (b := 1) h1
      have e1 : xsa (xsf t 13 g) 13 (i - 1) (g i) = xsf t 13 (upd g (i - 1) (g i)) := by
        rw [xsa_def]
        show xsf (xsf t 13 g) 13 (upd g (i - 1) (g i)) = _
        rw [xsf_two]
      obtain ⟨g', a1, a2, a3⟩ := ih (i + 1) (upd g (i - 1) (g i)) (by omega) (by omega) (by omega)
      refine ⟨g', ?_, fun k b1 b2 => ?_, fun k b1 => ?_⟩
      · rw [if_neg (nI_ge (by omega) (by omega)), if_pos (xin_nI (by omega) (by omega)), e0, if_pos (xin_nI (by omega) (by omega)), nI_c (by omega), nI_c (by omega), nI_1]
        show f_M_sense_63 fuel y (nI (i + 1)) (xsa (xsf t 13 g) 13 (i - 1) (g i)) = _
        rw [e1, a1]
      · by_cases hk : k = i - 1
        · subst hk
          rw [a3 (i - 1) (by omega), pk_us, show i - 1 + 1 = i by omega]
        · rw [a2 k (by omega) b2, pk_un (by omega)]
      · rw [a3 k (by omega), pk_un (by omega)]
/-- a sample is taken, on both sides -/
theorem p_take {s t : xS} (h : LSm (s.1 6) (t.1 12) (s.1 5) (s.2 4) (t.2 13)) (ht : ¬ t.1 15 = 0) (x : Int32) : ∃ (v p q z : Int32) (g : Nat → Int32), wd v ∧ f_Samples_take s = some (v, xsc (xsc s 5 p) 6 q) ∧ LSm q z p (s.2 4) g ∧
    (if t.1 12 ≤ 0 then f_M_sense_60 65535 t else f_M_sense_60 (t.2 13 0) t) = f_M_sense_109 v z (xsf t 13 g) := by
  obtain ⟨u, f, h1, h2, h3, h4, h5, h6⟩ := h
  have hS := shift_63 t (y := if t.1 12 ≤ 0 then 65535 else t.2 13 0) h1 h4 1000 1 (t.2 13) (by omega) (Or.inr rfl) (by omega)
  rw [xsf_self] at hS
  obtain ⟨g', a1, a2, -⟩ := hS
  by_cases h0 : u = 0
  · subst h0
    have e12 : t.1 12 ≤ 0 := by rw [h4]; decide
    refine ⟨65535, s.1 5, s.1 6, 0, g', ⟨65535, by omega, rfl⟩, ?_, ⟨0, f, by omega, h2, h3, rfl, h5, fun i hi => by omega⟩, ?_⟩
    · unfold f_Samples_take
      rw [if_pos (by rw [h3]; rfl), xsc_self s 5, xsc_self s 6]
    · rw [if_pos e12] at a1 ⊢
      exact a1
  · have e12 : ¬ t.1 12 ≤ 0 := by rw [h4]; exact nI_nle (by omega) (by omega)
    have hv := h6 0 (by omega)
    rw [Nat.add_zero, Nat.mod_eq_of_lt h2] at hv
    refine ⟨t.2 13 0, nI ((f + 1) % 16), nI (u - 1), nI (u - 1), g', hv.2, ?_, ⟨u - 1, (f + 1) % 16, by omega, by omega, rfl, rfl, rfl, fun i hi => ?_⟩, ?_⟩
    · unfold f_Samples_take
      rw [if_neg (by rw [h3]; exact nI_ne0 (by omega) (by omega)), h5, if_pos (xin_nI h2 (by omega)), nI_c (by omega), hv.1, nI_1, h3]
      rw [show xrem (nI (f + 1)) 16 = nI ((f + 1) % 16) from xrem_nI (d := 16) (by omega) (by omega) (by omega), show nI u - 1 = nI (u - 1) from pk_sub (b := 1) (by omega)]
    · rw [a2 i (by omega) hi]
      have := h6 (i + 1) (by omega)
      rw [show ((f + 1) % 16 + i) % 16 = (f + (i + 1)) % 16 by omega]
      exact this
    · rw [if_neg e12] at a1 ⊢
      exact a1
theorem p_sense {m b : Nat} {s t : xS} (hm : m ≤ 3) (hb : b ≤ 4) (h : On m b s t) :
    (∃ (v : Int32) (s1 t1 : xS), f_Bus_loadSensor s = some (v, s1) ∧ f_M_sense t = some (v, t1) ∧ wd v ∧ On (m + 1) b s1 t1 ∧ Fc s s1 ∧ Ft t t1) ∨
    (∃ (v v' : Int32) (s1 t1 : xS), f_Bus_loadSensor s = some (v, s1) ∧ f_M_sense t = some (v', t1) ∧ Gone 5 s1 t1 ∧ Fc s s1 ∧ Ft t t1) := by
  obtain ⟨hl, ⟨⟨a, j, v1, v2, v3, v4, v5, v6⟩, w2, w3, w4, w5, w6⟩, ⟨p1, p2, p3, p4⟩, q1, q2⟩ := h
  obtain ⟨l1, ⟨j', g1, g2, g3, g4⟩, l3, l4, l5, l6, l7, l8, l9, l10, l11, l12⟩ := hl
  have hjj : j' = j := (nI_eq (by omega) (by omega)).mp (g2.symm.trans v6)
  subst hjj
  have e15 : ¬ t.1 15 = 0 := by rw [p4]; decide
  have e1 : ¬ s.1 1 = 0 := by rw [p3]; decide
  by_cases hja : j' ≤ a
  · have haj : a = j' := by omega
    subst haj
    have hC : f_Bus_loadSensor s = f_Bus_loadSensor_54 (xsc s 8 (nI (a + 1))) := by
      unfold f_Bus_loadSensor
      rw [v4, v6, if_pos (nI_le (by omega) (by omega)), nI_1]
    have hR : f_M_sense t = (if t.1 12 ≤ 0 then f_M_sense_60 65535 (xsc t 2 (nI (a + 1))) else f_M_sense_60 (t.2 13 0) (xsc t 2 (nI (a + 1)))) := by
      unfold f_M_sense
      rw [g3, v5, nI_1, if_pos (nI_lt (by omega) (by omega)), if_neg e15]
    obtain ⟨v, p, q, z, g, hv, c1, c2, c3⟩ := p_take (s := xsc s 8 (nI (a + 1))) (t := xsc t 2 (nI (a + 1))) l4 e15 0
    have hR : f_M_sense t = f_M_sense_109 v z (xsf (xsc t 2 (nI (a + 1))) 13 g) := hR.trans c3
    have hC : f_Bus_loadSensor s = (f_Power_allows 0 (xsc (xsc (xsc s 8 (nI (a + 1))) 5 p) 6 q)).bind fun q9 => if q9.1 = 0 then (f_Bus_loadSensor_93 v q9.2) else ((f_Lasting_placeLogged v q9.2).bind fun q12 => f_Bus_loadSensor_93 v q12) := by
      rw [hC]
      unfold f_Bus_loadSensor_54
      rw [if_neg (show ¬ (xsc s 8 (nI (a + 1))).1 1 = 0 from e1), c1, Option.bind_some]
    unfold f_M_sense_109 at hR
    have hL2 : Las (xsc (xsc (xsc s 8 (nI (a + 1))) 5 p) 6 q) (xsc (xsf (xsc t 2 (nI (a + 1))) 13 g) 12 z) := ⟨l1, ⟨a, g1, g2, g3, g4⟩, l3, c2, l5, l6, l7, l8, l9, l10, l11, l12⟩
    have bq : ∃ n : Nat, n ≤ 4 ∧ s.1 10 = nI n := by obtain ⟨n, z1, z2, -⟩ := w3; exact ⟨n, by omega, z2⟩
    have br : ∃ n : Nat, n ≤ 4 ∧ s.1 11 = nI n := by obtain ⟨n, u, z1, -, z2, -⟩ := w2; exact ⟨n, by omega, z2⟩
    rcases pw0 hL2 p3 p4 with ⟨k1, x1, d1, d2, d3⟩ | ⟨k1, k2, d0, d1, d2, d3⟩
    · rw [d1, Option.bind_some, if_neg one_ne0] at hC
      rw [d2, Option.bind_some, if_neg one_ne0] at hR
      have hplace : f_Lasting_placeLogged v (okS (xsc (xsc (xsc s 8 (nI (a + 1))) 5 p) 6 q) k1) = some (xsa (okS (xsc (xsc (xsc s 8 (nI (a + 1))) 5 p) 6 q) k1) 2 a v) := by
        unfold f_Lasting_placeLogged f_Lasting_placeLogged_18
        rw [show (okS (xsc (xsc (xsc s 8 (nI (a + 1))) 5 p) 6 q) k1).1 3 = nI a from g2, if_neg (show ¬ (4 : Int32) ≤ nI a from nI_ge (b := 4) (by omega) (by omega)), if_pos (xin_nI (by omega) (by omega)), nI_c (by omega)]
      rw [hplace, Option.bind_some] at hC
      rw [show (okT (xsc (xsf (xsc t 2 (nI (a + 1))) 13 g) 12 z) x1).1 2 - 1 = nI a from pk_sub (a := a + 1) (b := 1) (by omega), if_pos (xin_nI (by omega) (by omega)), nI_c (by omega)] at hR
      unfold f_Bus_loadSensor_93 at hC
      obtain ⟨m1, m2, m3, m4, m5, m6, m7, m8, m9, m10, m11, m12⟩ := d3
      have hL3 : Las (xsa (okS (xsc (xsc (xsc s 8 (nI (a + 1))) 5 p) 6 q) k1) 2 a v) (xsa (okT (xsc (xsf (xsc t 2 (nI (a + 1))) 13 g) 12 z) x1) 12 a v) := by
        refine ⟨m1, ⟨a, g1, g2, g3, fun i hi => ?_⟩, m3, m4, m5, m6, m7, m8, m9, m10, m11, m12⟩
        show upd (s.2 2) a v i = upd (t.2 12) a v i ∧ wd (upd (t.2 12) a v i)
        rw [pk_un (by omega), pk_un (by omega)]
        exact g4 i hi
      rcases pw0 hL3 p3 p4 with ⟨k3, x3, f1, f2, f3⟩ | ⟨k3, k4, f0, f1, f2, f3⟩
      · rw [f1, Option.bind_some, if_neg one_ne0] at hC
        rw [f2, Option.bind_some, if_neg one_ne0] at hR
        have hlen : f_Lasting_lengthenLog (okS (xsa (okS (xsc (xsc (xsc s 8 (nI (a + 1))) 5 p) 6 q) k1) 2 a v) k3) = some (xsc (okS (xsa (okS (xsc (xsc (xsc s 8 (nI (a + 1))) 5 p) 6 q) k1) 2 a v) k3) 3 (nI (a + 1))) := by
          unfold f_Lasting_lengthenLog f_Lasting_lengthenLog_18
          rw [show (okS (xsa (okS (xsc (xsc (xsc s 8 (nI (a + 1))) 5 p) 6 q) k1) 2 a v) k3).1 3 = nI a from g2, if_neg (show ¬ (4 : Int32) ≤ nI a from nI_ge (b := 4) (by omega) (by omega)), nI_1]
        rw [hlen, Option.bind_some] at hC
        obtain ⟨n1, n2, n3, n4, n5, n6, n7, n8, n9, n10, n11, n12⟩ := f3
        refine Or.inl ⟨v, _, _, hC, hR, hv, ⟨⟨n1, ⟨a + 1, by omega, rfl, rfl, fun i hi => ?_⟩, n3, n4, n5, n6, n7, n8, n9, n10, n11, n12⟩, ⟨⟨a + 1, a + 1, by omega, by omega, by omega, rfl, rfl, rfl⟩, w2, w3, w4, w5, w6⟩, ⟨p1, p2, p3, p4⟩, q1, q2⟩, ⟨rfl, rfl, rfl, rfl, rfl, rfl⟩, ⟨rfl, rfl, rfl⟩⟩
        show upd (s.2 2) a v i = upd (t.2 12) a v i ∧ wd (upd (t.2 12) a v i)
        by_cases hia : i = a
        · subst hia
          rw [pk_us, pk_us]
          exact ⟨rfl, hv⟩
        · rw [pk_un hia, pk_un hia]
          exact g4 i (by omega)
      · rw [f1, Option.bind_some, if_pos rfl] at hC
        rw [f2, Option.bind_some, if_pos rfl] at hR
        exact Or.inr ⟨v, 0, _, _, hC, hR, ⟨f3, ⟨p1, rfl, rfl, rfl, q2, bq, br, a + 1, by omega, rfl⟩, ⟨rfl, rfl, rfl, rfl, rfl, rfl, rfl, rfl, f0, 0, by omega, rfl⟩⟩, ⟨rfl, rfl, rfl, rfl, rfl, rfl⟩, ⟨rfl, rfl, rfl⟩⟩
    · rw [d1, Option.bind_some, if_pos rfl] at hC
      rw [d2, Option.bind_some, if_pos rfl] at hR
      unfold f_Bus_loadSensor_93 at hC
      rw [allows_gone 0 rfl, Option.bind_some, if_pos rfl] at hC
      exact Or.inr ⟨v, 0, _, _, hC, hR, ⟨d3, ⟨p1, rfl, rfl, rfl, q2, bq, br, a + 1, by omega, rfl⟩, ⟨rfl, rfl, rfl, rfl, rfl, rfl, rfl, rfl, d0, 0, by omega, rfl⟩⟩, ⟨rfl, rfl, rfl, rfl, rfl, rfl⟩, ⟨rfl, rfl, rfl⟩⟩
  · obtain ⟨e1, e2⟩ := g4 a (by omega)
    refine Or.inl ⟨t.2 12 a, xsc s 8 (nI (a + 1)), xsc t 2 (nI (a + 1)), ?_, ?_, e2, ⟨⟨l1, ⟨j', g1, g2, g3, g4⟩, l3, l4, l5, l6, l7, l8, l9, l10, l11, l12⟩, ⟨⟨a + 1, j', by omega, by omega, v3, rfl, rfl, v6⟩, w2, w3, w4, w5, w6⟩, ⟨p1, p2, p3, p4⟩, q1, q2⟩, ⟨rfl, rfl, rfl, rfl, rfl, rfl⟩, ⟨rfl, rfl, rfl⟩⟩
    · unfold f_Bus_loadSensor
      rw [v4, v6, if_neg (nI_ge (by omega) (by omega)), if_neg (show ¬ (4 : Int32) ≤ nI a from nI_ge (b := 4) (by omega) (by omega)), if_pos (xin_nI (by omega) (by omega)), nI_c (by omega), nI_1, e1]
    · unfold f_M_sense
      rw [g3, v5, nI_1, if_neg (nI_nlt (by omega) (by omega)), show nI (a + 1) - 1 = nI a from pk_sub (a := a + 1) (b := 1) (by omega), if_pos (xin_nI (by omega) (by omega)), nI_c (by omega)]
