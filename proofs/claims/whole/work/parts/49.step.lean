def Up (x : Int32) (s t : xS) : Prop := Las s t ∧ Vol 4 4 s t ∧ LKr (s.2 10) (t.2 0) ∧ (s.1 0 = x ∧ t.1 14 = x ∧ s.1 12 = 0 ∧ t.1 4 = 0) ∧ (x = 1 → s.1 1 = 1 ∧ t.1 15 = 1) ∧ (x = 0 → ∀ k, k < 16 → t.2 7 k = t.2 0 k ∧ t.2 8 k = t.2 1 k)
def Off (s t : xS) : Prop := Las s t ∧ (s.1 0 = 2 ∧ t.1 14 = 2 ∧ s.1 12 = 0 ∧ t.1 4 = 0) ∧ (s.1 7 = 0 ∧ s.1 8 = 0 ∧ s.1 9 = 0 ∧ s.1 10 = 0 ∧ s.1 11 = 0) ∧ (t.1 0 = 0 ∧ t.1 1 = 0 ∧ t.1 3 = 0) ∧ (∀ k, k < 16 → s.2 10 k = 0 ∧ s.2 9 k = 0) ∧ ∀ k, k < 128 → s.2 5 k = 0 ∧ t.2 3 k = 0 ∧ t.2 4 k = 0
def Inv (s t : xS) : Prop := Up 0 s t ∨ Up 1 s t ∨ Up 3 s t ∨ Off s t
theorem xbl_01 {x : Int32} (h : xbl x = true) : x = 0 ∨ x = 1 := by
  simpa [xbl] using h
theorem end_51 {c : Nat} {s t : xS} (hl : Las s t) (h1 : s.1 1 = 0) (hx : s.1 12 = 0) (hr : RG c t) : ∃ s', f_C_endStep_51 s = some (0, s') ∧ Off s' t := by
  obtain ⟨a, b, d, e1, e2, e3, e4⟩ := forget_ok s
  refine ⟨fgS s a b d, ?_, ?_⟩
  · unfold f_C_endStep_51
    rw [if_pos h1, e4, Option.bind_some]
    unfold f_C_endStep_65
    rw [show (fgS s a b d).1 1 = 0 from h1, if_pos (by decide)]
  · obtain ⟨a1, a2, a3, a4, a5, a6, a7, a8, a9, a10, a11, a12⟩ := hl
    obtain ⟨r1, r2, r3, r4, r5, r6, r7, r8, r9, -⟩ := hr
    exact ⟨⟨a1, a2, a3, a4, a5, a6, a7, a8, a9, a10, a11, a12⟩, ⟨rfl, r2, hx, r8⟩, ⟨rfl, rfl, rfl, rfl, rfl⟩, ⟨r6, r7, r5⟩, fun k hk => ⟨e1 k hk, e2 k hk⟩, fun k hk => ⟨e3 k hk, (r9 k hk).1, (r9 k hk).2⟩⟩
theorem end_gone {c : Nat} {s t : xS} (hl : Las s t) (h1 : s.1 1 = 0) (hx : xbl (s.1 12) = true) (hr : RG c t) : ∃ s', f_C_endStep s = some (0, s') ∧ Off s' t := by
  have hl' : Las (xsc s 12 0) t := by
    obtain ⟨a1, a2, a3, a4, a5, a6, a7, a8, a9, a10, a11, a12⟩ := hl
    exact ⟨a1, a2, a3, a4, a5, a6, a7, a8, a9, a10, a11, a12⟩
  obtain ⟨s', e1, e2⟩ := end_51 (s := xsc s 12 0) hl' h1 rfl hr
  refine ⟨s', ?_, e2⟩
  unfold f_C_endStep f_Bus_takeHalt
  rw [if_pos hx, Option.bind_some, if_pos (show (xsc s 12 0).1 1 = 0 from h1), e1]
/-- the instruction is over, and there is power -/
theorem end_on {s t : xS} (h : OnR 4 4 s t) : ∃ (r : Int32) (s' t' : xS), f_C_endStep s = some (r, s') ∧ (if t.1 4 = 0 then f_M_step_115 (xsc t 3 (t.1 3 + 1)) else (f_M_checkpoint (xsc t 3 (t.1 3 + 1))).bind fun q7 => f_M_step_115 q7) = some (r, t') ∧ (r = 0 ∨ r = 1) ∧ (Up 1 s' t' ∨ Up 3 s' t' ∨ Off s' t') := by
  obtain ⟨⟨hl, hv, ⟨p1, p2, p3, p4⟩, q1, q2⟩, hr⟩ := h
  have n1 : ¬ s.1 1 = 0 := by rw [p3]; decide
  have hl' : Las (xsc (xsc s 12 0) 9 (s.1 9 + 1)) (xsc t 3 (t.1 3 + 1)) := by
    obtain ⟨a1, a2, a3, a4, a5, a6, a7, a8, a9, a10, a11, a12⟩ := hl
    exact ⟨a1, a2, a3, a4, a5, a6, a7, a8, a9, a10, a11, a12⟩
  have hv' : Vol 4 4 (xsc (xsc s 12 0) 9 (s.1 9 + 1)) (xsc t 3 (t.1 3 + 1)) := by
    obtain ⟨v1, v2, v3, v4, v5, v6⟩ := hv
    refine ⟨v1, v2, v3, v4, v5, ?_⟩
    show s.1 9 + 1 = t.1 3 + 1
    rw [v6]
  unfold f_C_endStep f_Bus_takeHalt
  rw [if_pos q2, Option.bind_some, if_neg (show ¬ (xsc s 12 0).1 1 = 0 from n1)]
  show ∃ (r : Int32) (s' t' : xS), (if s.1 12 = 0 then f_C_endStep_51 (xsc (xsc s 12 0) 9 (s.1 9 + 1)) else (f_Keeper_checkpoint 1 (xsc (xsc s 12 0) 9 (s.1 9 + 1))).bind fun q9 => if q9.1 = 0 then f_C_endStep_51 q9.2 else f_C_endStep_51 (xsc q9.2 0 3)) = _ ∧ _
  rcases xbl_01 q2 with h0 | h0
  · rw [if_pos h0, if_pos (q1 ▸ h0)]
    refine ⟨1, xsc (xsc s 12 0) 9 (s.1 9 + 1), xsc t 3 (t.1 3 + 1), ?_, ?_, Or.inr rfl, Or.inl ⟨hl', hv', hr, ⟨p1, p2, rfl, q1 ▸ h0⟩, fun _ => ⟨p3, p4⟩, fun h => absurd h (by decide)⟩⟩
    · unfold f_C_endStep_51
      rw [if_neg (show ¬ (xsc (xsc s 12 0) 9 (s.1 9 + 1)).1 1 = 0 from n1)]
      unfold f_C_endStep_65
      rw [show (xsc (xsc s 12 0) 9 (s.1 9 + 1)).1 1 = 1 from p3, if_pos (by decide)]
    · unfold f_M_step_115
      rw [show (xsc t 3 (t.1 3 + 1)).1 15 = 1 from p4, if_pos (by decide)]
  · have t4 : t.1 4 = 1 := q1 ▸ h0
    rw [if_neg (by rw [h0]; decide), if_neg (by rw [t4]; decide)]
    have hp : Pre 1 (xsc (xsc s 12 0) 9 (s.1 9 + 1)) (xsc t 3 (t.1 3 + 1)) := ⟨hl', hv', hr, ⟨p3, p4⟩, t4, by decide⟩
    rcases p_check hp with ⟨s1, t1, c1, c2, c3, c4, c5, ⟨c6, c7⟩, ⟨c8, c9⟩, c10, c11⟩ | ⟨s1, t1, c1, c2, c3, ⟨c4, c5⟩, c6, c7⟩
    · rw [c1, c2, Option.bind_some, Option.bind_some, if_neg one_ne0]
      have l2 : Las (xsc s1 0 3) t1 := by
        obtain ⟨a1, a2, a3, a4, a5, a6, a7, a8, a9, a10, a11, a12⟩ := c3
        exact ⟨a1, a2, a3, a4, a5, a6, a7, a8, a9, a10, a11, a12⟩
      have v2 : Vol 4 4 (xsc s1 0 3) t1 := by
        obtain ⟨⟨a, j, w1, w2, w3, w4, w5, w6⟩, ⟨q, u, x1, x2, x3⟩, ⟨n, y1, y2⟩, v4, v5, v6⟩ := c4
        exact ⟨⟨a, j, by omega, w2, w3, w4, w5, w6⟩, ⟨q, u, by omega, x2, x3⟩, ⟨n, by omega, y2⟩, v4, v5, v6⟩
      refine ⟨1, xsc s1 0 3, t1, ?_, ?_, Or.inr rfl, Or.inr (Or.inl ⟨l2, v2, c5, ⟨rfl, c11, c7, c10⟩, fun h => absurd h (by decide), fun h => absurd h (by decide)⟩)⟩
      · unfold f_C_endStep_51
        rw [if_neg (show ¬ (xsc s1 0 3).1 1 = 0 from by show ¬ s1.1 1 = 0; rw [c8]; decide)]
        unfold f_C_endStep_65
        rw [show (xsc s1 0 3).1 1 = 1 from c8, if_pos (by decide)]
      · unfold f_M_step_115
        rw [c9, if_pos (by decide)]
    · rw [c1, c2, Option.bind_some, Option.bind_some, if_pos rfl]
      obtain ⟨s2, d1, d2⟩ := end_51 c3 c6.1 (c5.trans rfl) c7
      refine ⟨0, s2, t1, d1, ?_, Or.inl rfl, Or.inr (Or.inr d2)⟩
      unfold f_M_step_115
      rw [c7.1, if_pos (by decide)]
theorem full_ok {s t : xS} (h : Vol 4 4 s t) :
    (f_Section_isFull s = some (1, s) ∧ ∀ y1, f_M_step_32 y1 t = f_M_step_68 (xsc t 17 y1)) ∨
    (f_Section_isFull s = some (0, s) ∧ (∀ y1, f_M_step_32 y1 t = f_M_step_72 (xsc t 17 y1)) ∧ Vol 2 3 s t) := by
  obtain ⟨⟨a, j, w1, w2, w3, w4, w5, w6⟩, ⟨q, u, x1, x2, x3, x4, x5⟩, ⟨n, y1, y2, y3, y4⟩, ⟨v4, v4'⟩, v5, v6⟩ := h
  have ht : ∀ y, f_M_tracked (xsc t 17 y) = some (s.1 7, xsc t 17 y) := fun y => by
    rw [tracked_ok (xsc t 17 y) (fun k hk => (v4 k hk).2), v4']
    rfl
  have e39 : f_Section_isFull_39 s = some (1, s) := by
    unfold f_Section_isFull_39 f_Section_isFull_44
    rw [if_pos (by decide)]
  have e44 : f_Section_isFull_44 0 s = some (0, s) := by
    unfold f_Section_isFull_44
    rw [if_pos (by decide)]
  have hs : ∀ y, f_M_step_32 y t = if (11 : Int32) < s.1 7 then f_M_step_68 (xsc t 17 y) else if t.1 0 = 4 then f_M_step_68 (xsc t 17 y) else if t.1 1 = 4 then f_M_step_68 (xsc t 17 y) else if t.1 2 ≤ 2 then f_M_step_72 (xsc t 17 y) else f_M_step_68 (xsc t 17 y) := fun y => by
    unfold f_M_step_32
    rw [ht, Option.bind_some]
    rfl
  unfold f_Section_isFull
  by_cases c1 : (11 : Int32) < s.1 7
  · rw [if_pos c1]
    exact Or.inl ⟨e39, fun y => by rw [hs, if_pos c1]⟩
  · rw [if_neg c1]
    by_cases c2 : n = 4
    · subst c2
      rw [if_pos (show (4 : Int32) ≤ s.1 10 from by rw [y2]; exact Int32.le_refl _)]
      exact Or.inl ⟨e39, fun y => by rw [hs, if_neg c1, if_pos (show t.1 0 = 4 from y3)]⟩
    · rw [if_neg (show ¬ (4 : Int32) ≤ s.1 10 from by rw [y2]; exact nI_ge (b := 4) (by omega) (by omega))]
      have k2 : ¬ t.1 0 = 4 := by rw [y3]; exact fun e => c2 ((nI_eq (b := 4) (by omega) (by omega)).mp e)
      by_cases c3 : q = 4
      · subst c3
        rw [if_pos (show (4 : Int32) ≤ s.1 11 from by rw [x3]; exact Int32.le_refl _)]
        exact Or.inl ⟨e39, fun y => by rw [hs, if_neg c1, if_neg k2, if_pos (show t.1 1 = 4 from x4)]⟩
      · rw [if_neg (show ¬ (4 : Int32) ≤ s.1 11 from by rw [x3]; exact nI_ge (b := 4) (by omega) (by omega))]
        have k3 : ¬ t.1 1 = 4 := by rw [x4]; exact fun e => c3 ((nI_eq (b := 4) (by omega) (by omega)).mp e)
        by_cases c4 : a < 3
        · rw [if_pos (show s.1 8 < 3 from by rw [w4]; exact nI_lt (b := 3) c4 (by omega))]
          exact Or.inr ⟨e44, fun y => by rw [hs, if_neg c1, if_neg k2, if_neg k3, if_pos (show t.1 2 ≤ 2 from by rw [w5]; exact nI_le (b := 2) (by omega) (by omega))], ⟨a, j, by omega, w2, w3, w4, w5, w6⟩, ⟨q, u, by omega, x2, x3, x4, x5⟩, ⟨n, by omega, y2, y3, y4⟩, ⟨v4, v4'⟩, v5, v6⟩
        · rw [if_neg (show ¬ s.1 8 < 3 from by rw [w4]; exact nI_nlt (b := 3) (by omega) (by omega))]
          exact Or.inl ⟨e39, fun y => by rw [hs, if_neg c1, if_neg k2, if_neg k3, if_neg (show ¬ t.1 2 ≤ 2 from by rw [w5]; exact nI_ge (b := a) (a := 2) (by omega) (by omega))]⟩
/-- a step of the class -/
def CStep (s : xS) (r : Int32) (s' : xS) : Prop := (∃ q2, f_C_beginStep s = some (0, q2) ∧ f_C_endStep q2 = some (r, s')) ∨ (∃ q2 q3, f_C_beginStep s = some (1, q2) ∧ f_Processor_execute q2 = some q3 ∧ f_C_endStep q3 = some (r, s'))
theorem p_72 {s t : xS} (h : OnR 2 3 s t) : ∃ (r : Int32) (q3 s' t' : xS), f_Processor_execute s = some q3 ∧ f_C_endStep q3 = some (r, s') ∧ f_M_step_72 t = some (r, t') ∧ (r = 0 ∨ r = 1) ∧ (Up 1 s' t' ∨ Up 3 s' t' ∨ Off s' t') := by
  have p4 : ¬ t.1 15 = 0 := by rw [h.1.2.2.1.2.2.2]; decide
  unfold f_M_step_72
  rw [if_neg p4]
  rcases p_exec h with ⟨s2, t2, c1, c2, c3⟩ | ⟨s2, t2, c1, c2, c3, c4, c5⟩
  · obtain ⟨r, s', t', d1, d2, d3, d4⟩ := end_on c3
    rw [c2, Option.bind_some, if_neg (show ¬ t2.1 15 = 0 from by rw [c3.1.2.2.1.2.2.2]; decide)]
    exact ⟨r, s2, s', t', c1, d1, d2, d3, d4⟩
  · obtain ⟨s', d1, d2⟩ := end_gone c3 c4.2.1 c4.2.2.2.2.1 c5
    rw [c2, Option.bind_some, if_pos c5.1]
    exact ⟨0, s2, s', t2, c1, d1, rfl, Or.inl rfl, Or.inr (Or.inr d2)⟩
theorem p_step {s t : xS} (h : Up 1 s t) : ∃ (r : Int32) (s' t' : xS), CStep s r s' ∧ f_M_step t = some (r, t') ∧ (r = 0 ∨ r = 1) ∧ (Up 1 s' t' ∨ Up 3 s' t' ∨ Off s' t') := by
  obtain ⟨hl, hv, hr, ⟨p1, p2, p12, p4⟩, pw, -⟩ := h
  obtain ⟨pw1, pw2⟩ := pw rfl
  have hl0 := hl
  obtain ⟨a1, a2, a3, a4, ⟨u, v, b1, b2, b3, b4, b5, b6⟩, a6, a7, a8, a9, a10, a11, a12⟩ := hl
  by_cases hv1 : v = 1
  · subst hv1
    obtain ⟨g, k, c1, c2⟩ := off_ok t
    have hl1 : Las (noS s) (offS t g k) := ⟨a1, a2, a3, a4, ⟨0, 0, by omega, by omega, rfl, rfl, rfl, rfl⟩, a6, a7, a8, a9, a10, a11, a12⟩
    have hrg : RG 5 (offS t g k) := ⟨rfl, rfl, rfl, rfl, rfl, rfl, rfl, rfl, c1, 0, by omega, rfl⟩
    obtain ⟨s', d1, d2⟩ := end_gone hl1 rfl (show xbl (s.1 12) = true from by rw [p12]; decide) hrg
    refine ⟨0, s', offS t g k, Or.inl ⟨noS s, ?_, d1⟩, ?_, Or.inl rfl, Or.inr (Or.inr d2)⟩
    · unfold f_C_beginStep
      rw [step_no pw1 b5, Option.bind_some, if_pos rfl]
    · unfold f_M_step
      rw [if_pos (show t.1 17 = 1 from b6), c2, Option.bind_some]
  · obtain ⟨g, g1, g2, g3⟩ := step_ok pw1 b5 b2 hv1
    have hs : f_M_step t = f_M_step_32 (nI (v - 1)) t := by
      unfold f_M_step
      rw [if_neg (show ¬ t.1 17 = 1 from by rw [b6]; exact fun e => hv1 ((nI_eq (b := 1) (by omega) (by omega)).mp e))]
      by_cases hv0 : v = 0
      · subst hv0
        rw [if_pos (show t.1 17 ≤ 0 from by rw [b6]; decide)]
        rfl
      · rw [if_neg (show ¬ t.1 17 ≤ 0 from by rw [b6]; exact nI_nle (by omega) (by omega)), b6, show nI v - 1 = nI (v - 1) from pk_sub (b := 1) (by omega)]
    have hl1 : Las (xsf s 0 g) (xsc t 17 (nI (v - 1))) := ⟨a1, a2, a3, a4, ⟨u, v - 1, b1, by omega, g1.trans b3, b4, g2, rfl⟩, a6, a7, a8, a9, a10, a11, a12⟩
    rw [hs]
    have hb : f_C_beginStep s = (f_Section_isFull (xsf s 0 g)).bind fun q5 => if q5.1 = 0 then f_C_beginStep_34 q5.2 else (f_Keeper_checkpoint 0 q5.2).bind fun q8 => if q8.1 = 0 then f_C_beginStep_39 0 q8.2 else f_C_beginStep_34 q8.2 := by
      unfold f_C_beginStep
      rw [g3, Option.bind_some, if_neg one_ne0]
    have e34 : ∀ y, f_C_beginStep_34 y = some (1, y) := fun y => by
      unfold f_C_beginStep_34 f_C_beginStep_39
      rw [if_pos (by decide)]
    rcases full_ok (s := xsf s 0 g) (t := t) hv with ⟨c1, c2⟩ | ⟨c1, c2, c3⟩
    · rw [c2]
      rw [c1, Option.bind_some, if_neg one_ne0] at hb
      have hp : Pre 0 (xsf s 0 g) (xsc t 17 (nI (v - 1))) := ⟨hl1, hv, hr, ⟨pw1, pw2⟩, p4, by decide⟩
      unfold f_M_step_68
      rcases p_check hp with ⟨s1, t1, d1, d2, d3, d4, d5, ⟨d6, d7⟩, ⟨d8, d9⟩, d10, d11⟩ | ⟨s1, t1, d1, d2, d3, ⟨d4, d5⟩, d6, d7⟩
      · rw [d2, Option.bind_some]
        have ho : OnR 2 3 s1 t1 := by
          obtain ⟨⟨a, j, w1, w2, w3, w4, w5, w6⟩, ⟨q, u, x1, x2, x3⟩, ⟨n, y1, y2⟩, v4, v5, v6⟩ := d4
          have e12 : s1.1 12 = 0 := d7.trans p12
          exact ⟨⟨d3, ⟨⟨a, j, by omega, w2, w3, w4, w5, w6⟩, ⟨q, u, by omega, x2, x3⟩, ⟨n, by omega, y2⟩, v4, v5, v6⟩, ⟨d6.trans p1, d11, d8, d9⟩, e12.trans d10.symm, by rw [e12]; decide⟩, d5⟩
        obtain ⟨r, q3, s', t', e1, e2, e3, e4, e5⟩ := p_72 ho
        exact ⟨r, s', t', Or.inr ⟨s1, q3, by rw [hb, d1, Option.bind_some, if_neg one_ne0, e34], e1, e2⟩, e3, e4, e5⟩
      · rw [d2, Option.bind_some]
        obtain ⟨s', e1, e2⟩ := end_gone d3 d6.1 (show xbl (s1.1 12) = true from by rw [d5, show (xsf s 0 g).1 12 = 0 from p12]; decide) d7
        refine ⟨0, s', t1, Or.inl ⟨s1, ?_, e1⟩, ?_, Or.inl rfl, Or.inr (Or.inr e2)⟩
        · rw [hb, d1, Option.bind_some, if_pos rfl]
          unfold f_C_beginStep_39
          rw [if_pos (by decide)]
        · unfold f_M_step_72
          rw [if_pos d7.1]
    · rw [c2]
      rw [c1, Option.bind_some, if_pos rfl, e34] at hb
      have ho : OnR 2 3 (xsf s 0 g) (xsc t 17 (nI (v - 1))) := ⟨⟨hl1, c3, ⟨p1, p2, pw1, pw2⟩, p12.trans p4.symm, by show xbl (s.1 12) = true; rw [p12]; decide⟩, hr⟩
      obtain ⟨r, q3, s', t', e1, e2, e3, e4, e5⟩ := p_72 ho
      exact ⟨r, s', t', Or.inr ⟨_, q3, hb, e1, e2⟩, e3, e4, e5⟩
theorem run_lp {N : Nat} (hN : N ≤ 200) : ∀ (n i : Nat) (x2 : Int32) (s t : xS), i ≤ N → N - i < n → (Up 1 s t ∨ Up 3 s t ∨ Off s t) → ∃ (r : Int32) (s' t' : xS), f_C_run_25 n (nI N) x2 (nI i) s = some (r, s') ∧ f_M_run_25 n (nI N) x2 (nI i) t = some (r, t') ∧ (Up 1 s' t' ∨ Up 3 s' t' ∨ Off s' t') := by
  intro n
  induction n with
  | zero => intro i x2 s t _ h; omega
  | succ n ih =>
    intro i x2 s t hi hf h
    unfold f_C_run_25 f_M_run_25
    by_cases hd : i = N
    · subst hd
      rw [if_pos (Int32.le_refl _), if_pos (Int32.le_refl _)]
      exact ⟨x2, s, t, rfl, rfl, h⟩
    · rw [if_neg (nI_ge (a := i) (b := N) (by omega) (by omega)), if_neg (nI_ge (a := i) (b := N) (by omega) (by omega))]
      by_cases h1 : Up 1 s t
      · rw [if_pos h1.2.2.2.1.1, if_pos h1.2.2.2.1.2.1]
        obtain ⟨r, s', t', c1, c2, c3, c4⟩ := p_step h1
        have key : ((f_C_beginStep s).bind fun q6 => if q6.1 = 0 then f_C_run_52 (f_C_run_25 n) (nI N) x2 (nI i) q6.2 else (f_Processor_execute q6.2).bind fun q9 => f_C_run_52 (f_C_run_25 n) (nI N) x2 (nI i) q9) = if r = 0 then f_C_run_25 n (nI N) x2 (nI i + 1) s' else f_C_run_25 n (nI N) (x2 + 1) (nI i + 1) s' := by
          rcases c1 with ⟨q2, k1, k2⟩ | ⟨q2, q3, k1, k2, k3⟩
          · rw [k1, Option.bind_some, if_pos rfl]
            unfold f_C_run_52
            rw [k2, Option.bind_some]
            rfl
          · rw [k1, Option.bind_some, if_neg one_ne0, k2, Option.bind_some]
            unfold f_C_run_52
            rw [k3, Option.bind_some]
            rfl
        rw [key, c2, Option.bind_some]
        show ∃ (r' : Int32) (s'' t'' : xS), (if r = 0 then f_C_run_25 n (nI N) x2 (nI i + 1) s' else f_C_run_25 n (nI N) (x2 + 1) (nI i + 1) s') = _ ∧ (if r = 0 then f_M_run_25 n (nI N) x2 (nI i + 1) t' else f_M_run_25 n (nI N) (x2 + 1) (nI i + 1) t') = _ ∧ _
        rw [nI_1]
        rcases c3 with rfl | rfl
        · rw [if_pos rfl, if_pos rfl]
          exact ih (i + 1) _ _ _ (by omega) (by omega) c4
        · rw [if_neg one_ne0, if_neg one_ne0]
          exact ih (i + 1) _ _ _ (by omega) (by omega) c4
      · have h2 : ¬ s.1 0 = 1 ∧ ¬ t.1 14 = 1 := by
          rcases h with h | h | h
          · exact absurd h h1
          · rw [h.2.2.2.1.1, h.2.2.2.1.2.1]
            exact ⟨by decide, by decide⟩
          · rw [h.2.1.1, h.2.1.2.1]
            exact ⟨by decide, by decide⟩
        rw [if_neg h2.1, if_neg h2.2]
        exact ⟨x2, s, t, rfl, rfl, h⟩
theorem Inv.st {s t : xS} (h : Inv s t) : s.1 0 = t.1 14 ∧ (s.1 0 = 1 → Up 1 s t) ∧ (s.1 0 = 0 → Up 0 s t) ∧ (s.1 0 = 2 → Off s t) := by
  rcases h with h | h | h | h
  · have e := h.2.2.2.1.1
    exact ⟨e.trans h.2.2.2.1.2.1.symm, fun q => absurd (e.symm.trans q) (by decide), fun _ => h, fun q => absurd (e.symm.trans q) (by decide)⟩
  · have e := h.2.2.2.1.1
    exact ⟨e.trans h.2.2.2.1.2.1.symm, fun _ => h, fun q => absurd (e.symm.trans q) (by decide), fun q => absurd (e.symm.trans q) (by decide)⟩
  · have e := h.2.2.2.1.1
    exact ⟨e.trans h.2.2.2.1.2.1.symm, fun q => absurd (e.symm.trans q) (by decide), fun q => absurd (e.symm.trans q) (by decide), fun q => absurd (e.symm.trans q) (by decide)⟩
  · have e := h.2.1.1
    exact ⟨e.trans h.2.1.2.1.symm, fun q => absurd (e.symm.trans q) (by decide), fun q => absurd (e.symm.trans q) (by decide), fun _ => h⟩
/-- one call, on both sides -/
def Call (C R : Option (Int32 × xS)) : Prop := ∃ (r : Int32) (s' t' : xS), C = some (r, s') ∧ R = some (r, t') ∧ Inv s' t'
theorem c_run {s t : xS} (x : Int32) (h : Inv s t) : Call (f_C_run x s) (f_M_run x t) := by
  unfold f_C_run f_M_run
  obtain ⟨e1, e2, -⟩ := h.st
  by_cases h1 : s.1 0 = 1
  · rw [if_pos h1, if_pos (show t.1 14 = 1 from e1.symm.trans h1)]
    by_cases hx : x < 0
    · rw [if_pos hx, if_pos hx]
      exact ⟨-1, s, t, rfl, rfl, h⟩
    · rw [if_neg hx, if_neg hx]
      by_cases hy : x ≤ 200
      · rw [if_pos hy, if_pos hy]
        obtain ⟨N, hN, rfl⟩ := nI_of2 (M := 200) (n := 200) (by decide) hx hy
        obtain ⟨r, s', t', c1, c2, c3⟩ := run_lp hN 1000 0 0 s t (by omega) (by omega) (Or.inl (e2 h1))
        exact ⟨r, s', t', c1, c2, Or.inr c3⟩
      · rw [if_neg hy, if_neg hy]
        exact ⟨-1, s, t, rfl, rfl, h⟩
  · rw [if_neg h1, if_neg (show ¬ t.1 14 = 1 from fun q => h1 (e1.trans q))]
    exact ⟨-1, s, t, rfl, rfl, h⟩
