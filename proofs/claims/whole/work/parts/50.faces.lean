theorem Vol.to {s t : xS} (h : Vol 0 0 s t) : Vol 4 4 s t := by
  obtain ⟨⟨a, j, w1, w2, w3, w4, w5, w6⟩, ⟨q, u, x1, x2, x3⟩, ⟨n, y1, y2⟩, v4, v5, v6⟩ := h
  exact ⟨⟨a, j, by omega, w2, w3, w4, w5, w6⟩, ⟨q, u, by omega, x2, x3⟩, ⟨n, by omega, y2⟩, v4, v5, v6⟩
theorem Inv.las {s t : xS} (h : Inv s t) : Las s t := by
  rcases h with h | h | h | h <;> exact h.1
theorem Inv.vol {s t : xS} (h : Inv s t) : VBf 4 (s.1 10) (t.1 0) (s.2 6) (s.2 7) (t.2 4) (t.2 5) ∧ VTk (s.1 7) (s.2 5) (t.2 3) ∧ s.1 11 = t.1 1 ∧ s.1 9 = t.1 3 := by
  have up : ∀ x, Up x s t → VBf 4 (s.1 10) (t.1 0) (s.2 6) (s.2 7) (t.2 4) (t.2 5) ∧ VTk (s.1 7) (s.2 5) (t.2 3) ∧ s.1 11 = t.1 1 ∧ s.1 9 = t.1 3 := by
    intro x h
    obtain ⟨-, ⟨-, ⟨q, u, x1, x2, x3, x4, -⟩, v3, v4, -, v6⟩, -⟩ := h
    exact ⟨v3, v4, x3.trans x4.symm, v6⟩
  rcases h with h | h | h | h
  · exact up _ h
  · exact up _ h
  · exact up _ h
  · obtain ⟨-, -, ⟨s7, s8, s9, s10, s11⟩, ⟨t0, t1, t3⟩, -, hk⟩ := h
    refine ⟨⟨0, by omega, s10, t0, fun i hi => by omega, fun w hw => Or.inl (hk w hw).2.2⟩, ⟨fun k hk' => ⟨(hk k hk').1.trans (hk k hk').2.1.symm, Or.inl (hk k hk').2.1⟩, ?_⟩, s11.trans t1.symm, s9.trans t3.symm⟩
    rw [s7, ct_zero 128 (fun k hk' => (hk k hk').2.1)]
    rfl
theorem Inv.reg {s t : xS} (h : Inv s t) : ∀ k, k < 16 → s.2 10 k = (if t.1 14 = 2 then 0 else t.2 0 k) ∧ s.2 9 k = (if t.1 14 = 2 then 0 else t.2 1 k) := by
  have up : ∀ x, ¬ x = 2 → Up x s t → ∀ k, k < 16 → s.2 10 k = (if t.1 14 = 2 then 0 else t.2 0 k) ∧ s.2 9 k = (if t.1 14 = 2 then 0 else t.2 1 k) := by
    intro x hx h k hk
    obtain ⟨-, ⟨-, -, -, -, v5, -⟩, hr, ⟨-, e, -⟩, -⟩ := h
    rw [e, if_neg hx, if_neg hx]
    exact ⟨(hr k hk).1, (v5 k hk).1⟩
  rcases h with h | h | h | h
  · exact up _ (by decide) h
  · exact up _ (by decide) h
  · exact up _ (by decide) h
  · intro k hk
    rw [if_pos h.2.1.2.1, if_pos h.2.1.2.1]
    exact h.2.2.2.2.1 k hk
theorem bt_58 (t : xS) : ∀ (n i : Nat) (g h : Nat → Int32), i ≤ 16 → 16 - i < n → (∀ k, k < i → g k = t.2 7 k ∧ h k = t.2 8 k) →
    ∃ g' h' : Nat → Int32, f_M_boot_58 n (nI i) (xsf (xsf t 0 g) 1 h) = ((f_M_fresh (xsf (xsf t 0 g') 1 h')).bind fun q2 => some ((1 : Int32), q2)) ∧ ∀ k, k < 16 → g' k = t.2 7 k ∧ h' k = t.2 8 k := by
  intro n
  induction n with
  | zero => intro i g h _ h2; omega
  | succ n ih =>
    intro i g h hi hf hh
    by_cases hd : i = 16
    · subst hd
      refine ⟨g, h, ?_, hh⟩
      unfold f_M_boot_58
      rw [if_pos (by decide)]
    · have e1 : ¬ (16 : Int32) ≤ nI i := nI_ge (b := 16) (by omega) (by omega)
      have e2 : xin (nI i) 16 = true := xin_nI (by omega) (by omega)
      have e3 : xsa (xsa (xsf (xsf t 0 g) 1 h) 0 i (t.2 7 i)) 1 i (t.2 8 i) = xsf (xsf t 0 (upd g i (t.2 7 i))) 1 (upd h i (t.2 8 i)) := by
        rw [xsa_def, xsa_def]
        show xsf (xsf (xsf (xsf t 0 g) 1 h) 0 (upd g i (t.2 7 i))) 1 (upd h i (t.2 8 i)) = _
        rw [xsf_comm (xsf t 0 g) (n := 1) (m := 0) (by decide), xsf_two, xsf_two]
      obtain ⟨g', h', a1, a2⟩ := ih (i + 1) (upd g i (t.2 7 i)) (upd h i (t.2 8 i)) (by omega) (by omega) (by
        intro k hk
        by_cases hki : k = i
        · subst hki
          rw [pk_us, pk_us]
          exact ⟨rfl, rfl⟩
        · rw [pk_un hki, pk_un hki]
          exact hh k (by omega))
      refine ⟨g', h', ?_, a2⟩
      unfold f_M_boot_58
      rw [if_neg e1, if_pos e2, if_pos e2, if_pos e2, if_pos e2, nI_c (by omega), nI_1]
      show f_M_boot_58 n (nI (i + 1)) (xsa (xsa (xsf (xsf t 0 g) 1 h) 0 i (t.2 7 i)) 1 i (t.2 8 i)) = _
      rw [e3, a1]
theorem bt_end {s t : xS} (hl : Las s t) (h12 : s.1 12 = 0) (h1 : s.1 1 = 1) (h2 : t.1 15 = 1) (h3 : t.1 3 = 0) : ∃ s1 s' t', f_Keeper_recover_19 s = some (1, s1) ∧ (if s1.1 21 = 0 then f_C_boot_49 1 s1 else f_C_boot_49 3 s1) = some (1, s') ∧ f_M_boot_31 t = some (1, t') ∧ Inv s' t' := by
  obtain ⟨gg, k1, k2⟩ := begin_ok (xsf (xsf s 10 (va_cpy (s.2 11) (s.2 10) 0 0 16)) 9 (va_cpy (s.2 12) (s.2 9) 0 0 16))
  have main : ∀ y : Int32, ¬ y = 0 → ∃ t', f_M_boot_53 y t = some (1, t') ∧ Up y (xsc (bgS (xsf (xsf s 10 (va_cpy (s.2 11) (s.2 10) 0 0 16)) 9 (va_cpy (s.2 12) (s.2 9) 0 0 16)) gg) 0 y) t' := by
    intro y hy
    obtain ⟨g, h, c1, c2⟩ := bt_58 (xsc t 14 y) 1000 0 (t.2 0) (t.2 1) (by omega) (by omega) (fun k hk => by omega)
    obtain ⟨g3, g4, d1, d2⟩ := fresh_ok (xsf (xsf (xsc t 14 y) 0 g) 1 h)
    have e0 : xsf (xsf (xsc t 14 y) 0 (t.2 0)) 1 (t.2 1) = xsc t 14 y := by
      rw [show xsf (xsc t 14 y) 0 (t.2 0) = xsc t 14 y from xsf_self (xsc t 14 y) 0]
      exact xsf_self (xsc t 14 y) 1
    rw [e0, d2, Option.bind_some] at c1
    have hl' : Las (xsc (bgS (xsf (xsf s 10 (va_cpy (s.2 11) (s.2 10) 0 0 16)) 9 (va_cpy (s.2 12) (s.2 9) 0 0 16)) gg) 0 y) (fz (xsf (xsf (xsf (xsf (xsc t 14 y) 0 g) 1 h) 3 g3) 4 g4)) := by
      obtain ⟨a1, a2, a3, a4, a5, a6, a7, a8, a9, a10, a11, a12⟩ := hl
      exact ⟨a1, a2, a3, a4, a5, a6, a7, a8, a9, a10, a11, a12⟩
    have hr := hl.2.2.2.2.2.1
    have hs := hl.2.2.2.2.2.2.1
    refine ⟨_, c1, hl', Vol.to (Vol.emp hl' ⟨rfl, rfl, rfl, rfl, rfl⟩ k1 ⟨rfl, rfl, rfl, h3⟩ d1 (fun k hk => ?_)), fun k hk => ?_, ⟨rfl, rfl, h12, rfl⟩, fun _ => ⟨h1, h2⟩, fun q => absurd q hy⟩
    · show va_cpy (s.2 12) (s.2 9) 0 0 16 k = h k ∧ wd (h k)
      rw [va0 hk, show h k = t.2 8 k from (c2 k hk).2]
      exact hs k hk
    · show va_cpy (s.2 11) (s.2 10) 0 0 16 k = g k ∧ rg k (g k)
      rw [va0 hk, show g k = t.2 7 k from (c2 k hk).1]
      exact hr k hk
  have e21 : s.1 21 = t.1 8 := hl.2.2.2.2.2.2.2.2.1.1
  unfold f_M_boot_31
  rw [if_neg (show ¬ t.1 15 = 0 from by rw [h2]; decide)]
  have er : f_Keeper_recover_19 s = some (1, bgS (xsf (xsf s 10 (va_cpy (s.2 11) (s.2 10) 0 0 16)) 9 (va_cpy (s.2 12) (s.2 9) 0 0 16)) gg) := by
    unfold f_Keeper_recover_19
    rw [k2, Option.bind_some]
  by_cases h8 : t.1 8 = 0
  · obtain ⟨t', d1, d2⟩ := main 1 (by decide)
    rw [if_pos h8]
    exact ⟨_, _, t', er, if_pos (show s.1 21 = 0 from e21.trans h8), d1, Or.inr (Or.inl d2)⟩
  · obtain ⟨t', d1, d2⟩ := main 3 (by decide)
    rw [if_neg h8]
    exact ⟨_, _, t', er, if_neg (show ¬ s.1 21 = 0 from fun q => h8 (e21.symm.trans q)), d1, Or.inr (Or.inr (Or.inl d2))⟩
theorem c_boot {s t : xS} (h : Inv s t) : Call (f_C_boot s) (f_M_boot t) := by
  obtain ⟨e1, -, -, e2⟩ := h.st
  unfold f_C_boot f_M_boot
  by_cases h2 : s.1 0 = 2
  · rw [if_pos h2, if_pos (show t.1 14 = 2 from e1.symm.trans h2)]
    obtain ⟨hl, ⟨p1, p2, p3, p4⟩, ⟨s7, s8, s9, s10, s11⟩, ⟨t0, t1, t3⟩, hz, hk⟩ := e2 h2
    have hl' : Las (xsc s 1 1) (xsc (xsc t 15 1) 14 1) := by
      obtain ⟨a1, a2, a3, a4, a5, a6, a7, a8, a9, a10, a11, a12⟩ := hl
      exact ⟨a1, a2, a3, a4, a5, a6, a7, a8, a9, a10, a11, a12⟩
    unfold f_Keeper_recover
    rcases hl.2.2.2.2.2.2.2.2.1.2.2 with ⟨f1, f2⟩ | ⟨f1, f2⟩
    · rw [if_neg (show ¬ (xsc s 1 1).1 22 = 0 from by show ¬ s.1 22 = 0; rw [f1]; decide), if_pos f2]
      obtain ⟨s1, s', t', c1, c2, c3, c4⟩ := bt_end hl' p3 rfl rfl t3
      rw [c1, Option.bind_some, if_neg one_ne0]
      exact ⟨1, s', t', c2, c3, c4⟩
    · rw [if_pos (show (xsc s 1 1).1 22 = 0 from f1), if_neg (show ¬ t.1 9 = 0 from by rw [f2]; decide)]
      rcases p_finish hl' rfl rfl with ⟨s2, t2, c1, c2, c3, c4, ⟨c5, -, -⟩, ⟨c6, -, -⟩, c7, c8⟩ | ⟨s2, t2, c1, c2, c3, c4, c5, c6⟩
      · rw [c1, c2, Option.bind_some, Option.bind_some, if_neg one_ne0]
        obtain ⟨s1, s', t', d1, d2, d3, d4⟩ := bt_end c3 ((show s2.1 12 = s.1 12 from congrArg (fun q => q.1.2.2.2.2.2.2) c4).trans p3) c5 c6 ((show t2.1 3 = t.1 3 from congrArg (fun q => q.1.1) c7).trans t3)
        show Call ((f_Keeper_recover_19 s2).bind _) _
        rw [d1, Option.bind_some, if_neg one_ne0]
        exact ⟨1, s', t', d2, d3, d4⟩
      · rw [c1, c2, Option.bind_some, Option.bind_some, if_pos rfl, Option.bind_some, if_pos rfl]
        obtain ⟨r1, r2, r3, r4, r5, r6, r7, r8, r9, -⟩ := c6
        refine ⟨0, s2, t2, rfl, if_pos r1, Or.inr (Or.inr (Or.inr ⟨c3, ⟨?_, r2, ?_, r8⟩, ⟨?_, ?_, ?_, ?_, ?_⟩, ⟨r6, r7, r5⟩, fun k hk' => ?_, fun k hk' => ⟨?_, (r9 k hk').1, (r9 k hk').2⟩⟩))⟩
        · exact (show s2.1 0 = s.1 0 from congrArg (fun q => q.1.1) c4).trans p1
        · exact (show s2.1 12 = s.1 12 from congrArg (fun q => q.1.2.2.2.2.2.2) c4).trans p3
        · exact (show s2.1 7 = s.1 7 from congrArg (fun q => q.1.2.1) c4).trans s7
        · exact (show s2.1 8 = s.1 8 from congrArg (fun q => q.1.2.2.1) c4).trans s8
        · exact (show s2.1 9 = s.1 9 from congrArg (fun q => q.1.2.2.2.1) c4).trans s9
        · exact (show s2.1 10 = s.1 10 from congrArg (fun q => q.1.2.2.2.2.1) c4).trans s10
        · exact (show s2.1 11 = s.1 11 from congrArg (fun q => q.1.2.2.2.2.2.1) c4).trans s11
        · rw [show s2.2 10 = s.2 10 from congrArg (fun q => q.2.2.2.1) c4, show s2.2 9 = s.2 9 from congrArg (fun q => q.2.2.1) c4]
          exact hz k hk'
        · rw [show s2.2 5 = s.2 5 from congrArg (fun q => q.2.1) c4]
          exact (hk k hk').1
  · rw [if_neg h2, if_neg (show ¬ t.1 14 = 2 from fun q => h2 (e1.trans q))]
    exact ⟨0, s, t, rfl, rfl, h⟩
theorem c_load {s t : xS} (x y : Int32) (h : Inv s t) : Call (f_C_load x y s) (f_M_load x y t) := by
  obtain ⟨e1, -, e0, -⟩ := h.st
  have no : Call (f_C_load_14 s) (f_M_load_17 t) := ⟨0, s, t, rfl, rfl, h⟩
  unfold f_C_load f_M_load f_C_isFramWord f_C_isFramWord_15 f_C_isFramWord_16
  by_cases hx : x < 0
  · rw [if_pos hx, if_pos hx, if_pos (show xbl 0 = true by decide), Option.bind_some, if_pos rfl]
    split
    · exact no
    · exact no
  · rw [if_neg hx, if_neg hx]
    obtain ⟨j, hj, rfl⟩ := nI_of hx
    by_cases h128 : 128 ≤ j
    · rw [if_pos (show (128 : Int32) ≤ nI j from nI_le (a := 128) h128 hj), if_pos (show (127 : Int32) < nI j from nI_lt (a := 127) (by omega) hj), if_pos (show xbl 0 = true by decide), Option.bind_some, if_pos rfl]
      split
      · exact no
      · exact no
    · rw [if_neg (show ¬ (128 : Int32) ≤ nI j from nI_ge (b := 128) (by omega) (by omega)), if_neg (show ¬ (127 : Int32) < nI j from nI_nlt (a := 127) (by omega) (by omega)), if_pos (show xbl 1 = true by decide), Option.bind_some, if_neg one_ne0, if_pos (show xin (nI j) 128 = true from xin_nI (by omega) (by omega)), if_pos (show xin (nI j) 128 = true from xin_nI (by omega) (by omega)), nI_c hj]
      by_cases h0 : s.1 0 = 0
      · rw [if_pos h0, if_pos (show t.1 14 = 0 from e1.symm.trans h0)]
        obtain ⟨⟨a1, a2, a3, a4, a5, a6, a7, a8, a9, a10, a11, a12⟩, h2, h3, h4, h5, h6⟩ := e0 h0
        refine ⟨1, _, _, rfl, rfl, Or.inl ⟨⟨fun k hk => ?_, a2, a3, a4, a5, a6, a7, a8, a9, a10, a11, a12⟩, h2, h3, h4, h5, h6⟩⟩
        show upd (s.2 1) j (y &&& 65535) k = upd (t.2 2) j (y &&& 65535) k ∧ wd (upd (t.2 2) j (y &&& 65535) k)
        by_cases hkj : k = j
        · subst hkj
          rw [pk_us, pk_us]
          obtain ⟨n, hn, rfl⟩ := nI_all y
          rw [and_65535 hn]
          exact ⟨rfl, wd_nI (by omega)⟩
        · rw [pk_un hkj, pk_un hkj]
          exact a1 k hk
      · rw [if_neg h0, if_neg (show ¬ t.1 14 = 0 from fun q => h0 (e1.trans q))]
        exact no
theorem c_start {s t : xS} (x : Int32) (h : Inv s t) : Call (f_C_start x s) (f_M_start x t) := by
  obtain ⟨e1, -, e0, -⟩ := h.st
  unfold f_C_start f_M_start f_Keeper_keepVolatile
  by_cases h0 : s.1 0 = 0
  · rw [if_pos h0, if_pos (show t.1 14 = 0 from e1.symm.trans h0), Option.bind_some]
    obtain ⟨n, hn, rfl⟩ := nI_all x
    rw [and_65534 hn]
    obtain ⟨⟨a1, a2, a3, a4, a5, a6, a7, a8, a9, a10, a11, a12⟩, h2, h3, ⟨h4, h5, h6, h7⟩, -, h8⟩ := e0 h0
    have hrg : rg 0 (nI (n % 65536 / 2 * 2)) := ⟨n % 65536 / 2 * 2, by omega, rfl, fun _ => by omega, fun q => by omega, fun q => by omega⟩
    refine ⟨1, _, _, rfl, rfl, Or.inr (Or.inl ⟨⟨a1, a2, a3, a4, a5, fun k hk => ?_, fun k hk => ?_, a8, a9, a10, a11, a12⟩, h2, fun k hk => ?_, ⟨rfl, rfl, h6, h7⟩, fun _ => ⟨rfl, rfl⟩, fun q => absurd q (by decide)⟩)⟩
    · show va_cpy (upd (s.2 10) 0 (nI (n % 65536 / 2 * 2))) (s.2 11) 0 0 16 k = upd (t.2 7) 0 (upd (t.2 0) 0 (nI (n % 65536 / 2 * 2)) 0) k ∧ rg k (upd (t.2 7) 0 (upd (t.2 0) 0 (nI (n % 65536 / 2 * 2)) 0) k)
      rw [va0 hk, pk_us]
      by_cases hk0 : k = 0
      · subst hk0
        rw [pk_us, pk_us]
        exact ⟨rfl, hrg⟩
      · rw [pk_un hk0, pk_un hk0, (h8 rfl k hk).1]
        exact h3 k hk
    · show va_cpy (s.2 9) (s.2 12) 0 0 16 k = t.2 8 k ∧ wd (t.2 8 k)
      rw [va0 hk, (h8 rfl k hk).2]
      exact h2.2.2.2.2.1 k hk
    · show upd (s.2 10) 0 (nI (n % 65536 / 2 * 2)) k = upd (t.2 0) 0 (nI (n % 65536 / 2 * 2)) k ∧ rg k (upd (t.2 0) 0 (nI (n % 65536 / 2 * 2)) k)
      by_cases hk0 : k = 0
      · subst hk0
        rw [pk_us, pk_us]
        exact ⟨rfl, hrg⟩
      · rw [pk_un hk0, pk_un hk0]
        exact h3 k hk
  · rw [if_neg h0, if_neg (show ¬ t.1 14 = 0 from fun q => h0 (e1.trans q))]
    exact ⟨0, s, t, rfl, rfl, h⟩
theorem c_sample {s t : xS} (x : Int32) (h : Inv s t) : Call (f_C_sample x s) (f_M_sample x t) := by
  obtain ⟨a1, a2, a3, ⟨u, v, b1, b2, b3, b4, b5, b6⟩, a5, a6, a7, a8, a9, a10, a11, a12⟩ := h.las
  unfold f_C_sample f_M_sample f_Samples_append
  obtain ⟨n, hn, rfl⟩ := nI_all x
  rw [and_65535 hn, b3, b4, b5]
  by_cases h16 : u = 16
  · subst h16
    rw [if_neg (show ¬ nI 16 < (16 : Int32) from by decide), if_pos (show nI 16 = (16 : Int32) from rfl), Option.bind_some, if_pos (show xbl 0 = true by decide)]
    exact ⟨0, s, t, rfl, rfl, h⟩
  · have er : xrem (nI v + nI u) 16 = nI ((v + u) % 16) := by
      rw [nI_add]
      exact xrem_nI (d := 16) (by omega) (by omega) (by omega)
    rw [if_pos (show nI u < (16 : Int32) from nI_lt (b := 16) (by omega) (by omega)), if_neg (show ¬ nI u = (16 : Int32) from fun q => h16 ((nI_eq (b := 16) (by omega) (by omega)).mp q)), er, if_pos (show xin (nI ((v + u) % 16)) 16 = true from xin_nI (by omega) (by omega)), if_pos (show xin (nI u) 16 = true from xin_nI (by omega) (by omega)), Option.bind_some, if_pos (show xbl 1 = true by decide), nI_c (by omega), nI_c (by omega), nI_1]
    have hl : Las (xsc (xsa s 4 ((v + u) % 16) (nI (n % 65536))) 6 (nI (u + 1))) (xsc (xsa t 13 u (nI (n % 65536))) 12 (nI (u + 1))) := by
      refine ⟨a1, a2, a3, ⟨u + 1, v, by omega, b2, rfl, rfl, b5, fun i hi => ?_⟩, a5, a6, a7, a8, a9, a10, a11, a12⟩
      show upd (s.2 4) ((v + u) % 16) (nI (n % 65536)) ((v + i) % 16) = upd (t.2 13) u (nI (n % 65536)) i ∧ wd (upd (t.2 13) u (nI (n % 65536)) i)
      by_cases hiu : i = u
      · subst hiu
        rw [pk_us, pk_us]
        exact ⟨rfl, wd_nI (by omega)⟩
      · rw [pk_un hiu, pk_un (show (v + i) % 16 ≠ (v + u) % 16 by omega)]
        exact b6 i (by omega)
    refine ⟨1, _, _, rfl, rfl, ?_⟩
    rcases h with ⟨-, h2, h3, h4, h5, h6⟩ | ⟨-, h2, h3, h4, h5, h6⟩ | ⟨-, h2, h3, h4, h5, h6⟩ | ⟨-, h2, h3, h4, h5, h6⟩
    · exact Or.inl ⟨hl, h2, h3, h4, h5, h6⟩
    · exact Or.inr (Or.inl ⟨hl, h2, h3, h4, h5, h6⟩)
    · exact Or.inr (Or.inr (Or.inl ⟨hl, h2, h3, h4, h5, h6⟩))
    · exact Or.inr (Or.inr (Or.inr ⟨hl, h2, h3, h4, h5, h6⟩))
theorem c_failWrite {s t : xS} (x : Int32) (h : Inv s t) : Call (f_C_failWrite x s) (f_M_failWrite x t) := by
  have no : Call ((f_Power_tell_11 s).bind fun q1 => if xbl q1.1 = true then some (q1.1, q1.2) else none) (f_M_failWrite_11 t) := ⟨0, s, t, rfl, rfl, h⟩
  unfold f_C_failWrite f_M_failWrite f_Power_tell
  by_cases hx : x < 0
  · rw [if_pos hx, if_pos hx]
    exact no
  · rw [if_neg hx, if_neg hx]
    by_cases hy : x ≤ 1000
    · obtain ⟨u, hu, rfl⟩ := nI_of2 (M := 1000) (n := 1000) (by decide) hx hy
      rw [if_pos hy, if_pos hy, if_pos (show xin (0 : Int32) 2 = true by decide), Option.bind_some, if_pos (show xbl 1 = true by decide)]
      have hl : Las (xsa s 0 0 (nI u)) (xsc t 16 (nI u)) := by
        obtain ⟨a1, a2, a3, a4, ⟨u', v, b1, b2, b3, b4, b5, b6⟩, a6, a7, a8, a9, a10, a11, a12⟩ := h.las
        exact ⟨a1, a2, a3, a4, ⟨u, v, hu, b2, rfl, rfl, b5, b6⟩, a6, a7, a8, a9, a10, a11, a12⟩
      refine ⟨1, _, _, rfl, rfl, ?_⟩
      show Inv (xsa s 0 0 (nI u)) (xsc t 16 (nI u))
      rcases h with ⟨-, h2, h3, h4, h5, h6⟩ | ⟨-, h2, h3, h4, h5, h6⟩ | ⟨-, h2, h3, h4, h5, h6⟩ | ⟨-, h2, h3, h4, h5, h6⟩
      · exact Or.inl ⟨hl, h2, h3, h4, h5, h6⟩
      · exact Or.inr (Or.inl ⟨hl, h2, h3, h4, h5, h6⟩)
      · exact Or.inr (Or.inr (Or.inl ⟨hl, h2, h3, h4, h5, h6⟩))
      · exact Or.inr (Or.inr (Or.inr ⟨hl, h2, h3, h4, h5, h6⟩))
    · rw [if_neg hy, if_neg hy]
      exact no
theorem c_failStep {s t : xS} (x : Int32) (h : Inv s t) : Call (f_C_failStep x s) (f_M_failStep x t) := by
  have no : Call ((f_Power_tell_11 s).bind fun q1 => if xbl q1.1 = true then some (q1.1, q1.2) else none) (f_M_failStep_11 t) := ⟨0, s, t, rfl, rfl, h⟩
  unfold f_C_failStep f_M_failStep f_Power_tell
  by_cases hx : x < 0
  · rw [if_pos hx, if_pos hx]
    exact no
  · rw [if_neg hx, if_neg hx]
    by_cases hy : x ≤ 1000
    · obtain ⟨u, hu, rfl⟩ := nI_of2 (M := 1000) (n := 1000) (by decide) hx hy
      rw [if_pos hy, if_pos hy, if_pos (show xin (1 : Int32) 2 = true by decide), Option.bind_some, if_pos (show xbl 1 = true by decide)]
      have hl : Las (xsa s 0 1 (nI u)) (xsc t 17 (nI u)) := by
        obtain ⟨a1, a2, a3, a4, ⟨u', v, b1, b2, b3, b4, b5, b6⟩, a6, a7, a8, a9, a10, a11, a12⟩ := h.las
        exact ⟨a1, a2, a3, a4, ⟨u', u, b1, hu, b3, b4, rfl, rfl⟩, a6, a7, a8, a9, a10, a11, a12⟩
      refine ⟨1, _, _, rfl, rfl, ?_⟩
      show Inv (xsa s 0 1 (nI u)) (xsc t 17 (nI u))
      rcases h with ⟨-, h2, h3, h4, h5, h6⟩ | ⟨-, h2, h3, h4, h5, h6⟩ | ⟨-, h2, h3, h4, h5, h6⟩ | ⟨-, h2, h3, h4, h5, h6⟩
      · exact Or.inl ⟨hl, h2, h3, h4, h5, h6⟩
      · exact Or.inr (Or.inl ⟨hl, h2, h3, h4, h5, h6⟩)
      · exact Or.inr (Or.inr (Or.inl ⟨hl, h2, h3, h4, h5, h6⟩))
      · exact Or.inr (Or.inr (Or.inr ⟨hl, h2, h3, h4, h5, h6⟩))
    · rw [if_neg hy, if_neg hy]
      exact no
theorem Call.same {s t : xS} {r r' : Int32} (h : Inv s t) (e : r = r') : Call (some (r, s)) (some (r', t)) := ⟨r, s, t, rfl, by rw [e], h⟩
theorem c_state {s t : xS} (h : Inv s t) : Call (f_C_state s) (f_M_state t) := Call.same h h.st.1
theorem c_waiting {s t : xS} (h : Inv s t) : Call (f_C_waiting s) (f_M_waiting t) := by
  obtain ⟨-, -, -, ⟨u, v, b1, b2, b3, b4, -⟩, -⟩ := h.las
  exact Call.same h (b3.trans b4.symm)
theorem c_writes {s t : xS} (h : Inv s t) : Call (f_C_writes s) (f_M_writes t) := Call.same h h.las.2.2.2.2.2.2.2.2.2.2.2
theorem c_flips {s t : xS} (h : Inv s t) : Call (f_C_flips s) (f_M_flips t) := Call.same h h.las.2.2.2.2.2.2.2.2.2.2.1
theorem c_retired {s t : xS} (h : Inv s t) : Call (f_C_retired s) (f_M_retired t) := Call.same h (by rw [h.las.2.2.2.2.2.2.2.2.2.1, h.vol.2.2.2])
theorem c_section {s t : xS} (h : Inv s t) : Call (f_C_section s) (f_M_section t) := by
  obtain ⟨⟨n, -, n1, n2, -⟩, ⟨v4, v4'⟩, q, -⟩ := h.vol
  obtain ⟨-, ⟨j, -, j1, j2, -⟩, -⟩ := h.las
  unfold f_C_section f_M_section
  rw [tracked_ok t (fun k hk => (v4 k hk).2), Option.bind_some]
  refine Call.same h ?_
  show _ = nI (ct (t.2 3) 128) + 32 * t.1 0 + 256 * t.1 1 + 2048 * t.1 11
  rw [v4', n1, n2, q, j1, j2]
theorem c_register {s t : xS} (x : Int32) (h : Inv s t) : Call (f_C_register x s) (f_M_register x t) := by
  have no : Call (f_C_register_10 s) (f_M_register_18 t) := Call.same h rfl
  unfold f_C_register f_M_register
  by_cases hx : x < 0
  · rw [if_pos hx, if_pos hx]
    exact no
  · rw [if_neg hx, if_neg hx]
    obtain ⟨j, hj, rfl⟩ := nI_of hx
    by_cases h16 : j < 16
    · rw [if_pos (show nI j < 16 from nI_lt (b := 16) h16 (by omega)), if_neg (show ¬ (15 : Int32) < nI j from nI_nlt (a := 15) (by omega) (by omega)), if_pos (show xin (nI j) 16 = true from xin_nI h16 (by omega)), if_pos (show xin (nI j) 16 = true from xin_nI h16 (by omega)), nI_c hj]
      have e := (h.reg j h16).1
      by_cases h2 : t.1 14 = 2
      · rw [if_pos h2] at e ⊢
        exact Call.same h e
      · rw [if_neg h2] at e ⊢
        exact Call.same h e
    · rw [if_neg (show ¬ nI j < 16 from nI_nlt (b := 16) (by omega) hj), if_pos (show (15 : Int32) < nI j from nI_lt (a := 15) (by omega) hj)]
      exact no
theorem c_memory {s t : xS} (x : Int32) (h : Inv s t) : Call (f_C_memory x s) (f_M_memory x t) := by
  unfold f_C_memory f_M_memory f_Bus_peek
  rcases adr x with ⟨k, hk, hx, a1, a2, a3, a4, a5, a6⟩ | ⟨k, hk, hx, a1, a2, a3, a4, a5, a6⟩ | ⟨a1, a2, a3, a4⟩
  · have hw : k / 2 < 128 := by omega
    have hB := h.vol.1
    rw [a1, a2, Option.bind_some, Option.bind_some, if_neg one_ne0, if_neg one_ne0, a5, a6, Option.bind_some, if_pos (show xin (nI (k / 2)) 128 = true from xin_nI hw (by omega)), nI_c (by omega), valueOf_ok (by omega) hw hB, framNow_ok (by omega) hw hB, (h.las.1 (k / 2) hw).1]
    exact Call.same h rfl
  · have hw : k / 2 < 16 := by omega
    have e := (h.reg (k / 2) hw).2
    rw [a1, a2, Option.bind_some, Option.bind_some, if_pos rfl, if_pos rfl, a3, a4, Option.bind_some, Option.bind_some, if_neg one_ne0, if_neg one_ne0, a5, a6, Option.bind_some, if_pos (show xin (nI (k / 2)) 16 = true from xin_nI hw (by omega)), if_pos (show xin (nI (k / 2)) 16 = true from xin_nI hw (by omega)), nI_c (by omega)]
    by_cases h2 : t.1 14 = 2
    · rw [if_pos h2] at e ⊢
      exact Call.same h e
    · rw [if_neg h2] at e ⊢
      exact Call.same h e
  · rw [a1, a3, Option.bind_some, Option.bind_some, if_pos rfl, if_pos rfl, a2, a4, Option.bind_some, Option.bind_some, if_pos rfl, if_pos rfl]
    exact Call.same h rfl
theorem c_fram {s t : xS} (x : Int32) (h : Inv s t) : Call (f_C_fram x s) (f_M_fram x t) := by
  have no : Call (f_C_fram_20 0 s) (f_M_fram_10 t) := Call.same h rfl
  unfold f_C_fram f_M_fram f_C_isFramWord f_C_isFramWord_15 f_C_isFramWord_16
  by_cases hx : x < 0
  · rw [if_pos hx, if_pos hx, if_pos (show xbl 0 = true by decide), Option.bind_some, if_pos rfl]
    exact no
  · rw [if_neg hx, if_neg hx]
    obtain ⟨j, hj, rfl⟩ := nI_of hx
    by_cases h128 : 128 ≤ j
    · rw [if_pos (show (128 : Int32) ≤ nI j from nI_le (a := 128) h128 hj), if_neg (show ¬ nI j ≤ (127 : Int32) from nI_ge (a := 127) (by omega) hj), if_pos (show xbl 0 = true by decide), Option.bind_some, if_pos rfl]
      exact no
    · rw [if_neg (show ¬ (128 : Int32) ≤ nI j from nI_ge (b := 128) (by omega) (by omega)), if_pos (show nI j ≤ (127 : Int32) from nI_le (b := 127) (by omega) (by omega)), if_pos (show xbl 1 = true by decide), Option.bind_some, if_neg one_ne0, if_pos (show xin (nI j) 128 = true from xin_nI (by omega) (by omega)), if_pos (show xin (nI j) 128 = true from xin_nI (by omega) (by omega)), nI_c hj]
      exact Call.same h (h.las.1 j (by omega)).1
theorem c_radio {s t : xS} (x : Int32) (h : Inv s t) : Call (f_C_radio x s) (f_M_radio x t) := by
  have no : Call (f_C_radio_28 s) (f_M_radio_24 t) := Call.same h rfl
  obtain ⟨-, -, ⟨u, v, z, b1, b2, b3, b4, b5, b6, b7, b8, b9, b10, -⟩, -⟩ := h.las
  unfold f_C_radio f_M_radio
  by_cases h1 : x = -1
  · rw [if_pos h1, if_pos h1]
    exact Call.same h (b4.trans b5.symm)
  · rw [if_neg h1, if_neg h1]
    by_cases hx : x < 0
    · rw [if_pos hx, if_pos hx]
      exact no
    · rw [if_neg hx, if_neg hx, b4, b5]
      obtain ⟨j, hj, rfl⟩ := nI_of hx
      by_cases hu : j < u
      · rw [if_pos (show nI j < nI u from nI_lt hu (by omega)), if_pos (show nI j < nI u from nI_lt hu (by omega)), if_pos (show xin (nI j) 200 = true from xin_nI (by omega) (by omega)), if_pos (show xin (nI j) 200 = true from xin_nI (by omega) (by omega)), nI_c hj]
        exact Call.same h (b10 j hu)
      · rw [if_neg (show ¬ nI j < nI u from nI_nlt (by omega) hj), if_neg (show ¬ nI j < nI u from nI_nlt (by omega) hj)]
        exact no
