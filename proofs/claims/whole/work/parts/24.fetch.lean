theorem upd_self (f : Nat → Int32) (k : Nat) : upd f k (f k) = f := by
  funext j
  unfold upd
  split
  · next h => rw [h]
  · rfl
theorem xsa_self (t : xS) (n k : Nat) : xsa t n k (t.2 n k) = t := by
  rw [xsa_def, upd_self, xsf_self]
/-- a load of FRAM is noted -/
theorem p_note {m b w : Nat} {s t : xS} (hw : w < 128) (h : On m b s t) : ∃ s1 t1 : xS, f_Section_noteLoad (nI w) s = some s1 ∧ (∀ x : Int32, (x - 1024) / 2 = nI w → f_M_inFram x = some 1 → f_M_plain x t = (f_M_framNow (nI w) t1).bind fun q => some (q.1, q.2)) ∧ On m b s1 t1 ∧ Fc s s1 ∧ Ft t t1 ∧ s1.2 1 = s.2 1 ∧ t1.2 2 = t.2 2 ∧ t1.2 4 = t.2 4 ∧ t1.2 5 = t.2 5 := by
  obtain ⟨hl, ⟨v1, v2, v3, ⟨k1, k2⟩, v5, v6⟩, ⟨p1, p2, p3, p4⟩, q1, q2⟩ := h
  have e := xin_nI hw (N := 128) (by omega)
  have ec := nI_c (n := w) (by omega)
  have e15 : ¬ t.1 15 = 0 := by rw [p4]; decide
  obtain ⟨c1, c2⟩ := k1 w hw
  by_cases h0 : t.2 3 w = 0
  · refine ⟨xsc (xsa s 5 w 1) 7 (s.1 7 + 1), xsa t 3 w 1, ?_, ?_, ⟨hl, ⟨v1, v2, v3, ⟨fun k hk => ?_, ?_⟩, v5, v6⟩, ⟨p1, p2, p3, p4⟩, q1, q2⟩, ⟨rfl, rfl, rfl, rfl, rfl, rfl⟩, ⟨rfl, rfl, rfl⟩, rfl, rfl, rfl, rfl⟩
    · unfold f_Section_noteLoad f_Section_noteLoad_26
      rw [if_pos e, if_pos e, ec, if_pos (c1.trans h0)]
    · intro x hx hf
      unfold f_M_plain
      rw [hf, hx]
      simp only [Option.bind_some]
      rw [if_neg (by decide), if_neg e15, if_pos e, ec, if_pos h0]
      unfold f_M_plain_46
      rw [if_pos e, ec]
    · show upd (s.2 5) w 1 k = upd (t.2 3) w 1 k ∧ _
      by_cases hk' : k = w
      · subst hk'
        show upd (s.2 5) k 1 k = upd (t.2 3) k 1 k ∧ (upd (t.2 3) k 1 k = 0 ∨ upd (t.2 3) k 1 k = 1 ∨ upd (t.2 3) k 1 k = 2)
        rw [pk_us, pk_us]
        exact ⟨rfl, Or.inr (Or.inl rfl)⟩
      · show upd (s.2 5) w 1 k = upd (t.2 3) w 1 k ∧ (upd (t.2 3) w 1 k = 0 ∨ upd (t.2 3) w 1 k = 1 ∨ upd (t.2 3) w 1 k = 2)
        rw [pk_un hk', pk_un hk']
        exact k1 k hk
    · show s.1 7 + 1 = nI (ct (upd (t.2 3) w 1) 128)
      rw [ct_upd h0 (by decide) 128 hw, k2, nI_1]
  · refine ⟨s, t, ?_, ?_, ⟨hl, ⟨v1, v2, v3, ⟨k1, k2⟩, v5, v6⟩, ⟨p1, p2, p3, p4⟩, q1, q2⟩, Fc.rf s, Ft.rf t, rfl, rfl, rfl, rfl⟩
    · unfold f_Section_noteLoad f_Section_noteLoad_26
      rw [if_pos e, ec, if_neg (by rw [c1]; exact h0)]
    · intro x hx hf
      unfold f_M_plain
      rw [hf, hx]
      simp only [Option.bind_some]
      rw [if_neg (by decide), if_neg e15, if_pos e, ec, if_neg h0]
      unfold f_M_plain_40 f_M_plain_46
      rw [if_pos e, if_pos e, ec, xsa_self]
theorem p_fetch {m b : Nat} {s t : xS} (hb : b ≤ 4) (h : On m b s t) (x : Int32) : ∃ (v : Int32) (s1 t1 : xS), f_Bus_fetchWord x s = some (v, s1) ∧ f_M_plain x t = some (v, t1) ∧ wd v ∧ On m b s1 t1 ∧ Fc s s1 ∧ Ft t t1 := by
  rcases adr x with ⟨k, hk, hx, a1, a2, a3, a4, a5, a6⟩ | ⟨k, hk, hx, a1, a2, a3, a4, a5, a6⟩ | ⟨a1, a2, a3, a4⟩
  · have hw : k / 2 < 128 := by omega
    obtain ⟨s1, t1, c1, c2, c3, c4, c5, c6, c7⟩ := p_note hw h
    have e := xin_nI hw (N := 128) (by omega)
    have ec := nI_c (n := k / 2) (by omega)
    have hB := c3.2.1.2.2.1
    have hF := c3.1.1
    refine ⟨if t1.2 4 (k / 2) = 0 then t1.2 2 (k / 2) else t1.2 5 (k / 2), s1, t1, ?_, ?_, ?_, c3, c4, c5⟩
    · unfold f_Bus_fetchWord
      rw [a1, a5]
      simp only [Option.bind_some]
      rw [if_neg (by decide), c1]
      simp only [Option.bind_some]
      rw [if_pos e, ec, valueOf_ok hb hw hB, (hF (k / 2) hw).1]
      rfl
    · rw [c2 x a6 a2, framNow_ok hb hw hB]
      rfl
    · split
      · exact (hF (k / 2) hw).2
      · next q =>
        rcases hB.held hb hw with z | ⟨-, -, z⟩
        · exact absurd z q
        · exact z
  · have hw : k / 2 < 16 := by omega
    have e := xin_nI hw (N := 16) (by omega)
    have ec := nI_c (n := k / 2) (by omega)
    obtain ⟨c1, c2⟩ := h.2.1.2.2.2.2.1 (k / 2) hw
    refine ⟨t.2 1 (k / 2), s, t, ?_, ?_, c2, h, Fc.rf s, Ft.rf t⟩
    · unfold f_Bus_fetchWord f_Bus_fetchWord_27
      rw [a1, Option.bind_some, if_pos rfl, a3, Option.bind_some, if_neg (by decide), a5, Option.bind_some, if_pos e, ec, c1]
    · unfold f_M_plain f_M_plain_76
      rw [a2, Option.bind_some, if_pos rfl, a4, Option.bind_some, if_neg (by decide), a6, if_pos e, ec]
  · refine ⟨0, s, t, ?_, ?_, wd0, h, Fc.rf s, Ft.rf t⟩
    · unfold f_Bus_fetchWord f_Bus_fetchWord_27
      rw [a1, a2]
      rfl
    · unfold f_M_plain f_M_plain_76
      rw [a3, a4]
      rfl
-- the same with the power gone, each by itself
theorem valueOf_any {x y : Int32} {s : xS} {n : Nat} (hn : n ≤ 4) (h1 : s.1 10 = nI n) : ∀ (fuel i : Nat), i ≤ n → n - i < fuel → ∃ v : Int32, f_Held_valueOf_2 fuel x y (nI i) s = some (v, s) := by
  intro fuel
  induction fuel with
  | zero => intro i _ h; omega
  | succ fuel ih =>
    intro i hi hf
    unfold f_Held_valueOf_2
    rw [h1]
    by_cases hin : i = n
    · rw [if_pos (nI_le (by omega) (by omega))]
      exact ⟨y, rfl⟩
    · rw [if_neg (nI_ge (by omega) (by omega)), if_pos (xin_nI (by omega) (by omega)), nI_c (by omega)]
      split
      · rw [if_pos (xin_nI (by omega) (by omega))]
        exact ⟨_, rfl⟩
      · rw [nI_1]
        exact ih (i + 1) (by omega) (by omega)
theorem c_value {c : Nat} {x y : Int32} {s : xS} (h : CG c s) : ∃ v : Int32, f_Held_valueOf x y s = some (v, s) := by
  obtain ⟨-, -, -, -, -, ⟨n, h1, h2⟩, -⟩ := h
  exact valueOf_any h1 h2 1000 0 (by omega) (by omega)
theorem c_note {c w : Nat} {s : xS} (hw : w < 128) (h : CG c s) : ∃ s1 : xS, f_Section_noteLoad (nI w) s = some s1 ∧ CG c s1 ∧ LC s s1 ∧ Fc s s1 := by
  have e := xin_nI hw (N := 128) (by omega)
  have ec := nI_c (n := w) (by omega)
  unfold f_Section_noteLoad f_Section_noteLoad_26
  rw [if_pos e, if_pos e, ec]
  split
  · exact ⟨_, rfl, h, LC.rf s, Fc.rf s⟩
  · exact ⟨_, rfl, h, LC.rf s, Fc.rf s⟩
theorem c_fetch {c : Nat} {s : xS} (h : CG c s) (x : Int32) : ∃ (v : Int32) (s1 : xS), f_Bus_fetchWord x s = some (v, s1) ∧ CG c s1 ∧ LC s s1 ∧ Fc s s1 := by
  rcases adr x with ⟨k, hk, hx, a1, a2, a3, a4, a5, a6⟩ | ⟨k, hk, hx, a1, a2, a3, a4, a5, a6⟩ | ⟨a1, a2, a3, a4⟩
  · have hw : k / 2 < 128 := by omega
    have e := xin_nI hw (N := 128) (by omega)
    obtain ⟨s1, c1, c2, c3, c4⟩ := c_note hw h
    obtain ⟨v, d1⟩ := c_value (x := nI (k / 2)) (y := s1.2 1 (nI (k / 2)).toNatClampNeg) c2
    refine ⟨v, s1, ?_, c2, c3, c4⟩
    unfold f_Bus_fetchWord
    rw [a1, a5]
    simp only [Option.bind_some]
    rw [if_neg (by decide), c1]
    simp only [Option.bind_some]
    rw [if_pos e, d1]
    rfl
  · have hw : k / 2 < 16 := by omega
    have e := xin_nI hw (N := 16) (by omega)
    refine ⟨s.2 9 (nI (k / 2)).toNatClampNeg, s, ?_, h, LC.rf s, Fc.rf s⟩
    unfold f_Bus_fetchWord f_Bus_fetchWord_27
    rw [a1, Option.bind_some, if_pos rfl, a3, Option.bind_some, if_neg (by decide), a5, Option.bind_some, if_pos e]
  · refine ⟨0, s, ?_, h, LC.rf s, Fc.rf s⟩
    unfold f_Bus_fetchWord f_Bus_fetchWord_27
    rw [a1, a2]
    rfl
theorem r_plain {c : Nat} {t : xS} (h : RG c t) (x : Int32) : ∃ (v : Int32), f_M_plain x t = some (v, t) := by
  rcases adr x with ⟨k, hk, hx, a1, a2, a3, a4, a5, a6⟩ | ⟨k, hk, hx, a1, a2, a3, a4, a5, a6⟩ | ⟨a1, a2, a3, a4⟩
  · have hw : k / 2 < 128 := by omega
    have e := xin_nI hw (N := 128) (by omega)
    have ec := nI_c (n := k / 2) (by omega)
    refine ⟨t.2 2 (k / 2), ?_⟩
    unfold f_M_plain
    rw [a2, a6]
    simp only [Option.bind_some]
    rw [if_neg (by decide), if_pos h.1]
    unfold f_M_plain_40 f_M_plain_46 f_M_framNow f_M_framNow_24
    rw [if_pos e, if_pos e, ec, xsa_self, if_pos e, if_pos (by rw [(h.2.2.2.2.2.2.2.2.1 (k / 2) hw).2]; decide), if_pos e]
    rfl
  · have hw : k / 2 < 16 := by omega
    have e := xin_nI hw (N := 16) (by omega)
    refine ⟨t.2 1 (k / 2), ?_⟩
    unfold f_M_plain f_M_plain_76
    rw [a2, Option.bind_some, if_pos rfl, a4, Option.bind_some, if_neg (by decide), a6, if_pos e, nI_c (by omega)]
  · refine ⟨0, ?_⟩
    unfold f_M_plain f_M_plain_76
    rw [a3, a4]
    rfl
