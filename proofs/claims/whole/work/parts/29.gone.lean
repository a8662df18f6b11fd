-- stores with the power gone
theorem r_store {c : Nat} {t : xS} (h : RG c t) (x v y : Int32) : f_M_store x v y t = some t := by
  unfold f_M_store
  rw [if_pos h.1]
theorem c_peek {c : Nat} {s : xS} (h : CG c s) (x : Int32) : ∃ v : Int32, f_Bus_peek x s = some (v, s) := by
  rcases adr x with ⟨k, hk, hx, a1, a2, a3, a4, a5, a6⟩ | ⟨k, hk, hx, a1, a2, a3, a4, a5, a6⟩ | ⟨a1, a2, a3, a4⟩
  · have hw : k / 2 < 128 := by omega
    have e := xin_nI hw (N := 128) (by omega)
    obtain ⟨v, d1⟩ := c_value (x := nI (k / 2)) (y := s.2 1 (nI (k / 2)).toNatClampNeg) h
    refine ⟨v, ?_⟩
    unfold f_Bus_peek
    rw [a1, Option.bind_some, if_neg one_ne0, a5, Option.bind_some, if_pos e, d1]
    rfl
  · have hw : k / 2 < 16 := by omega
    have e := xin_nI hw (N := 16) (by omega)
    refine ⟨s.2 9 (nI (k / 2)).toNatClampNeg, ?_⟩
    unfold f_Bus_peek f_Bus_peek_27
    rw [a1, Option.bind_some, if_pos rfl, a3, Option.bind_some, if_neg one_ne0, a5, Option.bind_some, if_pos e]
  · refine ⟨0, ?_⟩
    unfold f_Bus_peek f_Bus_peek_27
    rw [a1, Option.bind_some, if_pos rfl, a2, Option.bind_some, if_pos rfl]
theorem hold_any {x v : Int32} {s : xS} {n : Nat} (hn : n ≤ 4) (h1 : s.1 10 = nI n) : ∀ (fuel i : Nat), i ≤ n → n - i < fuel → ∃ k, k ≤ n ∧ f_Held_holdWord_2 fuel x v (nI i) s = f_Held_holdWord_26 x v (nI k) s := by
  intro fuel
  induction fuel with
  | zero => intro i _ h; omega
  | succ fuel ih =>
    intro i hi hf
    unfold f_Held_holdWord_2
    rw [h1]
    by_cases hin : i = n
    · rw [if_pos (nI_le (by omega) (by omega))]
      exact ⟨i, hi, rfl⟩
    · rw [if_neg (nI_ge (by omega) (by omega)), if_pos (xin_nI (by omega) (by omega)), nI_c (by omega)]
      split
      · exact ⟨i, hi, rfl⟩
      · rw [nI_1]
        exact ih (i + 1) (by omega) (by omega)
theorem c_hold {c : Nat} {x v : Int32} {s : xS} (h : CG c s) : ∃ s1 : xS, f_Held_holdWord x v s = some s1 ∧ CG c s1 ∧ LC s s1 ∧ Fc s s1 := by
  obtain ⟨h1, h2, h3, h4, h5, ⟨n, h6, h7⟩, h8⟩ := h
  obtain ⟨k, hk, e⟩ := hold_any (x := x) (v := v) h6 h7 1000 0 (by omega) (by omega)
  have e : f_Held_holdWord x v s = f_Held_holdWord_26 x v (nI k) s := e
  rw [e]
  unfold f_Held_holdWord_26 f_Held_holdWord_59
  by_cases h4k : k < 4
  · rw [if_neg (show ¬ (4 : Int32) ≤ nI k from nI_ge (b := 4) h4k (by omega)), if_pos (xin_nI h4k (by omega)), if_pos (xin_nI h4k (by omega)), h7, nI_1]
    refine ⟨_, rfl, ⟨h1, h2, h3, h4, h5, ?_, h8⟩, LC.rf s, Fc.rf s⟩
    by_cases hl : n < k + 1
    · exact ⟨k + 1, by omega, if_pos (nI_lt hl (by omega))⟩
    · exact ⟨n, h6, if_neg (nI_nlt (by omega) (by omega))⟩
  · rw [if_pos (show (4 : Int32) ≤ nI k from nI_le (a := 4) (by omega) (by omega))]
    exact ⟨s, rfl, ⟨h1, h2, h3, h4, h5, ⟨n, h6, h7⟩, h8⟩, LC.rf s, Fc.rf s⟩
theorem c_storeFram {c w : Nat} {v : Int32} {s : xS} (hw : w < 128) (h : CG c s) : ∃ s1 : xS, f_Bus_storeFram (nI w) v s = some s1 ∧ CG c s1 ∧ LC s s1 ∧ Fc s s1 := by
  have e := xin_nI hw (N := 128) (by omega)
  have hnote : ∃ (r : Int32) (s1 : xS), f_Section_noteStore (nI w) s = some (r, s1) ∧ CG c s1 ∧ LC s s1 ∧ Fc s s1 := by
    have key : ∀ s1 : xS, ∃ r : Int32, f_Section_noteStore_26 (nI w) s1 = some (r, s1) := by
      intro s1
      unfold f_Section_noteStore_26 f_Section_noteStore_41
      rw [if_pos e]
      split
      · rw [if_pos (by decide)]; exact ⟨_, rfl⟩
      · rw [if_pos (by decide)]; exact ⟨_, rfl⟩
    unfold f_Section_noteStore
    rw [if_pos e]
    split
    · obtain ⟨r, d⟩ := key (xsc (xsa s 5 (nI w).toNatClampNeg 2) 7 (s.1 7 + 1))
      exact ⟨r, _, d, h, LC.rf s, Fc.rf s⟩
    · obtain ⟨r, d⟩ := key s
      exact ⟨r, _, d, h, LC.rf s, Fc.rf s⟩
  obtain ⟨r, s1, c1, c2, c3, c4⟩ := hnote
  unfold f_Bus_storeFram f_Bus_storeFram_47
  rw [c1, Option.bind_some]
  split
  · rw [allows_gone 0 c2.2.1, Option.bind_some, if_pos rfl]
    exact ⟨s1, rfl, c2, c3, c4⟩
  · obtain ⟨s2, d1, d2, d3, d4⟩ := c_hold (x := nI w) (v := v) c2
    rw [d1]
    exact ⟨s2, rfl, d2, c3.tr d3, c4.tr d4⟩
theorem c_dev {c : Nat} {x v : Int32} {s : xS} (h : CG c s) : ∃ s1 : xS, f_Bus_storeDevice x v s = some s1 ∧ CG c s1 ∧ LC s s1 ∧ Fc s s1 := by
  have h40 : ∃ s1 : xS, f_Bus_storeDevice_40 x s = some s1 ∧ CG c s1 ∧ LC s s1 ∧ Fc s s1 := by
    unfold f_Bus_storeDevice_40 f_Bus_storeDevice_51
    split
    · obtain ⟨h1, h2, h3, h4, h5, h6⟩ := h
      exact ⟨_, rfl, ⟨h1, h2, h3, h4, (show xbl 1 = true by decide), h6⟩, LC.rf s, Fc.rf s⟩
    · exact ⟨_, rfl, h, LC.rf s, Fc.rf s⟩
  unfold f_Bus_storeDevice
  split
  · have hr : f_Lasting_hasRoomFor (s.1 11) s = some (0, s) ∨ f_Lasting_hasRoomFor (s.1 11) s = some (1, s) := by
      unfold f_Lasting_hasRoomFor f_Lasting_hasRoomFor_17
      split
      · rw [if_pos (by decide)]; exact Or.inl rfl
      · rw [if_pos (by decide)]; exact Or.inr rfl
    rcases hr with q | q
    · rw [q, Option.bind_some, if_pos rfl]
      exact h40
    · rw [q, Option.bind_some, if_neg one_ne0]
      obtain ⟨h1, h2, h3, h4, h5, h6, ⟨n, h7, h8⟩, h9⟩ := h
      unfold f_Held_holdRecord f_Held_holdRecord_28 f_Bus_storeDevice_51
      rw [show ((1, s) : Int32 × xS).2.1 11 = nI n from h8]
      by_cases hn : n < 4
      · rw [if_neg (show ¬ (4 : Int32) ≤ nI n from nI_ge (b := 4) hn (by omega)), if_pos (xin_nI hn (by omega)), nI_1]
        exact ⟨_, rfl, ⟨h1, h2, h3, h4, h5, h6, ⟨n + 1, by omega, rfl⟩, h9⟩, LC.rf s, Fc.rf s⟩
      · rw [if_pos (show (4 : Int32) ≤ nI n from nI_le (a := 4) (by omega) (by omega))]
        exact ⟨s, rfl, ⟨h1, h2, h3, h4, h5, h6, ⟨n, h7, h8⟩, h9⟩, LC.rf s, Fc.rf s⟩
  · exact h40
theorem c_write {c : Nat} {x v y : Int32} {s : xS} (h : CG c s) : ∃ s1 : xS, f_Bus_write x v y s = some s1 ∧ CG c s1 ∧ LC s s1 ∧ Fc s s1 := by
  have key : ∀ z : Int32, ∃ s1 : xS, f_Bus_write_18 x v y z s = some s1 ∧ CG c s1 ∧ LC s s1 ∧ Fc s s1 := by
    intro z
    unfold f_Bus_write_18 f_Bus_write_63 f_Bus_write_85
    rcases adr x with ⟨k, hk, hx, a1, a2, a3, a4, a5, a6⟩ | ⟨k, hk, hx, a1, a2, a3, a4, a5, a6⟩ | ⟨a1, a2, a3, a4⟩
    · have hw : k / 2 < 128 := by omega
      rw [a3, Option.bind_some, if_pos rfl, a1, Option.bind_some, if_neg one_ne0, a5]
      split
      · obtain ⟨s1, d1, d2⟩ := c_storeFram (v := z) hw h
        rw [Option.bind_some, d1]
        exact ⟨s1, rfl, d2⟩
      · obtain ⟨s1, d1, d2, d3, d4⟩ := c_note hw h
        obtain ⟨s2, f1, f2, f3, f4⟩ := c_storeFram (v := z) hw d2
        rw [Option.bind_some, d1, Option.bind_some, Option.bind_some, f1]
        exact ⟨s2, rfl, f2, d3.tr f3, d4.tr f4⟩
    · have hw : k / 2 < 16 := by omega
      rw [a3, Option.bind_some, if_neg one_ne0, a5, Option.bind_some, if_pos (xin_nI hw (by omega))]
      exact ⟨_, rfl, h, LC.rf s, Fc.rf s⟩
    · rw [a2, Option.bind_some, if_pos rfl, a1, Option.bind_some, if_pos rfl]
      obtain ⟨s1, d1, d2⟩ := c_dev (x := x &&& 65534) (v := v) h
      rw [d1]
      exact ⟨s1, rfl, d2⟩
  unfold f_Bus_write
  split
  · exact key v
  · obtain ⟨u, d1⟩ := c_peek h x
    have hwb : ∃ r, f_Bus_withByte u x v = some r := by
      unfold f_Bus_withByte f_Bus_withByte_26
      split <;> exact ⟨_, rfl⟩
    obtain ⟨r, d2⟩ := hwb
    rw [d1, Option.bind_some, d2, Option.bind_some]
    exact key r
