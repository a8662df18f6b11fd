theorem p_peek {m b : Nat} {s t : xS} (hb : b ≤ 4) (h : On m b s t) (x : Int32) : ∃ v : Int32, f_Bus_peek x s = some (v, s) ∧ wd v ∧ (∀ k, k < 256 → x = nI (1024 + k) → v = if t.2 4 (k / 2) = 0 then t.2 2 (k / 2) else t.2 5 (k / 2)) ∧ (∀ k, k < 32 → x = nI (512 + k) → v = t.2 1 (k / 2)) := by
  rcases adr x with ⟨k, hk, hx, a1, a2, a3, a4, a5, a6⟩ | ⟨k, hk, hx, a1, a2, a3, a4, a5, a6⟩ | ⟨a1, a2, a3, a4⟩
  · have hw : k / 2 < 128 := by omega
    have e := xin_nI hw (N := 128) (by omega)
    have ec := nI_c (n := k / 2) (by omega)
    have hB := h.2.1.2.2.1
    have hF := h.1.1
    refine ⟨if t.2 4 (k / 2) = 0 then t.2 2 (k / 2) else t.2 5 (k / 2), ?_, ?_, fun k' hk' hx' => ?_, fun k' hk' hx' => ?_⟩
    · unfold f_Bus_peek
      rw [a1, Option.bind_some, if_neg one_ne0, a5, Option.bind_some, if_pos e, ec, valueOf_ok hb hw hB, (hF (k / 2) hw).1]
      rfl
    · split
      · exact (hF (k / 2) hw).2
      · next q =>
        rcases hB.held hb hw with z | ⟨-, -, z⟩
        · exact absurd z q
        · exact z
    · have : 1024 + k = 1024 + k' := (nI_eq (by omega) (by omega)).mp (hx.symm.trans hx')
      rw [show k' = k by omega]
    · have : 1024 + k = 512 + k' := (nI_eq (by omega) (by omega)).mp (hx.symm.trans hx')
      omega
  · have hw : k / 2 < 16 := by omega
    have e := xin_nI hw (N := 16) (by omega)
    have ec := nI_c (n := k / 2) (by omega)
    obtain ⟨c1, c2⟩ := h.2.1.2.2.2.2.1 (k / 2) hw
    refine ⟨t.2 1 (k / 2), ?_, c2, fun k' hk' hx' => ?_, fun k' hk' hx' => ?_⟩
    · unfold f_Bus_peek f_Bus_peek_27
      rw [a1, Option.bind_some, if_pos rfl, a3, Option.bind_some, if_neg one_ne0, a5, Option.bind_some, if_pos e, ec, c1]
    · have : 512 + k = 1024 + k' := (nI_eq (by omega) (by omega)).mp (hx.symm.trans hx')
      omega
    · have : 512 + k = 512 + k' := (nI_eq (by omega) (by omega)).mp (hx.symm.trans hx')
      rw [show k' = k by omega]
  · refine ⟨0, ?_, wd0, fun k hk hx => ?_, fun k hk hx => ?_⟩
    · unfold f_Bus_peek f_Bus_peek_27
      rw [a1, Option.bind_some, if_pos rfl, a2, Option.bind_some, if_pos rfl]
    · rw [hx, (inFram_nI (by omega)).1, if_pos (by omega)] at a1
      exact absurd a1 (by decide)
    · rw [hx, (inSram_nI (by omega)).1, if_pos (by omega)] at a2
      exact absurd a2 (by decide)
theorem dev {n : Nat} (hn : n < 65536) : (nI n &&& 65534 = 18 ↔ (n = 18 ∨ n = 19)) ∧ (nI n &&& 65534 = 20 ↔ (n = 20 ∨ n = 21)) := by
  rw [and_65534 (by omega)]
  have e1 := nI_eq (a := n % 65536 / 2 * 2) (b := 18) (by omega) (by omega)
  have e2 := nI_eq (a := n % 65536 / 2 * 2) (b := 20) (by omega) (by omega)
  refine ⟨⟨fun h => ?_, fun h => e1.mpr (by omega)⟩, ⟨fun h => ?_, fun h => e2.mpr (by omega)⟩⟩
  · have := e1.mp h; omega
  · have := e2.mp h; omega
/-- a store to a device -/
theorem p_dev {m b n : Nat} {v : Int32} {s t : xS} (hb : b ≤ 3) (hn : n < 65536) (h : On m b s t) : ∃ s1 t1 : xS, f_Bus_storeDevice (nI n &&& 65534) v s = some s1 ∧
    (if nI n = 18 then (f_M_store_107 v t) else (if nI n = 19 then (f_M_store_107 v t) else (if nI n = 20 then (f_M_store_157 t) else (if nI n = 21 then (f_M_store_157 t) else (f_M_store_162 t))))) = some t1 ∧ On m (b + 1) s1 t1 ∧ Fc s s1 ∧ Ft t t1 := by
  obtain ⟨d1, d2⟩ := dev hn
  have n18 : nI n = 18 ↔ n = 18 := nI_eq (a := n) (b := 18) (by omega) (by omega)
  have n19 : nI n = 19 ↔ n = 19 := nI_eq (a := n) (b := 19) (by omega) (by omega)
  have n20 : nI n = 20 ↔ n = 20 := nI_eq (a := n) (b := 20) (by omega) (by omega)
  have n21 : nI n = 21 ↔ n = 21 := nI_eq (a := n) (b := 21) (by omega) (by omega)
  by_cases h18 : n = 18 ∨ n = 19
  · have hR : (if nI n = 18 then (f_M_store_107 v t) else (if nI n = 19 then (f_M_store_107 v t) else (if nI n = 20 then (f_M_store_157 t) else (if nI n = 21 then (f_M_store_157 t) else (f_M_store_162 t))))) = f_M_store_107 v t := by
      rcases h18 with z | z
      · rw [if_pos (n18.mpr z)]
      · rw [if_neg (fun q => by have := n18.mp q; omega), if_pos (n19.mpr z)]
    rw [hR]
    have hup := h.up
    obtain ⟨hl, ⟨v1, ⟨q, u, a1, a2, a3, a4, a5, a6⟩, v3, v4⟩, r⟩ := h
    obtain ⟨u', y1, y2, z1, z2, z3, z4, z5, -⟩ := hl.2.2.1
    have hsc : t.1 13 = nI u := by rw [z5, ← z4, a5]
    unfold f_Bus_storeDevice f_M_store_107 f_M_store_162 f_Lasting_hasRoomFor f_Lasting_hasRoomFor_17 f_Bus_storeDevice_40 f_Bus_storeDevice_51
    rw [if_pos (d1.mpr h18), a5, a3, hsc, a4, nI_add]
    by_cases hr : 200 ≤ u + q
    · rw [if_pos (show (200 : Int32) ≤ nI (u + q) from nI_le (a := 200) hr (by omega)), if_pos (by decide), Option.bind_some, if_pos rfl, if_neg (fun z => by have := d2.mp z; omega), if_pos (show (200 : Int32) ≤ nI (u + q) from nI_le (a := 200) hr (by omega))]
      exact ⟨s, t, rfl, rfl, hup, Fc.rf s, Ft.rf t⟩
    · have hng : ¬ (200 : Int32) ≤ nI (u + q) := nI_ge (b := 200) (by omega) (by omega)
      rw [if_neg hng, if_pos (by decide), Option.bind_some, if_neg one_ne0, if_neg hng]
      unfold f_Held_holdRecord f_Held_holdRecord_28
      rw [show ((1, s) : Int32 × xS).2.1 11 = nI q from a3, if_neg (show ¬ (4 : Int32) ≤ nI q from nI_ge (b := 4) (by omega) (by omega)), if_pos (xin_nI (by omega) (by omega)), if_pos (xin_nI (by omega) (by omega)), nI_c (by omega), nI_1]
      refine ⟨_, _, rfl, rfl, ⟨hl, ⟨v1, ⟨q + 1, u, by omega, by omega, rfl, rfl, a5, fun i hi => ?_⟩, hup.2.1.2.2.1, v4⟩, r⟩, ⟨rfl, rfl, rfl, rfl, rfl, rfl⟩, ⟨rfl, rfl, rfl⟩⟩
      show upd (s.2 8) q v i = upd (t.2 6) q v i
      by_cases hiq : i = q
      · subst hiq
        rw [pk_us, pk_us]
      · rw [pk_un hiq, pk_un hiq]
        exact a6 i (by omega)
  · rw [if_neg (fun q => h18 (Or.inl (n18.mp q))), if_neg (fun q => h18 (Or.inr (n19.mp q)))]
    unfold f_Bus_storeDevice f_M_store_157 f_M_store_162 f_Bus_storeDevice_40 f_Bus_storeDevice_51
    rw [if_neg (fun q => h18 (d1.mp q))]
    by_cases h20 : n = 20 ∨ n = 21
    · rw [if_pos (d2.mpr h20)]
      have hR : (if nI n = 20 then (some (xsc t 4 1)) else (if nI n = 21 then (some (xsc t 4 1)) else (some t))) = some (xsc t 4 1) := by
        rcases h20 with z | z
        · rw [if_pos (n20.mpr z)]
        · rw [if_neg (fun q => by have := n20.mp q; omega), if_pos (n21.mpr z)]
      rw [hR]
      obtain ⟨hl, hv, hp, -, -⟩ := h.up
      exact ⟨_, _, rfl, rfl, ⟨hl, hv, hp, rfl, (show xbl 1 = true by decide)⟩, ⟨rfl, rfl, rfl, rfl, rfl, rfl⟩, ⟨rfl, rfl, rfl⟩⟩
    · rw [if_neg (fun q => h20 (d2.mp q)), if_neg (fun q => h20 (Or.inl (n20.mp q))), if_neg (fun q => h20 (Or.inr (n21.mp q)))]
      exact ⟨s, t, rfl, rfl, h.up, Fc.rf s, Ft.rf t⟩
/-- a store -/
theorem p_store {m b n : Nat} {v y : Int32} {s t : xS} (hm : m ≤ 4) (hb : b ≤ 3) (hn : n < 65536) (hy : y = 0 ∨ y = 1) (hv : wd v) (hv8 : y = 1 → ∃ k, k < 256 ∧ v = nI k) (h : On m b s t) :
    (∃ s1 t1 : xS, f_Bus_write (nI n) v y s = some s1 ∧ f_M_store (nI n) v y t = some t1 ∧ On m (b + 1) s1 t1 ∧ Fc s s1 ∧ Ft t t1) ∨
    (∃ s1 t1 : xS, f_Bus_write (nI n) v y s = some s1 ∧ f_M_store (nI n) v y t = some t1 ∧ Gone 5 s1 t1 ∧ Fc s s1 ∧ Ft t t1) := by
  have e15 : ¬ t.1 15 = 0 := by rw [h.2.2.1.2.2.2]; decide
  obtain ⟨pv, pk1, pk2, pk3, pk4⟩ := p_peek (by omega) h (nI n)
  -- the whole word that is stored
  have hwhole : ∃ z : Int32, f_Bus_write (nI n) v y s = f_Bus_write_18 (nI n) v y z s ∧ wd z ∧ (y = 0 → z = v) ∧ (y = 1 → f_M_merged pv (nI n) v y = some z) := by
    unfold f_Bus_write
    rcases hy with rfl | rfl
    · rw [if_pos rfl]
      exact ⟨v, rfl, hv, fun _ => rfl, fun q => absurd q (by decide)⟩
    · obtain ⟨u, hu, rfl⟩ := pk2
      obtain ⟨k, hk, rfl⟩ := hv8 rfl
      obtain ⟨r, c1, c2, c3⟩ := p_merge hu hn hk
      rw [if_neg one_ne0, pk1, Option.bind_some, c1, Option.bind_some]
      exact ⟨r, rfl, c3, fun q => absurd q (by decide), fun _ => c2⟩
  obtain ⟨z, hz1, hz2, hz3, hz4⟩ := hwhole
  rw [hz1]
  rcases adr (nI n) with ⟨k, hk, hx, a1, a2, a3, a4, a5, a6⟩ | ⟨k, hk, hx, a1, a2, a3, a4, a5, a6⟩ | ⟨a1, a2, a3, a4⟩
  · have hw : k / 2 < 128 := by omega
    have hval := pk3 k hk hx
    rcases hy with rfl | rfl
    · have hzv := hz3 rfl
      subst hzv
      have hC : f_Bus_write_18 (nI n) z 0 z s = f_Bus_storeFram (nI (k / 2)) z s := by
        unfold f_Bus_write_18 f_Bus_write_63 f_Bus_write_85
        rw [a3, Option.bind_some, if_pos rfl, a1, Option.bind_some, if_neg one_ne0, if_pos rfl, a5, Option.bind_some]
        simp
      have hR : f_M_store (nI n) z 0 t = f_M_keep (nI (k / 2)) z t := by
        unfold f_M_store f_M_store_76 f_M_store_162 f_M_merged f_M_merged_39
        rw [if_neg e15, a4, Option.bind_some, if_pos rfl, a2, Option.bind_some, if_neg one_ne0, if_pos rfl, a6, if_pos rfl, Option.bind_some]
        simp
      rw [hC, hR]
      exact p_keep hm hb hw hv h
    · obtain ⟨s1, t1, c1, c2, c3, c4, c5, c6, c7⟩ := p_note hw h
      have hC : f_Bus_write_18 (nI n) v 1 z s = f_Bus_storeFram (nI (k / 2)) z s1 := by
        unfold f_Bus_write_18 f_Bus_write_63 f_Bus_write_85
        rw [a3, Option.bind_some, if_pos rfl, a1, Option.bind_some, if_neg one_ne0, if_neg one_ne0, a5, Option.bind_some, c1, Option.bind_some, Option.bind_some]
        simp
      have hB := c3.2.1.2.2.1
      obtain ⟨c7, hln⟩ := c7
      have hR : f_M_store (nI n) v 1 t = f_M_keep (nI (k / 2)) z t1 := by
        unfold f_M_store f_M_store_76 f_M_store_162
        rw [if_neg e15, a4, Option.bind_some, if_pos rfl, a2, Option.bind_some, if_neg one_ne0, if_neg one_ne0, c2 (nI n) a6 a2, framNow_ok (by omega) hw hB, Option.bind_some, Option.bind_some, a6]
        show (f_M_merged (if t1.2 4 (k / 2) = 0 then t1.2 2 (k / 2) else t1.2 5 (k / 2)) (nI n) v 1).bind _ = _
        rw [hln.1, hln.2, c7, ← hval, hz4 rfl, Option.bind_some]
        simp
      rw [hC, hR]
      rcases p_keep hm hb hw hz2 c3 with ⟨s2, t2, d1, d2, d3, d4, d5⟩ | ⟨s2, t2, d1, d2, d3, d4, d5⟩
      · exact Or.inl ⟨s2, t2, d1, d2, d3, c4.tr d4, c5.tr d5⟩
      · exact Or.inr ⟨s2, t2, d1, d2, d3, c4.tr d4, c5.tr d5⟩
  · have hw : k / 2 < 16 := by omega
    have e := xin_nI hw (N := 16) (by omega)
    have ec := nI_c (n := k / 2) (by omega)
    have hval := pk4 k hk hx
    have hmer : f_M_merged (t.2 1 (k / 2)) (nI n) v y = some z := by
      rw [← hval]
      rcases hy with rfl | rfl
      · unfold f_M_merged f_M_merged_39
        rw [if_pos rfl, hz3 rfl]
      · exact hz4 rfl
    refine Or.inl ⟨xsa s 9 (k / 2) z, xsa t 1 (k / 2) z, ?_, ?_, ?_, ⟨rfl, rfl, rfl, rfl, rfl, rfl⟩, ⟨rfl, rfl, rfl⟩⟩
    · unfold f_Bus_write_18 f_Bus_write_85
      rw [a3, Option.bind_some, if_neg one_ne0, a5, Option.bind_some, if_pos e, ec]
    · unfold f_M_store f_M_store_162
      rw [if_neg e15, a4, Option.bind_some, if_neg one_ne0, a6, if_pos e, ec, hmer, Option.bind_some, if_pos e]
    · obtain ⟨hl, ⟨v1, v2, v3, v4, v5, v6⟩, r⟩ := h.up
      refine ⟨hl, ⟨v1, v2, v3, v4, fun i hi => ?_, v6⟩, r⟩
      show upd (s.2 9) (k / 2) z i = upd (t.2 1) (k / 2) z i ∧ wd (upd (t.2 1) (k / 2) z i)
      by_cases hik : i = k / 2
      · subst hik
        rw [pk_us, pk_us]
        exact ⟨rfl, hz2⟩
      · rw [pk_un hik, pk_un hik]
        exact v5 i hi
  · obtain ⟨s1, t1, c1, c2, c3, c4, c5⟩ := p_dev (v := v) hb hn h
    refine Or.inl ⟨s1, t1, ?_, ?_, c3, c4, c5⟩
    · unfold f_Bus_write_18 f_Bus_write_85
      rw [a2, Option.bind_some, if_pos rfl, a1, Option.bind_some, if_pos rfl, c1]
      rfl
    · unfold f_M_store
      rw [if_neg e15, a4, Option.bind_some, if_pos rfl, a3, Option.bind_some, if_pos rfl]
      exact c2
