theorem and_65280N {n : Nat} (h : n < 65536) : n &&& 65280 = n / 256 * 256 := by
  apply Nat.eq_of_testBit_eq
  intro i
  rw [Nat.testBit_and]
  have e1 : (65280 : Nat).testBit i = (decide (8 ≤ i) && decide (i < 16)) := by
    rw [show (65280 : Nat) = 2 ^ 8 * (2 ^ 8 - 1) by decide, Nat.testBit_two_pow_mul, Nat.testBit_two_pow_sub_one]
    by_cases h1 : 8 ≤ i
    · simp [h1]; omega
    · simp [h1]
  have e2 : 16 ≤ i → n.testBit i = false := fun q => Nat.testBit_lt_two_pow (by have := Nat.pow_le_pow_right (n := 2) (by decide) q; omega)
  rw [e1, show n / 256 * 256 = 2 ^ 8 * (n / 2 ^ 8) by omega, Nat.testBit_two_pow_mul, Nat.testBit_div_two_pow]
  by_cases h1 : 8 ≤ i
  · rw [show i - 8 + 8 = i by omega]
    by_cases h2 : i < 16
    · simp [h1, h2]
    · rw [e2 (by omega)]
      simp
  · simp [h1]
theorem or_add {a b k : Nat} (h : b < 2 ^ k) : a * 2 ^ k ||| b = a * 2 ^ k + b := by
  have := Nat.shiftLeft_add_eq_or_of_lt h a
  rw [Nat.shiftLeft_eq] at this
  exact this.symm
/-- a byte put into a word, by both -/
theorem p_merge {u n v : Nat} (hu : u < 65536) (hn : n < 65536) (hv : v < 256) : ∃ r : Int32, f_Bus_withByte (nI u) (nI n) (nI v) = some r ∧ f_M_merged (nI u) (nI n) (nI v) 1 = some r ∧ wd r := by
  unfold f_Bus_withByte f_Bus_withByte_26 f_M_merged f_M_merged_39
  rw [if_neg one_ne0, and_1 (by omega), show xrem (nI n) 2 = nI (n % 2) from xrem_nI (d := 2) (by omega) (by omega) (by omega)]
  by_cases ho : n % 2 = 1
  · rw [ho, if_pos (show nI 1 = 1 from rfl), if_neg (show ¬ nI 1 = 0 from one_ne0)]
    refine ⟨nI (v * 256 + u % 256), ?_, ?_, ⟨_, by omega, rfl⟩⟩
    · rw [and_255 (by omega), show nI v <<< ((8 : Int32) &&& 31) = nI (v * 2 ^ 8) from shl_nI (k := 8) (by omega) (by omega), or_nI (by omega) (by omega), Nat.or_comm, or_add (by omega)]
    · rw [show xrem (nI u) 256 = nI (u % 256) from xrem_nI (d := 256) (by omega) (by omega) (by omega), show nI v * 256 = nI (v * 256) from pk_mul v 256, nI_add]
  · rw [show n % 2 = 0 by omega, if_neg (show ¬ nI 0 = 1 by decide), if_pos (show nI 0 = 0 from rfl)]
    refine ⟨nI (u / 256 * 256 + v), ?_, ?_, ⟨_, by omega, rfl⟩⟩
    · rw [show nI u &&& 65280 = nI (u &&& 65280) from and_nI (a := u) (b := 65280) (by omega) (by omega), and_65280N hu, or_nI (by omega) (by omega), show u / 256 * 256 ||| v = u / 256 * 256 + v from or_add (k := 8) (by omega)]
    · rw [show nI u / 256 = nI (u / 256) from pk_div (d := 256) (by omega) (by omega) (by omega), show nI (u / 256) * 256 = nI (u / 256 * 256) from pk_mul _ 256, nI_add]
theorem On.up {m b : Nat} {s t : xS} (h : On m b s t) : On m (b + 1) s t := by
  obtain ⟨hl, ⟨v1, ⟨q, u, a1, a2⟩, ⟨n, b1, b2⟩, v4⟩, r⟩ := h
  exact ⟨hl, ⟨v1, ⟨q, u, by omega, a2⟩, ⟨n, by omega, b2⟩, v4⟩, r⟩
-- the buffer takes a word
theorem hold_2 {w n : Nat} {v : Int32} {s t : xS} (hn : n ≤ 4) (hw : w < 128) (h1 : s.1 10 = nI n) (h2 : ∀ i, i < n → ∃ w : Nat, w < 128 ∧ s.2 6 i = nI w ∧ t.2 4 w = nI (i + 1) ∧ t.2 5 w = s.2 7 i ∧ wd (s.2 7 i)) (h3 : ∀ w, w < 128 → t.2 4 w = 0 ∨ ∃ i : Nat, i < n ∧ s.2 6 i = nI w ∧ t.2 4 w = nI (i + 1)) :
    ∀ (fuel i : Nat), i ≤ n → n - i < fuel → (∀ j, j < i → ¬ s.2 6 j = nI w) → ∃ k, f_Held_holdWord_2 fuel (nI w) v (nI i) s = f_Held_holdWord_26 (nI w) v (nI k) s ∧ ((k = n ∧ t.2 4 w = 0) ∨ (k < n ∧ s.2 6 k = nI w ∧ t.2 4 w = nI (k + 1))) := by
  intro fuel
  induction fuel with
  | zero => intro i _ h; omega
  | succ fuel ih =>
    intro i hi hf hj
    unfold f_Held_holdWord_2
    rw [h1]
    by_cases hin : i = n
    · subst hin
      rw [if_pos (nI_le (by omega) (by omega))]
      refine ⟨i, rfl, Or.inl ⟨rfl, ?_⟩⟩
      rcases h3 w hw with q | ⟨j, q1, q2, -⟩
      · exact q
      · exact absurd q2 (hj j q1)
    · rw [if_neg (nI_ge (by omega) (by omega)), if_pos (xin_nI (by omega) (by omega)), nI_c (by omega)]
      obtain ⟨w', q1, q2, q3, q4, q5⟩ := h2 i (by omega)
      by_cases hww : w' = w
      · subst hww
        rw [if_pos q2]
        exact ⟨i, rfl, Or.inr ⟨by omega, q2, q3⟩⟩
      · rw [if_neg (by rw [q2]; exact nI_ne (by omega) (by omega) hww), nI_1]
        refine ih (i + 1) (by omega) (by omega) (fun j hj' => ?_)
        by_cases hji : j = i
        · subst hji
          rw [q2]; exact nI_ne (by omega) (by omega) hww
        · exact hj j (by omega)
theorem p_hold {m b w : Nat} {v : Int32} {s t : xS} (hb : b ≤ 3) (hw : w < 128) (hv : wd v) (h : On m b s t) (h1 : t.2 3 w = 1) : ∃ s1 t1 : xS, f_Held_holdWord (nI w) v s = some s1 ∧ f_M_keep (nI w) v t = some t1 ∧ On m (b + 1) s1 t1 ∧ Fc s s1 ∧ Ft t t1 := by
  obtain ⟨hl, ⟨v1, v2, ⟨n, n1, n2, n3, n4, n5⟩, v4⟩, r⟩ := h
  have e := xin_nI hw (N := 128) (by omega)
  have ec := nI_c (n := w) (by omega)
  obtain ⟨q0, u0, y1, y2⟩ := v2
  have v2' : VQu (b + 1) (s.1 11) (t.1 1) (s.1 4) (s.2 8) (t.2 6) := ⟨q0, u0, by omega, y2⟩
  obtain ⟨k, c1, c2⟩ := hold_2 (v := v) (by omega) hw n2 n4 n5 1000 0 (by omega) (by omega) (fun j hj => by omega)
  have c1 : f_Held_holdWord (nI w) v s = f_Held_holdWord_26 (nI w) v (nI k) s := c1
  rcases c2 with ⟨rfl, c2⟩ | ⟨ck, c2, c3⟩
  · refine ⟨xsc (xsa (xsa s 6 k (nI w)) 7 k v) 10 (nI (k + 1)), xsa (xsa (xsc t 0 (nI (k + 1))) 4 w (nI (k + 1))) 5 w v, ?_, ?_, ⟨hl, ⟨v1, v2', ⟨k + 1, by omega, rfl, rfl, fun i hi => ?_, fun w' hw' => ?_⟩, v4⟩, r⟩, ⟨rfl, rfl, rfl, rfl, rfl, rfl⟩, ⟨rfl, rfl, rfl⟩⟩
    · rw [c1]
      unfold f_Held_holdWord_26 f_Held_holdWord_59
      rw [if_neg (show ¬ (4 : Int32) ≤ nI k from nI_ge (b := 4) (by omega) (by omega)), if_pos (xin_nI (by omega) (by omega)), if_pos (xin_nI (by omega) (by omega)), nI_c (by omega), n2, nI_1, if_pos (nI_lt (by omega) (by omega))]
    · unfold f_M_keep f_M_keep_39
      rw [if_pos e, ec, if_pos h1, if_pos e, if_pos c2, if_pos e, if_pos e, n3, nI_1]
    · show ∃ w', w' < 128 ∧ upd (s.2 6) k (nI w) i = nI w' ∧ upd (t.2 4) w (nI (k + 1)) w' = nI (i + 1) ∧ upd (t.2 5) w v w' = upd (s.2 7) k v i ∧ wd (upd (s.2 7) k v i)
      by_cases hik : i = k
      · subst hik
        refine ⟨w, hw, ?_⟩
        rw [pk_us, pk_us, pk_us, pk_us]
        exact ⟨rfl, rfl, rfl, hv⟩
      · obtain ⟨w', q1, q2, q3, q4, q5⟩ := n4 i (by omega)
        have hne : w' ≠ w := fun z => by rw [z, c2] at q3; exact nI_ne0 (n := i + 1) (by omega) (by omega) q3.symm
        refine ⟨w', q1, ?_⟩
        rw [pk_un hik, pk_un hne, pk_un hne, pk_un hik]
        exact ⟨q2, q3, q4, q5⟩
    · show upd (t.2 4) w (nI (k + 1)) w' = 0 ∨ ∃ i, i < k + 1 ∧ upd (s.2 6) k (nI w) i = nI w' ∧ upd (t.2 4) w (nI (k + 1)) w' = nI (i + 1)
      by_cases hww : w' = w
      · subst hww
        refine Or.inr ⟨k, by omega, ?_⟩
        rw [pk_us, pk_us]
        exact ⟨rfl, rfl⟩
      · rw [pk_un hww]
        rcases n5 w' hw' with q | ⟨i, q1, q2, q3⟩
        · exact Or.inl q
        · refine Or.inr ⟨i, by omega, ?_⟩
          rw [pk_un (by omega)]
          exact ⟨q2, q3⟩
  · refine ⟨xsc (xsa (xsa s 6 k (nI w)) 7 k v) 10 (nI n), xsa t 5 w v, ?_, ?_, ⟨hl, ⟨v1, v2', ⟨n, by omega, rfl, n3, fun i hi => ?_, fun w' hw' => ?_⟩, v4⟩, r⟩, ⟨rfl, rfl, rfl, rfl, rfl, rfl⟩, ⟨rfl, rfl, rfl⟩⟩
    · rw [c1]
      unfold f_Held_holdWord_26 f_Held_holdWord_59
      rw [if_neg (show ¬ (4 : Int32) ≤ nI k from nI_ge (b := 4) (by omega) (by omega)), if_pos (xin_nI (by omega) (by omega)), if_pos (xin_nI (by omega) (by omega)), nI_c (by omega), n2, nI_1, if_neg (nI_nlt (by omega) (by omega))]
    · unfold f_M_keep f_M_keep_39
      rw [if_pos e, ec, if_pos h1, if_pos e, if_neg (by rw [c3]; exact nI_ne0 (by omega) (by omega)), if_pos e]
    · show ∃ w', w' < 128 ∧ upd (s.2 6) k (nI w) i = nI w' ∧ t.2 4 w' = nI (i + 1) ∧ upd (t.2 5) w v w' = upd (s.2 7) k v i ∧ wd (upd (s.2 7) k v i)
      by_cases hik : i = k
      · subst hik
        refine ⟨w, hw, ?_⟩
        rw [pk_us, pk_us, pk_us]
        exact ⟨rfl, c3, rfl, hv⟩
      · obtain ⟨w', q1, q2, q3, q4, q5⟩ := n4 i hi
        have hne : w' ≠ w := fun z => by rw [z, c3] at q3; exact hik ((nI_eq (by omega) (by omega)).mp q3.symm |> fun z => by omega)
        refine ⟨w', q1, ?_⟩
        rw [pk_un hik, pk_un hne, pk_un hik]
        exact ⟨q2, q3, q4, q5⟩
    · show t.2 4 w' = 0 ∨ ∃ i, i < n ∧ upd (s.2 6) k (nI w) i = nI w' ∧ t.2 4 w' = nI (i + 1)
      rcases n5 w' hw' with q | ⟨i, q1, q2, q3⟩
      · exact Or.inl q
      · refine Or.inr ⟨i, q1, ?_, q3⟩
        by_cases hik : i = k
        · subst hik
          rw [pk_us]
          exact c2.symm.trans q2
        · rw [pk_un hik]
          exact q2
/-- a store to FRAM -/
theorem p_keep {m b w : Nat} {v : Int32} {s t : xS} (hm : m ≤ 4) (hb : b ≤ 3) (hw : w < 128) (hv : wd v) (h : On m b s t) :
    (∃ s1 t1 : xS, f_Bus_storeFram (nI w) v s = some s1 ∧ f_M_keep (nI w) v t = some t1 ∧ On m (b + 1) s1 t1 ∧ Fc s s1 ∧ Ft t t1) ∨
    (∃ s1 t1 : xS, f_Bus_storeFram (nI w) v s = some s1 ∧ f_M_keep (nI w) v t = some t1 ∧ Gone 5 s1 t1 ∧ Fc s s1 ∧ Ft t t1) := by
  have e := xin_nI hw (N := 128) (by omega)
  have ec := nI_c (n := w) (by omega)
  obtain ⟨k1, k2⟩ := h.2.1.2.2.2.1
  obtain ⟨c1, c2⟩ := k1 w hw
  by_cases h1 : t.2 3 w = 1
  · obtain ⟨s1, t1, d1, d2, d3, d4, d5⟩ := p_hold hb hw hv h h1
    refine Or.inl ⟨s1, t1, ?_, d2, d3, d4, d5⟩
    unfold f_Bus_storeFram f_Section_noteStore f_Section_noteStore_26 f_Section_noteStore_41 f_Bus_storeFram_47
    rw [if_pos e, ec, c1, h1, if_neg one_ne0, if_pos e, if_pos rfl, if_pos (by decide), Option.bind_some, if_neg one_ne0, d1]
    rfl
  · -- the word is marked as written, and the WRITE is asked for
    have hmark : ∃ s1 : xS, f_Section_noteStore (nI w) s = some (0, s1) ∧ On m b s1 (xsa t 3 w 2) ∧ Fc s s1 := by
      obtain ⟨hl, ⟨v1, v2, v3, v4, v5, v6⟩, r⟩ := h
      by_cases h0 : t.2 3 w = 0
      · refine ⟨xsc (xsa s 5 w 2) 7 (s.1 7 + 1), ?_, ⟨hl, ⟨v1, v2, v3, ⟨fun k hk => ?_, ?_⟩, v5, v6⟩, r⟩, ⟨rfl, rfl, rfl, rfl, rfl, rfl⟩⟩
        · unfold f_Section_noteStore f_Section_noteStore_26 f_Section_noteStore_41
          rw [if_pos e, ec, if_pos (c1.trans h0), if_pos e, if_pos e]
          rw [if_neg (show ¬ (xsc (xsa s 5 w 2) 7 (s.1 7 + 1)).2 5 w = 1 by show ¬ upd (s.2 5) w 2 w = 1; rw [pk_us]; decide), if_pos (by decide)]
        · show upd (s.2 5) w 2 k = upd (t.2 3) w 2 k ∧ (upd (t.2 3) w 2 k = 0 ∨ upd (t.2 3) w 2 k = 1 ∨ upd (t.2 3) w 2 k = 2)
          by_cases hk' : k = w
          · subst hk'
            rw [pk_us, pk_us]
            exact ⟨rfl, Or.inr (Or.inr rfl)⟩
          · rw [pk_un hk', pk_un hk']
            exact k1 k hk
        · show s.1 7 + 1 = nI (ct (upd (t.2 3) w 2) 128)
          rw [ct_upd h0 (by decide) 128 hw, k2, nI_1]
      · have h2 : t.2 3 w = 2 := by
          rcases c2 with q | q | q
          · exact absurd q h0
          · exact absurd q h1
          · exact q
        have hs : xsa t 3 w 2 = t := by
          have := xsa_self t 3 w
          rw [h2] at this
          exact this
        rw [hs]
        refine ⟨s, ?_, ⟨hl, ⟨v1, v2, v3, v4, v5, v6⟩, r⟩, Fc.rf s⟩
        unfold f_Section_noteStore f_Section_noteStore_26 f_Section_noteStore_41
        rw [if_pos e, ec, if_neg (by rw [c1]; exact h0), if_pos e, if_neg (by rw [c1]; exact h1), if_pos (by decide)]
    obtain ⟨s1, g1, g2, g3⟩ := hmark
    have hC : f_Bus_storeFram (nI w) v s = (f_Power_allows 0 s1).bind fun q4 => if q4.1 = 0 then (some q4.2) else some (xsa q4.2 1 w v) := by
      unfold f_Bus_storeFram f_Bus_storeFram_47
      rw [g1, Option.bind_some, if_pos rfl]
      simp only [if_pos e, ec]
    have hR : f_M_keep (nI w) v t = (f_M_write (xsa t 3 w 2)).bind fun q5 => if q5.1 = 0 then (some q5.2) else some (xsa q5.2 2 w v) := by
      unfold f_M_keep f_M_keep_68
      rw [if_pos e, ec, if_neg h1, if_pos e]
      simp only [if_pos e]
    rcases pw hm (by omega) g2 with ⟨g, x, d1, d2, d3⟩ | ⟨g, k, d1, d2, d3⟩
    · rw [d1, Option.bind_some, if_neg one_ne0] at hC
      rw [d2, Option.bind_some, if_neg one_ne0] at hR
      refine Or.inl ⟨_, _, hC, hR, ?_, g3.tr ⟨rfl, rfl, rfl, rfl, rfl, rfl⟩, ⟨rfl, rfl, rfl⟩⟩
      obtain ⟨⟨l1, l2⟩, w1, w2⟩ := d3.up
      refine ⟨⟨fun k hk => ?_, l2⟩, w1, w2⟩
      show upd (s1.2 1) w v k = upd (t.2 2) w v k ∧ wd (upd (t.2 2) w v k)
      by_cases hk' : k = w
      · subst hk'
        rw [pk_us, pk_us]
        exact ⟨rfl, hv⟩
      · rw [pk_un hk', pk_un hk']
        exact l1 k hk
    · rw [d1, Option.bind_some, if_pos rfl] at hC
      rw [d2, Option.bind_some, if_pos rfl] at hR
      exact Or.inr ⟨_, _, hC, hR, d3, g3.tr ⟨rfl, rfl, rfl, rfl, rfl, rfl⟩, ⟨rfl, rfl, rfl⟩⟩
