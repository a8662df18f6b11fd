theorem inv0 : Inv xs0 xt0 := by
  have hl : Las xs0 xt0 := ⟨fun k _ => ⟨rfl, wd0⟩, ⟨0, by omega, rfl, rfl, fun i hi => by omega⟩, ⟨0, 0, 0, by omega, by omega, by omega, rfl, rfl, rfl, rfl, rfl, rfl, fun i hi => by omega, fun i hi => by omega⟩, ⟨0, 0, by omega, by omega, rfl, rfl, rfl, fun i hi => by omega⟩, ⟨0, 0, by omega, by omega, rfl, rfl, rfl, rfl⟩, fun k _ => ⟨rfl, 0, by omega, rfl, fun _ => rfl, fun _ => rfl, fun _ => rfl⟩, fun k _ => ⟨rfl, wd0⟩, ⟨0, by omega, rfl, rfl, fun i hi => by omega⟩, ⟨rfl, by decide, Or.inl ⟨rfl, rfl⟩⟩, rfl, rfl, rfl⟩
  exact Or.inl ⟨hl, Vol.to (Vol.emp hl ⟨rfl, rfl, rfl, rfl, rfl⟩ (fun _ _ => rfl) ⟨rfl, rfl, rfl, rfl⟩ (fun _ _ => ⟨rfl, rfl⟩) (fun k _ => ⟨rfl, wd0⟩)), fun k _ => ⟨rfl, 0, by omega, rfl, fun _ => rfl, fun _ => rfl, fun _ => rfl⟩, ⟨rfl, rfl, rfl, rfl⟩, fun q => absurd q (by decide), fun _ k _ => ⟨rfl, rfl⟩⟩
theorem all17 : ∀ j, j < 17 → (nI j = 0 ∨ nI j = 1 ∨ nI j = 2 ∨ nI j = 3 ∨ nI j = 4 ∨ nI j = 5 ∨ nI j = 6 ∨ nI j = 7 ∨ nI j = 8 ∨ nI j = 9 ∨ nI j = 10 ∨ nI j = 11 ∨ nI j = 12 ∨ nI j = 13 ∨ nI j = 14 ∨ nI j = 15 ∨ nI j = 16) := by decide +kernel
theorem law_lp (n0 : Nat) (f0 : Nat → Int32) (hn : n0 ≤ 1536) : ∀ (n i : Nat) (s t : xS), i ≤ n0 + 3 → n0 + 3 - i < 3 * n → Inv s t → f_L_law_18 n0 f0 n (nI i) s t = some 1 := by
  intro n
  induction n with
  | zero => intro i s t _ h; omega
  | succ n ih =>
    intro i s t hi hf h
    unfold f_L_law_18
    have hlt : Int32.ofNat n0 - 3 < nI i ↔ n0 < i + 3 := by
      rw [i32lt, show (Int32.ofNat n0 - 3).toInt = (n0 : Int) - 3 from pk_sub_toInt (a := n0) (b := 3) (by omega) (by omega), nI_toInt (by omega)]
      omega
    by_cases hd : n0 < i + 3
    · rw [if_pos (hlt.mpr hd)]
    · have x0 : xin (nI i) n0 = true := xin_nI (by omega) (by omega)
      have x1 : xin (nI (i + 1)) n0 = true := xin_nI (by omega) (by omega)
      have x2 : xin (nI (i + 2)) n0 = true := xin_nI (by omega) (by omega)
      have ii : ∀ s' t', Inv s' t' → f_L_law_447 n0 f0 (f_L_law_18 n0 f0 n) (nI i) s' t' = some 1 := fun s' t' h' => by
        unfold f_L_law_447
        rw [show nI i + 3 = nI (i + 3) from nI_add i 3]
        exact ih (i + 3) s' t' (by omega) (by omega) h'
      rw [if_neg (fun q => hd (hlt.mp q)), if_pos x0, nI_1, show nI i + 2 = nI (i + 2) from nI_add i 2, nI_c (show i < 2 ^ 31 by omega), nI_c (show i + 1 < 2 ^ 31 by omega), nI_c (show i + 2 < 2 ^ 31 by omega)]
      by_cases hy : (f0 i &&& 31) < (0 : Int32) ∨ (16 : Int32) < (f0 i &&& 31)
      · rw [if_pos hy]
        exact ii s t h
      · rw [if_neg hy]
        have hj : ∃ j : Nat, j ≤ 16 ∧ f0 i &&& 31 = nI j := nI_of2 (M := 16) (n := 16) (by decide) (fun q => hy (Or.inl q)) (Int32.not_lt.mp (fun q => hy (Or.inr q)))
        obtain ⟨j, hj, ej⟩ := hj
        rcases all17 j (by omega) with e | e | e | e | e | e | e | e | e | e | e | e | e | e | e | e | e
        · obtain ⟨r, s1, t1, c1, c2, c3⟩ := c_load (f0 (i + 1)) (f0 (i + 2)) h
          rw [show f0 i &&& 31 = 0 from ej.trans e, if_pos (show (0 : Int32) = 0 from rfl), if_pos x1, if_pos x2, c1, Option.bind_some, if_pos x1, if_pos x2, c2, Option.bind_some, if_pos rfl]
          exact ii s1 t1 c3
        · obtain ⟨r, s1, t1, c1, c2, c3⟩ := c_start (f0 (i + 1)) h
          rw [show f0 i &&& 31 = 1 from ej.trans e, if_neg (show ¬ (1 : Int32) = 0 from by decide), if_pos (show (1 : Int32) = 1 from rfl), if_pos x1, c1, Option.bind_some, if_pos x1, c2, Option.bind_some, if_pos rfl]
          exact ii s1 t1 c3
        · obtain ⟨r, s1, t1, c1, c2, c3⟩ := c_sample (f0 (i + 1)) h
          rw [show f0 i &&& 31 = 2 from ej.trans e, if_neg (show ¬ (2 : Int32) = 0 from by decide), if_neg (show ¬ (2 : Int32) = 1 from by decide), if_pos (show (2 : Int32) = 2 from rfl), if_pos x1, c1, Option.bind_some, if_pos x1, c2, Option.bind_some, if_pos rfl]
          exact ii s1 t1 c3
        · obtain ⟨r, s1, t1, c1, c2, c3⟩ := c_failWrite (f0 (i + 1)) h
          rw [show f0 i &&& 31 = 3 from ej.trans e, if_neg (show ¬ (3 : Int32) = 0 from by decide), if_neg (show ¬ (3 : Int32) = 1 from by decide), if_neg (show ¬ (3 : Int32) = 2 from by decide), if_pos (show (3 : Int32) = 3 from rfl), if_pos x1, c1, Option.bind_some, if_pos x1, c2, Option.bind_some, if_pos rfl]
          exact ii s1 t1 c3
        · obtain ⟨r, s1, t1, c1, c2, c3⟩ := c_failStep (f0 (i + 1)) h
          rw [show f0 i &&& 31 = 4 from ej.trans e, if_neg (show ¬ (4 : Int32) = 0 from by decide), if_neg (show ¬ (4 : Int32) = 1 from by decide), if_neg (show ¬ (4 : Int32) = 2 from by decide), if_neg (show ¬ (4 : Int32) = 3 from by decide), if_pos (show (4 : Int32) = 4 from rfl), if_pos x1, c1, Option.bind_some, if_pos x1, c2, Option.bind_some, if_pos rfl]
          exact ii s1 t1 c3
        · obtain ⟨r, s1, t1, c1, c2, c3⟩ := c_run (f0 (i + 1)) h
          rw [show f0 i &&& 31 = 5 from ej.trans e, if_neg (show ¬ (5 : Int32) = 0 from by decide), if_neg (show ¬ (5 : Int32) = 1 from by decide), if_neg (show ¬ (5 : Int32) = 2 from by decide), if_neg (show ¬ (5 : Int32) = 3 from by decide), if_neg (show ¬ (5 : Int32) = 4 from by decide), if_pos (show (5 : Int32) = 5 from rfl), if_pos x1, c1, Option.bind_some, if_pos x1, c2, Option.bind_some, if_pos rfl]
          exact ii s1 t1 c3
        · obtain ⟨r, s1, t1, c1, c2, c3⟩ := c_boot h
          rw [show f0 i &&& 31 = 6 from ej.trans e, if_neg (show ¬ (6 : Int32) = 0 from by decide), if_neg (show ¬ (6 : Int32) = 1 from by decide), if_neg (show ¬ (6 : Int32) = 2 from by decide), if_neg (show ¬ (6 : Int32) = 3 from by decide), if_neg (show ¬ (6 : Int32) = 4 from by decide), if_neg (show ¬ (6 : Int32) = 5 from by decide), if_pos (show (6 : Int32) = 6 from rfl), c1, Option.bind_some, c2, Option.bind_some, if_pos rfl]
          exact ii s1 t1 c3
        · obtain ⟨r, s1, t1, c1, c2, c3⟩ := c_state h
          rw [show f0 i &&& 31 = 7 from ej.trans e, if_neg (show ¬ (7 : Int32) = 0 from by decide), if_neg (show ¬ (7 : Int32) = 1 from by decide), if_neg (show ¬ (7 : Int32) = 2 from by decide), if_neg (show ¬ (7 : Int32) = 3 from by decide), if_neg (show ¬ (7 : Int32) = 4 from by decide), if_neg (show ¬ (7 : Int32) = 5 from by decide), if_neg (show ¬ (7 : Int32) = 6 from by decide), if_pos (show (7 : Int32) = 7 from rfl), c1, Option.bind_some, c2, Option.bind_some, if_pos rfl]
          exact ii s1 t1 c3
        · obtain ⟨r, s1, t1, c1, c2, c3⟩ := c_register (f0 (i + 1)) h
          rw [show f0 i &&& 31 = 8 from ej.trans e, if_neg (show ¬ (8 : Int32) = 0 from by decide), if_neg (show ¬ (8 : Int32) = 1 from by decide), if_neg (show ¬ (8 : Int32) = 2 from by decide), if_neg (show ¬ (8 : Int32) = 3 from by decide), if_neg (show ¬ (8 : Int32) = 4 from by decide), if_neg (show ¬ (8 : Int32) = 5 from by decide), if_neg (show ¬ (8 : Int32) = 6 from by decide), if_neg (show ¬ (8 : Int32) = 7 from by decide), if_pos (show (8 : Int32) = 8 from rfl), if_pos x1, c1, Option.bind_some, if_pos x1, c2, Option.bind_some, if_pos rfl]
          exact ii s1 t1 c3
        · obtain ⟨r, s1, t1, c1, c2, c3⟩ := c_memory (f0 (i + 1)) h
          rw [show f0 i &&& 31 = 9 from ej.trans e, if_neg (show ¬ (9 : Int32) = 0 from by decide), if_neg (show ¬ (9 : Int32) = 1 from by decide), if_neg (show ¬ (9 : Int32) = 2 from by decide), if_neg (show ¬ (9 : Int32) = 3 from by decide), if_neg (show ¬ (9 : Int32) = 4 from by decide), if_neg (show ¬ (9 : Int32) = 5 from by decide), if_neg (show ¬ (9 : Int32) = 6 from by decide), if_neg (show ¬ (9 : Int32) = 7 from by decide), if_neg (show ¬ (9 : Int32) = 8 from by decide), if_pos (show (9 : Int32) = 9 from rfl), if_pos x1, c1, Option.bind_some, if_pos x1, c2, Option.bind_some, if_pos rfl]
          exact ii s1 t1 c3
        · obtain ⟨r, s1, t1, c1, c2, c3⟩ := c_fram (f0 (i + 1)) h
          rw [show f0 i &&& 31 = 10 from ej.trans e, if_neg (show ¬ (10 : Int32) = 0 from by decide), if_neg (show ¬ (10 : Int32) = 1 from by decide), if_neg (show ¬ (10 : Int32) = 2 from by decide), if_neg (show ¬ (10 : Int32) = 3 from by decide), if_neg (show ¬ (10 : Int32) = 4 from by decide), if_neg (show ¬ (10 : Int32) = 5 from by decide), if_neg (show ¬ (10 : Int32) = 6 from by decide), if_neg (show ¬ (10 : Int32) = 7 from by decide), if_neg (show ¬ (10 : Int32) = 8 from by decide), if_neg (show ¬ (10 : Int32) = 9 from by decide), if_pos (show (10 : Int32) = 10 from rfl), if_pos x1, c1, Option.bind_some, if_pos x1, c2, Option.bind_some, if_pos rfl]
          exact ii s1 t1 c3
        · obtain ⟨r, s1, t1, c1, c2, c3⟩ := c_radio (f0 (i + 1)) h
          rw [show f0 i &&& 31 = 11 from ej.trans e, if_neg (show ¬ (11 : Int32) = 0 from by decide), if_neg (show ¬ (11 : Int32) = 1 from by decide), if_neg (show ¬ (11 : Int32) = 2 from by decide), if_neg (show ¬ (11 : Int32) = 3 from by decide), if_neg (show ¬ (11 : Int32) = 4 from by decide), if_neg (show ¬ (11 : Int32) = 5 from by decide), if_neg (show ¬ (11 : Int32) = 6 from by decide), if_neg (show ¬ (11 : Int32) = 7 from by decide), if_neg (show ¬ (11 : Int32) = 8 from by decide), if_neg (show ¬ (11 : Int32) = 9 from by decide), if_neg (show ¬ (11 : Int32) = 10 from by decide), if_pos (show (11 : Int32) = 11 from rfl), if_pos x1, c1, Option.bind_some, if_pos x1, c2, Option.bind_some, if_pos rfl]
          exact ii s1 t1 c3
        · obtain ⟨r, s1, t1, c1, c2, c3⟩ := c_waiting h
          rw [show f0 i &&& 31 = 12 from ej.trans e, if_neg (show ¬ (12 : Int32) = 0 from by decide), if_neg (show ¬ (12 : Int32) = 1 from by decide), if_neg (show ¬ (12 : Int32) = 2 from by decide), if_neg (show ¬ (12 : Int32) = 3 from by decide), if_neg (show ¬ (12 : Int32) = 4 from by decide), if_neg (show ¬ (12 : Int32) = 5 from by decide), if_neg (show ¬ (12 : Int32) = 6 from by decide), if_neg (show ¬ (12 : Int32) = 7 from by decide), if_neg (show ¬ (12 : Int32) = 8 from by decide), if_neg (show ¬ (12 : Int32) = 9 from by decide), if_neg (show ¬ (12 : Int32) = 10 from by decide), if_neg (show ¬ (12 : Int32) = 11 from by decide), if_pos (show (12 : Int32) = 12 from rfl), c1, Option.bind_some, c2, Option.bind_some, if_pos rfl]
          exact ii s1 t1 c3
        · obtain ⟨r, s1, t1, c1, c2, c3⟩ := c_writes h
          rw [show f0 i &&& 31 = 13 from ej.trans e, if_neg (show ¬ (13 : Int32) = 0 from by decide), if_neg (show ¬ (13 : Int32) = 1 from by decide), if_neg (show ¬ (13 : Int32) = 2 from by decide), if_neg (show ¬ (13 : Int32) = 3 from by decide), if_neg (show ¬ (13 : Int32) = 4 from by decide), if_neg (show ¬ (13 : Int32) = 5 from by decide), if_neg (show ¬ (13 : Int32) = 6 from by decide), if_neg (show ¬ (13 : Int32) = 7 from by decide), if_neg (show ¬ (13 : Int32) = 8 from by decide), if_neg (show ¬ (13 : Int32) = 9 from by decide), if_neg (show ¬ (13 : Int32) = 10 from by decide), if_neg (show ¬ (13 : Int32) = 11 from by decide), if_neg (show ¬ (13 : Int32) = 12 from by decide), if_pos (show (13 : Int32) = 13 from rfl), c1, Option.bind_some, c2, Option.bind_some, if_pos rfl]
          exact ii s1 t1 c3
        · obtain ⟨r, s1, t1, c1, c2, c3⟩ := c_flips h
          rw [show f0 i &&& 31 = 14 from ej.trans e, if_neg (show ¬ (14 : Int32) = 0 from by decide), if_neg (show ¬ (14 : Int32) = 1 from by decide), if_neg (show ¬ (14 : Int32) = 2 from by decide), if_neg (show ¬ (14 : Int32) = 3 from by decide), if_neg (show ¬ (14 : Int32) = 4 from by decide), if_neg (show ¬ (14 : Int32) = 5 from by decide), if_neg (show ¬ (14 : Int32) = 6 from by decide), if_neg (show ¬ (14 : Int32) = 7 from by decide), if_neg (show ¬ (14 : Int32) = 8 from by decide), if_neg (show ¬ (14 : Int32) = 9 from by decide), if_neg (show ¬ (14 : Int32) = 10 from by decide), if_neg (show ¬ (14 : Int32) = 11 from by decide), if_neg (show ¬ (14 : Int32) = 12 from by decide), if_neg (show ¬ (14 : Int32) = 13 from by decide), if_pos (show (14 : Int32) = 14 from rfl), c1, Option.bind_some, c2, Option.bind_some, if_pos rfl]
          exact ii s1 t1 c3
        · obtain ⟨r, s1, t1, c1, c2, c3⟩ := c_retired h
          rw [show f0 i &&& 31 = 15 from ej.trans e, if_neg (show ¬ (15 : Int32) = 0 from by decide), if_neg (show ¬ (15 : Int32) = 1 from by decide), if_neg (show ¬ (15 : Int32) = 2 from by decide), if_neg (show ¬ (15 : Int32) = 3 from by decide), if_neg (show ¬ (15 : Int32) = 4 from by decide), if_neg (show ¬ (15 : Int32) = 5 from by decide), if_neg (show ¬ (15 : Int32) = 6 from by decide), if_neg (show ¬ (15 : Int32) = 7 from by decide), if_neg (show ¬ (15 : Int32) = 8 from by decide), if_neg (show ¬ (15 : Int32) = 9 from by decide), if_neg (show ¬ (15 : Int32) = 10 from by decide), if_neg (show ¬ (15 : Int32) = 11 from by decide), if_neg (show ¬ (15 : Int32) = 12 from by decide), if_neg (show ¬ (15 : Int32) = 13 from by decide), if_neg (show ¬ (15 : Int32) = 14 from by decide), if_pos (show (15 : Int32) = 15 from rfl), c1, Option.bind_some, c2, Option.bind_some, if_pos rfl]
          exact ii s1 t1 c3
        · obtain ⟨r, s1, t1, c1, c2, c3⟩ := c_section h
          rw [show f0 i &&& 31 = 16 from ej.trans e, if_neg (show ¬ (16 : Int32) = 0 from by decide), if_neg (show ¬ (16 : Int32) = 1 from by decide), if_neg (show ¬ (16 : Int32) = 2 from by decide), if_neg (show ¬ (16 : Int32) = 3 from by decide), if_neg (show ¬ (16 : Int32) = 4 from by decide), if_neg (show ¬ (16 : Int32) = 5 from by decide), if_neg (show ¬ (16 : Int32) = 6 from by decide), if_neg (show ¬ (16 : Int32) = 7 from by decide), if_neg (show ¬ (16 : Int32) = 8 from by decide), if_neg (show ¬ (16 : Int32) = 9 from by decide), if_neg (show ¬ (16 : Int32) = 10 from by decide), if_neg (show ¬ (16 : Int32) = 11 from by decide), if_neg (show ¬ (16 : Int32) = 12 from by decide), if_neg (show ¬ (16 : Int32) = 13 from by decide), if_neg (show ¬ (16 : Int32) = 14 from by decide), if_neg (show ¬ (16 : Int32) = 15 from by decide), if_pos (show (16 : Int32) = 16 from rfl), c1, Option.bind_some, c2, Option.bind_some, if_pos rfl]
          exact ii s1 t1 c3
/-- every run of calls is answered alike on both sides -/
theorem pure_main (n0 : Nat) (f0 : Nat → Int32) (hn : n0 ≤ 1536) : f_L_law_18 n0 f0 1000 0 xs0 xt0 = some 1 := law_lp n0 f0 hn 1000 0 xs0 xt0 (by omega) (by omega) inv0
