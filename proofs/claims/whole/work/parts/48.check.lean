theorem va0 {f g : Nat → Int32} {n k : Nat} (h : k < n) : va_cpy f g 0 0 n k = f k := by
  rw [pk_cpy_in (by omega) (by omega)]
  exact congrArg f (by omega)
theorem ck_66 (t : xS) : ∀ (n i : Nat) (g h : Nat → Int32), i ≤ 16 → 16 - i < n → (∀ k, k < i → g k = t.2 0 k ∧ h k = t.2 1 k) →
    ∃ g' h' : Nat → Int32, f_M_checkpoint_66 n (nI i) (xsf (xsf t 7 g) 8 h) = f_M_checkpoint_112 1000 0 (xsc (xsf (xsf t 7 g') 8 h') 5 (t.1 0)) ∧ ∀ k, k < 16 → g' k = t.2 0 k ∧ h' k = t.2 1 k := by
  intro n
  induction n with
  | zero => intro i g h _ h2; omega
  | succ n ih =>
    intro i g h hi hf hh
    by_cases hd : i = 16
    · subst hd
      refine ⟨g, h, ?_, hh⟩
      unfold f_M_checkpoint_66
      rw [if_pos (by decide)]
      rfl
    · have e1 : ¬ (16 : Int32) ≤ nI i := nI_ge (b := 16) (by omega) (by omega)
      have e2 : xin (nI i) 16 = true := xin_nI (by omega) (by omega)
      have e3 : xsa (xsa (xsf (xsf t 7 g) 8 h) 7 i (t.2 0 i)) 8 i (t.2 1 i) = xsf (xsf t 7 (upd g i (t.2 0 i))) 8 (upd h i (t.2 1 i)) := by
        rw [xsa_def, xsa_def]
        show xsf (xsf (xsf (xsf t 7 g) 8 h) 7 (upd g i (t.2 0 i))) 8 (upd h i (t.2 1 i)) = _
        rw [xsf_comm (xsf t 7 g) (n := 8) (m := 7) (by decide), xsf_two, xsf_two]
      obtain ⟨g', h', a1, a2⟩ := ih (i + 1) (upd g i (t.2 0 i)) (upd h i (t.2 1 i)) (by omega) (by omega) (by
        intro k hk
        by_cases hki : k = i
        · subst hki
          rw [pk_us, pk_us]
          exact ⟨rfl, rfl⟩
        · rw [pk_un hki, pk_un hki]
          exact hh k (by omega))
      refine ⟨g', h', ?_, a2⟩
      unfold f_M_checkpoint_66
      rw [if_neg e1, if_pos e2, if_pos e2, if_pos e2, if_pos e2, nI_c (by omega), nI_1]
      show f_M_checkpoint_66 n (nI (i + 1)) (xsa (xsa (xsf (xsf t 7 g) 8 h) 7 i (t.2 0 i)) 8 i (t.2 1 i)) = _
      rw [e3, a1]
theorem ck_112 (t : xS) {c : Nat} {ws vs : Nat → Int32} (hc : c ≤ 4) (hw : ∀ i, i < c → ∃ w : Nat, w < 128 ∧ ws i = nI w ∧ t.2 4 w = nI (i + 1) ∧ t.2 5 w = vs i ∧ wd (vs i)) (hl : ∀ w, w < 128 → t.2 4 w = 0 ∨ ∃ i : Nat, i < c ∧ ws i = nI w ∧ t.2 4 w = nI (i + 1)) :
    ∀ (n i : Nat) (g h : Nat → Int32), i ≤ 128 → 128 - i < n → (∀ j, j < c → ∀ w, w < i → ws j = nI w → g j = nI w ∧ h j = vs j) →
    ∃ g' h' : Nat → Int32, f_M_checkpoint_112 n (nI i) (xsf (xsf t 9 g) 10 h) = f_M_checkpoint_177 1000 0 (xsc (xsf (xsf t 9 g') 10 h') 6 (t.1 1)) ∧ ∀ j, j < c → ∀ w, w < 128 → ws j = nI w → g' j = nI w ∧ h' j = vs j := by
  intro n
  induction n with
  | zero => intro i g h _ h2; omega
  | succ n ih =>
    intro i g h hi hf hh
    unfold f_M_checkpoint_112
    by_cases hd : i = 128
    · subst hd
      refine ⟨g, h, ?_, hh⟩
      rw [if_pos (by decide)]
      rfl
    · have e1 : ¬ (128 : Int32) ≤ nI i := nI_ge (b := 128) (by omega) (by omega)
      have e2 : xin (nI i) 128 = true := xin_nI (by omega) (by omega)
      rw [if_neg e1, if_pos e2, if_pos e2, if_pos e2, if_pos e2, nI_c (by omega)]
      unfold f_M_checkpoint_161
      rw [nI_1]
      show ∃ g' h' : Nat → Int32, (if t.2 4 i ≤ 0 then f_M_checkpoint_112 n (nI (i + 1)) (xsf (xsf t 9 g) 10 h) else if xin (t.2 4 i - 1) 8 = true then if xin (t.2 4 i - 1) 8 = true then f_M_checkpoint_112 n (nI (i + 1)) (xsa (xsa (xsf (xsf t 9 g) 10 h) 9 (t.2 4 i - 1).toNatClampNeg (nI i)) 10 (t.2 4 i - 1).toNatClampNeg (t.2 5 i)) else none else none) = _ ∧ _
      rcases hl i (by omega) with h0 | ⟨j, j1, j2, j3⟩
      · rw [if_pos (show t.2 4 i ≤ 0 from by rw [h0]; exact Int32.le_refl _)]
        refine ih (i + 1) g h (by omega) (by omega) ?_
        intro j hj w hwi hwj
        by_cases hwi' : w = i
        · subst hwi'
          obtain ⟨w', w1, w2, w3, -⟩ := hw j hj
          have : w' = w := (nI_eq (by omega) (by omega)).mp (w2.symm.trans hwj)
          subst this
          rw [h0] at w3
          exact absurd ((nI_eq (a := 0) (by omega) (by omega)).mp w3) (by omega)
        · exact hh j hj w (by omega) hwj
      · obtain ⟨w', w1, w2, w3, w4, w5⟩ := hw j j1
        have hw' : w' = i := (nI_eq (by omega) (by omega)).mp (w2.symm.trans j2)
        subst hw'
        have e4 : t.2 4 w' - 1 = nI j := by rw [j3, nI_pred]
        have e5 : xin (nI j) 8 = true := xin_nI (by omega) (by omega)
        have e3 : xsa (xsa (xsf (xsf t 9 g) 10 h) 9 j (nI w')) 10 j (t.2 5 w') = xsf (xsf t 9 (upd g j (nI w'))) 10 (upd h j (t.2 5 w')) := by
          rw [xsa_def, xsa_def]
          show xsf (xsf (xsf (xsf t 9 g) 10 h) 9 (upd g j (nI w'))) 10 (upd h j (t.2 5 w')) = _
          rw [xsf_comm (xsf t 9 g) (n := 10) (m := 9) (by decide), xsf_two, xsf_two]
        rw [if_neg (show ¬ t.2 4 w' ≤ 0 from by rw [j3]; exact nI_nle (by omega) (by omega)), e4, if_pos e5, if_pos e5, nI_c (by omega), e3]
        refine ih (w' + 1) _ _ (by omega) (by omega) ?_
        intro j' hj' w hwi hwj
        by_cases hjj : j' = j
        · subst hjj
          rw [pk_us, pk_us]
          exact ⟨j2.symm.trans hwj, w4⟩
        · rw [pk_un hjj, pk_un hjj]
          refine hh j' hj' w ?_ hwj
          rcases Nat.lt_or_ge w w' with q | q
          · exact q
          · have hww : w = w' := by omega
            subst hww
            obtain ⟨w'', v1, v2, v3, -⟩ := hw j' hj'
            have : w'' = w := (nI_eq (by omega) (by omega)).mp (v2.symm.trans hwj)
            subst this
            exact absurd ((nI_eq (by omega) (by omega)).mp (v3.symm.trans j3)) (by omega)
theorem ck_177 (t : xS) {q : Nat} (hq : q ≤ 4) (h1 : t.1 1 = nI q) (hx : xbl (t.1 4) = true) : ∀ (n i : Nat) (g : Nat → Int32), i ≤ q → q - i < n → (∀ k, k < i → g k = t.2 6 k) →
    ∃ g' : Nat → Int32, f_M_checkpoint_177 n (nI i) (xsf t 11 g) = f_M_finish (xsc (xsc (xsc (xsf t 11 g') 7 0) 8 (t.1 4)) 9 1) ∧ ∀ k, k < q → g' k = t.2 6 k := by
  intro n
  induction n with
  | zero => intro i g _ h2; omega
  | succ n ih =>
    intro i g hi hf hh
    unfold f_M_checkpoint_177
    by_cases hd : i = q
    · subst hd
      refine ⟨g, ?_, hh⟩
      rw [if_pos (show (xsf t 11 g).1 1 ≤ nI i from by show t.1 1 ≤ _; rw [h1]; exact Int32.le_refl _), if_pos (show xbl ((xsf t 11 g).1 4) = true from hx), bind_eta1]
      rfl
    · have e1 : ¬ (xsf t 11 g).1 1 ≤ nI i := by
        show ¬ t.1 1 ≤ _
        rw [h1]
        exact nI_ge (by omega) (by omega)
      have e2 : xin (nI i) 8 = true := xin_nI (by omega) (by omega)
      have e3 : xsa (xsf t 11 g) 11 i (t.2 6 i) = xsf t 11 (upd g i (t.2 6 i)) := by
        rw [xsa_def]
        show xsf (xsf t 11 g) 11 (upd g i (t.2 6 i)) = _
        rw [xsf_two]
      obtain ⟨g', a1, a2⟩ := ih (i + 1) (upd g i (t.2 6 i)) (by omega) (by omega) (by
        intro k hk
        by_cases hki : k = i
        · subst hki
          rw [pk_us]
        · rw [pk_un hki]
          exact hh k (by omega))
      refine ⟨g', ?_, a2⟩
      rw [if_neg e1, if_pos e2, if_pos e2, nI_c (by omega), nI_1]
      show f_M_checkpoint_177 n (nI (i + 1)) (xsa (xsf t 11 g) 11 i (t.2 6 i)) = _
      rw [e3, a1]
def Pre (x : Int32) (s t : xS) : Prop := Las s t ∧ Vol 4 4 s t ∧ LKr (s.2 10) (t.2 0) ∧ (s.1 1 = 1 ∧ t.1 15 = 1) ∧ t.1 4 = x ∧ xbl x = true
def CkNo (s s' t' : xS) : Prop := Las s' t' ∧ (s'.1 0 = s.1 0 ∧ s'.1 12 = s.1 12) ∧ (s'.1 1 = 0 ∧ s'.2 0 0 = 0 ∧ s'.2 0 1 = 0) ∧ RG 5 t'
def CkOK (x : Int32) (s s' t' : xS) : Prop := Las s' t' ∧ Vol 0 0 s' t' ∧ LKr (s'.2 10) (t'.2 0) ∧ (s'.1 0 = s.1 0 ∧ s'.1 12 = s.1 12) ∧ (s'.1 1 = 1 ∧ t'.1 15 = 1) ∧ t'.1 4 = 0 ∧ t'.1 14 = if x = 0 then 1 else 3
/-- an empty section on both sides -/
theorem Vol.emp {s t : xS} (h : Las s t) (hs : s.1 7 = 0 ∧ s.1 8 = 0 ∧ s.1 9 = 0 ∧ s.1 10 = 0 ∧ s.1 11 = 0) (hm : ∀ k, k < 128 → s.2 5 k = 0) (ht : t.1 0 = 0 ∧ t.1 1 = 0 ∧ t.1 2 = 0 ∧ t.1 3 = 0) (hk : ∀ k, k < 128 → t.2 3 k = 0 ∧ t.2 4 k = 0) (hr : LKs (s.2 9) (t.2 1)) : Vol 0 0 s t := by
  obtain ⟨-, ⟨j, j1, j2, -⟩, ⟨u, v, z, b1, b2, b3, b4, -⟩, -⟩ := h
  obtain ⟨s7, s8, s9, s10, s11⟩ := hs
  obtain ⟨t0, t1, t2, t3⟩ := ht
  refine ⟨⟨0, j, by omega, by omega, j1, s8, t2, j2⟩, ⟨0, u, by omega, by omega, s11, t1, b4, fun i hi => by omega⟩, ⟨0, by omega, s10, t0, fun i hi => by omega, fun w hw => Or.inl (hk w hw).2⟩, ⟨fun k hk' => ⟨(hm k hk').trans (hk k hk').1.symm, Or.inl (hk k hk').1⟩, ?_⟩, hr, s9.trans t3.symm⟩
  rw [s7, ct_zero 128 (fun k hk' => (hk k hk').1)]
  rfl
def flS (x : Int32) (s : xS) : xS := xsc (xsc (xsc (xsc (xsc (xsc (xsc (xsf (xsf (xsf (xsf (xsf s 11 (va_cpy (s.2 10) (s.2 11) 0 0 16)) 12 (va_cpy (s.2 9) (s.2 12) 0 0 16)) 13 (va_cpy (s.2 6) (s.2 13) 0 0 4)) 14 (va_cpy (s.2 7) (s.2 14) 0 0 4)) 15 (va_cpy (s.2 8) (s.2 15) 0 0 4)) 23 (s.1 10)) 24 (s.1 11)) 19 (s.1 19 + s.1 9)) 20 0) 21 x) 22 0) 18 (s.1 18 + 1)
theorem flip_ok {x : Int32} (s : xS) (hx : xbl x = true) : f_Keeper_flip x s = some (flS x s) := by
  unfold f_Keeper_flip f_Keeper_keepVolatile f_Held_copyFrom
  rw [Option.bind_some, Option.bind_some, if_pos hx]
  rfl
theorem ck_flip {x : Int32} {s t : xS} (h : Pre x s t) :
    ∃ s1 t1, f_Keeper_flip x s = some s1 ∧ f_M_checkpoint_66 1000 0 (xsc (xsc (xsc t 19 (t.1 19 + 1)) 10 (t.1 10 + t.1 3)) 3 0) = f_M_finish t1 ∧ Las s1 t1 ∧ (s1.1 1 = 1 ∧ t1.1 15 = 1) ∧ (s1.1 0 = s.1 0 ∧ s1.1 12 = s.1 12) ∧ LKr (s1.2 10) (t1.2 0) ∧ LKs (s1.2 9) (t1.2 1) ∧ t1.1 3 = 0 ∧ t1.1 8 = x := by
  obtain ⟨⟨a1, a2, ⟨u, v, z, b1, b2, b3, b4, b5, b6, b7, b8, b9, b10, b11⟩, a4, a5, a6, a7, a8, a9, a10, a11, a12⟩, ⟨v1, ⟨q, u', q1, q2, q3, q4, q5, q6⟩, ⟨c, c1, c2, c3, c4, c5⟩, v4, v5, v6⟩, hr, ⟨p1, p2⟩, e4, hx⟩ := h
  have huu : u' = u := (nI_eq (by omega) (by omega)).mp (q5.symm.trans b4)
  subst huu
  obtain ⟨g1, h1, d1, d2⟩ := ck_66 (xsc (xsc (xsc t 19 (t.1 19 + 1)) 10 (t.1 10 + t.1 3)) 3 0) 1000 0 (t.2 7) (t.2 8) (by omega) (by omega) (fun k hk => by omega)
  obtain ⟨g2, h2, d3, d4⟩ := ck_112 (xsc (xsf (xsf (xsc (xsc (xsc t 19 (t.1 19 + 1)) 10 (t.1 10 + t.1 3)) 3 0) 7 g1) 8 h1) 5 (t.1 0)) (c := c) (ws := s.2 6) (vs := s.2 7) c1 c4 c5 1000 0 (t.2 9) (t.2 10) (by omega) (by omega) (fun k hk w hw => by omega)
  obtain ⟨g3, d5, d6⟩ := ck_177 (xsc (xsf (xsf (xsc (xsf (xsf (xsc (xsc (xsc t 19 (t.1 19 + 1)) 10 (t.1 10 + t.1 3)) 3 0) 7 g1) 8 h1) 5 (t.1 0)) 9 g2) 10 h2) 6 (t.1 1)) (q := q) q1 q4 (by show xbl (t.1 4) = true; rw [e4]; exact hx) 1000 0 (t.2 11) (by omega) (by omega) (fun k hk => by omega)
  have f1 : xsf (xsf (xsc (xsc (xsc t 19 (t.1 19 + 1)) 10 (t.1 10 + t.1 3)) 3 0) 7 (t.2 7)) 8 (t.2 8) = xsc (xsc (xsc t 19 (t.1 19 + 1)) 10 (t.1 10 + t.1 3)) 3 0 := by
    rw [show xsf (xsc (xsc (xsc t 19 (t.1 19 + 1)) 10 (t.1 10 + t.1 3)) 3 0) 7 (t.2 7) = xsc (xsc (xsc t 19 (t.1 19 + 1)) 10 (t.1 10 + t.1 3)) 3 0 from xsf_self (xsc (xsc (xsc t 19 (t.1 19 + 1)) 10 (t.1 10 + t.1 3)) 3 0) 7]
    exact xsf_self (xsc (xsc (xsc t 19 (t.1 19 + 1)) 10 (t.1 10 + t.1 3)) 3 0) 8
  rw [f1] at d1
  have f2 : ∀ y : xS, xsf (xsf y 9 (y.2 9)) 10 (y.2 10) = y := fun y => by rw [xsf_self, xsf_self]
  have f3 : f_M_checkpoint_112 1000 0 (xsc (xsf (xsf (xsc (xsc (xsc t 19 (t.1 19 + 1)) 10 (t.1 10 + t.1 3)) 3 0) 7 g1) 8 h1) 5 (t.1 0)) = _ := (congrArg (f_M_checkpoint_112 1000 0) (f2 (xsc (xsf (xsf (xsc (xsc (xsc t 19 (t.1 19 + 1)) 10 (t.1 10 + t.1 3)) 3 0) 7 g1) 8 h1) 5 (t.1 0))).symm).trans d3
  have f4 := (congrArg (f_M_checkpoint_177 1000 0) (xsf_self (xsc (xsf (xsf (xsc (xsf (xsf (xsc (xsc (xsc t 19 (t.1 19 + 1)) 10 (t.1 10 + t.1 3)) 3 0) 7 g1) 8 h1) 5 (t.1 0)) 9 g2) 10 h2) 6 (t.1 1)) 11).symm).trans d5
  refine ⟨flS x s, _, flip_ok s hx, (show f_M_checkpoint_66 1000 0 _ = _ from d1).trans (f3.trans f4), ?_, ⟨?_, p2⟩, ⟨?_, ?_⟩, ?_, ?_, rfl, e4⟩
  · refine ⟨a1, a2, ⟨u', q, 0, by omega, by omega, by omega, b4, b5, q3, q4, rfl, rfl, b10, fun i hi => ?_⟩, a4, a5, fun k hk => ?_, fun k hk => ?_, ⟨c, c1, c2, c3, fun i hi => ?_⟩, ⟨e4.symm, hx, Or.inr ⟨rfl, rfl⟩⟩, ?_, ?_, a12⟩
    · show va_cpy (s.2 8) (s.2 15) 0 0 4 i = g3 i
      rw [va0 (by omega), d6 i hi]
      exact q6 i hi
    · show va_cpy (s.2 10) (s.2 11) 0 0 16 k = g1 k ∧ rg k (g1 k)
      rw [va0 hk, (d2 k hk).1]
      exact hr k hk
    · show va_cpy (s.2 9) (s.2 12) 0 0 16 k = h1 k ∧ wd (h1 k)
      rw [va0 hk, (d2 k hk).2]
      exact v5 k hk
    · obtain ⟨w, w1, w2, w3, w4, w5⟩ := c4 i hi
      obtain ⟨y1, y2⟩ := d4 i hi w w1 w2
      show (∃ w : Nat, w < 128 ∧ va_cpy (s.2 6) (s.2 13) 0 0 4 i = nI w ∧ g2 i = nI w) ∧ va_cpy (s.2 7) (s.2 14) 0 0 4 i = h2 i ∧ wd (h2 i)
      rw [va0 (by omega), va0 (by omega), y1, y2]
      exact ⟨⟨w, w1, w2, rfl⟩, rfl, w5⟩
    · show s.1 19 + s.1 9 = t.1 10 + t.1 3
      rw [a10, v6]
    · show s.1 18 + 1 = t.1 19 + 1
      rw [a11]
  · exact p1
  · rfl
  · rfl
  · exact hr
  · exact v5
theorem Pre.wr {x : Int32} {s t : xS} (h : Pre x s t) :
    (∃ (g : Nat → Int32) (y : Int32), f_Power_allows 0 s = some (1, okS s g) ∧ f_M_write t = some (1, okT t y) ∧ Pre x (okS s g) (okT t y)) ∨
    (∃ g k : Nat → Int32, f_Power_allows 0 s = some (0, noS s) ∧ f_M_write t = some (0, offS t g k) ∧ CkNo s (noS s) (offS t g k)) := by
  obtain ⟨hl, hv, hr, ⟨p1, p2⟩, e4, hx⟩ := h
  rcases pw0 hl p1 p2 with ⟨g, y, c1, c2, c3⟩ | ⟨g, k, c0, c1, c2, c3⟩
  · exact Or.inl ⟨g, y, c1, c2, c3, hv, hr, ⟨p1, p2⟩, e4, hx⟩
  · exact Or.inr ⟨g, k, c1, c2, c3, ⟨rfl, rfl⟩, ⟨rfl, rfl, rfl⟩, rfl, rfl, rfl, rfl, rfl, rfl, rfl, rfl, c0, 0, by omega, rfl⟩
theorem ck_lp {x : Int32} {N : Nat} (hN : N ≤ 100) : ∀ (n i : Nat) (s t : xS), Pre x s t → i ≤ N → N - i + 1 < n →
    (∃ s' t', f_Keeper_checkpoint_29 n x (nI N) (nI i) s = some (1, s') ∧ f_M_checkpoint_17 n (nI (N + 1)) (nI i) t = some t' ∧ CkOK x s s' t') ∨
    (∃ s' t', f_Keeper_checkpoint_29 n x (nI N) (nI i) s = some (0, s') ∧ f_M_checkpoint_17 n (nI (N + 1)) (nI i) t = some t' ∧ CkNo s s' t') := by
  intro n
  induction n with
  | zero => intro i s t _ _ h; omega
  | succ n ih =>
    intro i s t h hi hf
    unfold f_Keeper_checkpoint_29 f_M_checkpoint_17
    rw [if_neg (nI_ge (a := i) (b := N + 1) (by omega) (by omega))]
    by_cases hd : i = N
    · subst hd
      rw [if_pos (Int32.le_refl _)]
      rcases h.wr with ⟨g, y, c1, c2, c3⟩ | ⟨g, k, c1, c2, c3⟩
      · rw [c1, c2, Option.bind_some, Option.bind_some, if_neg one_ne0, if_neg one_ne0]
        obtain ⟨m, rfl⟩ : ∃ m, n = m + 1 := ⟨n - 1, by omega⟩
        unfold f_M_checkpoint_17
        rw [nI_1, if_pos (Int32.le_refl _)]
        obtain ⟨s1, t1, d1, d2, d3, ⟨d4, d5⟩, ⟨d6, d7⟩, d8, d9, d10, d11⟩ := ck_flip c3
        show (∃ s' t', (f_Keeper_flip x (okS s g)).bind _ = _ ∧ f_M_checkpoint_66 1000 0 (xsc (xsc (xsc (okT t y) 19 ((okT t y).1 19 + 1)) 10 ((okT t y).1 10 + (okT t y).1 3)) 3 0) = _ ∧ _) ∨ (∃ s' t', (f_Keeper_flip x (okS s g)).bind _ = _ ∧ f_M_checkpoint_66 1000 0 (xsc (xsc (xsc (okT t y) 19 ((okT t y).1 19 + 1)) 10 ((okT t y).1 10 + (okT t y).1 3)) 3 0) = _ ∧ _)
        rw [d1, d2, Option.bind_some]
        rcases p_finish d3 d4 d5 with ⟨s2, t2, e1, e2, e3, e4, ⟨e5, e6, e7⟩, ⟨e8, e9, e10⟩, e11, e12⟩ | ⟨s2, t2, e1, e2, e3, e4, e5, e6⟩
        · rw [e1, e2, Option.bind_some, if_neg one_ne0]
          obtain ⟨gg, k1, k2⟩ := begin_ok s2
          show (∃ s' t', (f_Section_begin s2).bind _ = _ ∧ _) ∨ (∃ s' t', (f_Section_begin s2).bind _ = _ ∧ _)
          rw [k2, Option.bind_some]
          refine Or.inl ⟨_, _, rfl, rfl, ?_, ?_, ?_, ⟨?_, ?_⟩, ⟨e5, e8⟩, e12.2.2.2.1, ?_⟩
          · obtain ⟨a1, a2, a3, a4, a5, a6, a7, a8, a9, a10, a11, a12⟩ := e3
            exact ⟨a1, a2, a3, a4, a5, a6, a7, a8, a9, a10, a11, a12⟩
          · refine Vol.emp ?_ ⟨rfl, rfl, rfl, rfl, rfl⟩ k1 ⟨e12.1, e12.2.1, e12.2.2.1, ?_⟩ e12.2.2.2.2 ?_
            · obtain ⟨a1, a2, a3, a4, a5, a6, a7, a8, a9, a10, a11, a12⟩ := e3
              exact ⟨a1, a2, a3, a4, a5, a6, a7, a8, a9, a10, a11, a12⟩
            · exact (congrArg (fun q => q.1.1) e11).trans d10
            · show LKs (s2.2 9) (t2.2 1)
              rw [show s2.2 9 = s1.2 9 from congrArg (fun q => q.2.2.1) e4, show t2.2 1 = t1.2 1 from congrArg (fun q => q.2.2.1) e11]
              exact d9
          · show LKr (s2.2 10) (t2.2 0)
            rw [show s2.2 10 = s1.2 10 from congrArg (fun q => q.2.2.2.1) e4, show t2.2 0 = t1.2 0 from congrArg (fun q => q.2.1) e11]
            exact d8
          · exact (show s2.1 0 = s1.1 0 from congrArg (fun q => q.1.1) e4).trans d6
          · exact (show s2.1 12 = s1.1 12 from congrArg (fun q => q.1.2.2.2.2.2.2) e4).trans d7
          · rw [e10, d11]
        · rw [e1, e2, Option.bind_some, if_pos rfl]
          exact Or.inr ⟨s2, t2, rfl, rfl, e3, ⟨(show s2.1 0 = s1.1 0 from congrArg (fun q => q.1.1) e4).trans d6, (show s2.1 12 = s1.1 12 from congrArg (fun q => q.1.2.2.2.2.2.2) e4).trans d7⟩, e5, e6⟩
      · rw [c1, c2, Option.bind_some, Option.bind_some, if_pos rfl, if_pos rfl]
        exact Or.inr ⟨_, _, rfl, rfl, c3⟩
    · rw [if_neg (nI_ge (a := i) (b := N) (by omega) (by omega))]
      rcases h.wr with ⟨g, y, c1, c2, c3⟩ | ⟨g, k, c1, c2, c3⟩
      · rw [c1, c2, Option.bind_some, Option.bind_some, if_neg one_ne0, if_neg one_ne0, nI_1]
        exact ih (i + 1) _ _ c3 (by omega) (by omega)
      · rw [c1, c2, Option.bind_some, Option.bind_some, if_pos rfl, if_pos rfl]
        exact Or.inr ⟨_, _, rfl, rfl, c3⟩
theorem p_check {x : Int32} {s t : xS} (h : Pre x s t) :
    (∃ s' t', f_Keeper_checkpoint x s = some (1, s') ∧ f_M_checkpoint t = some t' ∧ CkOK x s s' t') ∨
    (∃ s' t', f_Keeper_checkpoint x s = some (0, s') ∧ f_M_checkpoint t = some t' ∧ CkNo s s' t') := by
  have hh := h
  obtain ⟨-, ⟨-, ⟨q, u', q1, q2, q3, q4, -⟩, ⟨c, c1, c2, c3, -⟩, -⟩, -⟩ := h
  unfold f_Keeper_checkpoint f_M_checkpoint
  rw [q3, q4, c2, c3, show (36 : Int32) + 2 * nI c + nI q = nI (36 + 2 * c + q) from by rw [show (2 : Int32) * nI c = nI (2 * c) from pk_mul 2 c, show (36 : Int32) + nI (2 * c) = nI (36 + 2 * c) from nI_add 36 (2 * c), nI_add], show (37 : Int32) + 2 * nI c + nI q = nI (36 + 2 * c + q + 1) from by
    rw [show (2 : Int32) * nI c = nI (2 * c) from pk_mul 2 c, show (37 : Int32) + nI (2 * c) = nI (37 + 2 * c) from nI_add 37 (2 * c), nI_add]
    exact congrArg nI (by omega)]
  exact ck_lp (by omega) 1000 0 s t hh (by omega) (by omega)
