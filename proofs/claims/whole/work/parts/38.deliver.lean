/-- flags may be pending in the class, while the reference has them -/
def PF (s t : xS) : Prop := (s.1 17 = 0 ∧ LKr (s.2 10) (t.2 0)) ∨ (s.1 17 = 1 ∧ rg 2 (s.1 16) ∧ ((t.1 20 = 1 ∧ t.1 21 = 2 ∧ LKr (s.2 10) (t.2 0)) ∨ (¬ (t.1 20 = 1 ∧ t.1 21 = 2) ∧ LKr (upd (s.2 10) 2 (s.1 16)) (t.2 0))))
theorem setFlags_0 {s : xS} (h : s.1 17 = 0) : f_Processor_setFlags s = some s := by
  unfold f_Processor_setFlags f_Processor_setFlags_17
  rw [if_pos h]
theorem setFlags_1 {s : xS} (h : s.1 17 = 1) : f_Processor_setFlags s = some (xsa s 10 2 (s.1 16)) := by
  unfold f_Processor_setFlags f_Processor_setFlags_17
  rw [h, if_neg one_ne0]
theorem deliver_60 (s : xS) : f_Processor_deliver_60 s = f_Processor_setFlags s := by
  unfold f_Processor_deliver_60 f_Processor_deliver_64
  exact bind_eta1 _
theorem two_ne1 : ¬ (2 : Int32) = 1 := by decide
theorem p_deliver {m b v : Nat} {s t : xS} (hm : m ≤ 4) (hb : b ≤ 3) (hy : s.1 13 = 0 ∨ s.1 13 = 1) (hv : v < cut (s.1 13)) (h : On m b s t) (hk : KP s t) (hp : PF s t) :
    (∃ s2 t2 : xS, f_Processor_deliver (nI v) s = some s2 ∧ f_M_back (nI v) (s.1 13) t = some t2 ∧ OnR m (b + 1) s2 t2) ∨
    (∃ s2 t2 : xS, f_Processor_deliver (nI v) s = some s2 ∧ f_M_back (nI v) (s.1 13) t = some t2 ∧ Gone 5 s2 t2) := by
  have hcr : cut (s.1 13) ≤ 65536 := by unfold cut; split <;> omega
  rcases hk with ⟨k1, k2⟩ | ⟨k1, k2, r, hr, k3, k4⟩ | ⟨k1, k2, a, ha, k3, k4⟩
  · -- nothing to be put
    have hC : f_Processor_deliver (nI v) s = f_Processor_setFlags s := by
      unfold f_Processor_deliver f_Processor_deliver_44
      rw [k1, if_neg (by decide), if_neg (by decide), if_neg (by decide), deliver_60]
    have hR : f_M_back (nI v) (s.1 13) t = some t := by
      unfold f_M_back f_M_back_38
      rw [k2, if_neg (by decide), if_neg (by decide)]
    left
    rw [hC, hR]
    rcases hp with ⟨p1, p2⟩ | ⟨p1, p2, ⟨q, -⟩ | ⟨-, p3⟩⟩
    · exact ⟨s, t, setFlags_0 p1, rfl, h.up, p2⟩
    · rw [k2] at q; exact absurd q (by decide)
    · exact ⟨_, t, setFlags_1 p1, rfl, h.up, p3⟩
  · -- a register
    have hC : f_Processor_deliver (nI v) s = (f_Processor_setRegister (nI r) (nI v) s).bind fun q => f_Processor_deliver_44 q := by
      unfold f_Processor_deliver
      rw [k1, if_neg (by decide), if_pos rfl, k3]
    have hR : f_M_back (nI v) (s.1 13) t = some (xsa t 0 r (nI (rv r v))) := by
      unfold f_M_back f_M_back_38
      rw [k2, if_pos rfl, k4, r_put hr (by omega)]
      rfl
    rw [c_setreg hr (by omega), Option.bind_some] at hC
    have hr2 : nI r = 2 ↔ r = 2 := nI_eq_lit (by omega) 2 (by omega)
    left
    rw [hR]
    by_cases h2 : r = 2
    · subst h2
      rw [if_neg (by omega)] at hC
      have h44 : f_Processor_deliver_44 (xsa s 10 2 (nI (rv 2 v))) = some (xsa s 10 2 (nI (rv 2 v))) := by
        unfold f_Processor_deliver_44 f_Processor_deliver_64
        rw [if_pos (show (xsa s 10 2 (nI (rv 2 v))).1 14 = 1 from k1), if_pos (show (xsa s 10 2 (nI (rv 2 v))).1 15 = 2 from k3)]
      rw [hC, h44]
      have hL : LKr (s.2 10) (t.2 0) := by
        rcases hp with ⟨-, p2⟩ | ⟨-, -, ⟨-, -, p3⟩ | ⟨p3, -⟩⟩
        · exact p2
        · exact p3
        · exact absurd ⟨k2, k4⟩ p3
      exact ⟨_, _, rfl, rfl, OnR.reg (m := m) (b := b + 1) (s := s) (t := t) ⟨h.up, hL⟩ (rv_rg 2 v)⟩
    · have h44 : ∀ q : xS, q.1 14 = 1 → q.1 15 = nI r → f_Processor_deliver_44 q = f_Processor_setFlags q := by
        intro q q1 q2
        unfold f_Processor_deliver_44
        rw [q1, if_pos rfl, q2, if_neg (fun z => h2 (hr2.mp z)), deliver_60]
      rw [hC]
      rcases hp with ⟨p1, p2⟩ | ⟨p1, p2, ⟨-, q, -⟩ | ⟨-, p3⟩⟩
      · -- no flags
        by_cases h3 : r = 3
        · rw [if_pos h3, h44 s k1 k3, setFlags_0 p1]
          subst h3
          refine ⟨s, _, rfl, rfl, h.up, fun i hi => ?_⟩
          show s.2 10 i = upd (t.2 0) 3 (nI (rv 3 v)) i ∧ rg i (upd (t.2 0) 3 (nI (rv 3 v)) i)
          obtain ⟨c1, c2⟩ := p2 i hi
          by_cases hi3 : i = 3
          · subst hi3
            rw [pk_us]
            refine ⟨?_, rv_rg 3 v⟩
            obtain ⟨z, -, c3, -, -, c4⟩ := c2
            rw [c1, c3, c4 rfl]; rfl
          · rw [pk_un hi3]; exact ⟨c1, c2⟩
        · rw [if_neg h3, h44 _ (show (xsa s 10 r (nI (rv r v))).1 14 = 1 from k1) (show (xsa s 10 r (nI (rv r v))).1 15 = nI r from k3), setFlags_0 (show (xsa s 10 r (nI (rv r v))).1 17 = 0 from p1)]
          exact ⟨_, _, rfl, rfl, OnR.reg (m := m) (b := b + 1) (s := s) (t := t) ⟨h.up, p2⟩ (rv_rg r v)⟩
      · exact absurd (hr2.mp (k4.symm.trans q)) h2
      · -- flags behind it
        by_cases h3 : r = 3
        · rw [if_pos h3, h44 s k1 k3, setFlags_1 p1]
          subst h3
          refine ⟨_, _, rfl, rfl, h.up, fun i hi => ?_⟩
          show upd (s.2 10) 2 (s.1 16) i = upd (t.2 0) 3 (nI (rv 3 v)) i ∧ rg i (upd (t.2 0) 3 (nI (rv 3 v)) i)
          obtain ⟨c1, c2⟩ := p3 i hi
          by_cases hi3 : i = 3
          · subst hi3
            rw [pk_us]
            refine ⟨?_, rv_rg 3 v⟩
            obtain ⟨z, -, c3, -, -, c4⟩ := c2
            rw [c1, c3, c4 rfl]; rfl
          · rw [pk_un hi3]; exact ⟨c1, c2⟩
        · rw [if_neg h3, h44 _ (show (xsa s 10 r (nI (rv r v))).1 14 = 1 from k1) (show (xsa s 10 r (nI (rv r v))).1 15 = nI r from k3), setFlags_1 (show (xsa s 10 r (nI (rv r v))).1 17 = 1 from p1)]
          refine ⟨_, _, rfl, rfl, h.up, fun i hi => ?_⟩
          show upd (upd (s.2 10) r (nI (rv r v))) 2 (s.1 16) i = upd (t.2 0) r (nI (rv r v)) i ∧ rg i (upd (t.2 0) r (nI (rv r v)) i)
          by_cases hi2 : i = 2
          · subst hi2
            rw [pk_us, pk_un (fun q => h2 q.symm)]
            obtain ⟨c1, c2⟩ := p3 2 hi
            rw [pk_us] at c1
            exact ⟨c1, c2⟩
          · rw [pk_un hi2]
            by_cases hir : i = r
            · subst hir
              rw [pk_us, pk_us]
              exact ⟨rfl, rv_rg i v⟩
            · rw [pk_un hir, pk_un hir]
              obtain ⟨c1, c2⟩ := p3 i hi
              rw [pk_un hi2] at c1
              exact ⟨c1, c2⟩
  · -- memory
    have hC : f_Processor_deliver (nI v) s = (f_Bus_write (nI a) (nI v) (s.1 13) s).bind fun q => f_Processor_deliver_44 q := by
      unfold f_Processor_deliver
      rw [k1, if_pos rfl, k3]
    have hR : f_M_back (nI v) (s.1 13) t = f_M_store (nI a) (nI v) (s.1 13) t := by
      unfold f_M_back f_M_back_38
      rw [k2, if_neg two_ne1, if_pos rfl, k4]
      exact bind_eta1 _
    have h44 : ∀ q : xS, q.1 14 = 2 → f_Processor_deliver_44 q = f_Processor_setFlags q := by
      intro q q1
      unfold f_Processor_deliver_44
      rw [q1, if_neg two_ne1, deliver_60]
    have hv8 : s.1 13 = 1 → ∃ k, k < 256 ∧ nI v = nI k := by
      intro q
      rw [q] at hv
      exact ⟨v, hv, rfl⟩
    rw [hC, hR]
    rcases p_store hm hb ha hy ⟨v, by omega, rfl⟩ hv8 h with ⟨s1, t1, c1, c2, c3, c4, c5⟩ | ⟨s1, t1, c1, c2, c3, c4, c5⟩
    · left
      rw [c1, Option.bind_some, h44 s1 (c4.2.2.1.trans k1), c2]
      rcases hp with ⟨p1, p2⟩ | ⟨p1, p2, ⟨q, -⟩ | ⟨-, p3⟩⟩
      · refine ⟨s1, t1, setFlags_0 (c4.2.2.2.2.2.trans p1), rfl, c3, ?_⟩
        rw [c4.1, c5.1]; exact p2
      · rw [k2] at q; exact absurd q two_ne1
      · refine ⟨_, t1, setFlags_1 (c4.2.2.2.2.2.trans p1), rfl, c3, ?_⟩
        show LKr (upd (s1.2 10) 2 (s1.1 16)) (t1.2 0)
        rw [c4.1, c5.1, c4.2.2.2.2.1]; exact p3
    · right
      rw [c1, Option.bind_some, h44 s1 (c4.2.2.1.trans k1), c2]
      rcases hp with ⟨p1, p2⟩ | ⟨p1, p2⟩
      · exact ⟨s1, t1, setFlags_0 (c4.2.2.2.2.2.trans p1), rfl, c3⟩
      · exact ⟨_, t1, setFlags_1 (c4.2.2.2.2.2.trans p1), rfl, c3⟩
-- with the power gone
theorem c_setFlags {c : Nat} {s : xS} (h : CG c s) : ∃ s1 : xS, f_Processor_setFlags s = some s1 ∧ CG c s1 ∧ LC s s1 := by
  unfold f_Processor_setFlags f_Processor_setFlags_17
  split
  · exact ⟨s, rfl, h, LC.rf s⟩
  · exact ⟨_, rfl, h, LC.rf s⟩
theorem c_deliver {c : Nat} {v : Int32} {s : xS} (h : CG c s) (hk : KC s) : ∃ s1 : xS, f_Processor_deliver v s = some s1 ∧ CG c s1 ∧ LC s s1 := by
  have h44 : ∀ q : xS, CG c q → ∃ s1 : xS, f_Processor_deliver_44 q = some s1 ∧ CG c s1 ∧ LC q s1 := by
    intro q hq
    obtain ⟨s1, d1, d2, d3⟩ := c_setFlags hq
    unfold f_Processor_deliver_44 f_Processor_deliver_64
    split
    · split
      · exact ⟨q, rfl, hq, LC.rf q⟩
      · rw [deliver_60]; exact ⟨s1, d1, d2, d3⟩
    · rw [deliver_60]; exact ⟨s1, d1, d2, d3⟩
  unfold f_Processor_deliver
  split
  · obtain ⟨s1, c1, c2, c3, -⟩ := c_write (x := s.1 15) (v := v) (y := s.1 13) h
    obtain ⟨s2, d1, d2, d3⟩ := h44 s1 c2
    exact ⟨s2, by rw [c1]; exact d1, d2, c3.tr d3⟩
  · split
    · next q =>
      obtain ⟨r, hr, e⟩ := hk q
      rw [e]
      obtain ⟨s1, c1, c2, c3, -⟩ := c_setany (v := v) hr h
      obtain ⟨s2, d1, d2, d3⟩ := h44 s1 c2
      exact ⟨s2, by rw [c1]; exact d1, d2, c3.tr d3⟩
    · exact h44 s h
theorem r_putany {c k : Nat} {v : Int32} {t : xS} (hk : k < 16) (h : RG c t) : ∃ z : Int32, f_M_put (nI k) v t = some (xsa t 0 k z) := by
  have e := xin_nI hk (N := 16) (by omega)
  unfold f_M_put f_M_put_41
  rw [if_pos e, if_pos e, if_pos e, if_pos e, nI_c (by omega)]
  split
  · split
    · exact ⟨_, rfl⟩
    · split <;> exact ⟨_, rfl⟩
  · exact ⟨_, rfl⟩
theorem r_back {c : Nat} {v y : Int32} {t : xS} (h : RG c t) (hk : KR t) : ∃ t1 : xS, f_M_back v y t = some t1 ∧ RG c t1 ∧ LR t t1 := by
  unfold f_M_back f_M_back_38
  split
  · next q =>
    obtain ⟨r, hr, e⟩ := hk q
    obtain ⟨z, d⟩ := r_putany (v := v) hr h
    rw [e, d]
    exact ⟨_, rfl, h, LR.rf t⟩
  · split
    · rw [r_store h]
      exact ⟨t, rfl, h, LR.rf t⟩
    · exact ⟨t, rfl, h, LR.rf t⟩
