theorem xsf_comm (s : xS) {n m : Nat} (h : n ≠ m) (f g : Nat → Int32) : xsf (xsf s n f) m g = xsf (xsf s m g) n f := by
  unfold xsf
  refine Prod.ext rfl ?_
  funext j
  show (if j = m then g else if j = n then f else s.2 j) = if j = n then f else if j = m then g else s.2 j
  by_cases h1 : j = m
  · have h2 : ¬ j = n := fun q => h (q.symm.trans h1)
    rw [if_pos h1, if_neg h2, if_pos h1]
  · rw [if_neg h1, if_neg h1]
theorem xsa_def (s : xS) (n j : Nat) (v : Int32) : xsa s n j v = xsf s n (upd (s.2 n) j v) := rfl
def fz (s : xS) : xS := xsc (xsc (xsc (xsc s 0 0) 1 0) 2 0) 4 0
theorem fresh_2 (t : xS) : ∀ (fuel i : Nat) (g h : Nat → Int32), i ≤ 128 → 128 - i < fuel → ∃ g' h' : Nat → Int32, f_M_fresh_2 fuel (nI i) (xsf (xsf t 3 g) 4 h) = some (fz (xsf (xsf t 3 g') 4 h')) ∧ (∀ k, k < 128 → i ≤ k → g' k = 0 ∧ h' k = 0) ∧ ∀ k, k < i → g' k = g k ∧ h' k = h k := by
  intro fuel
  induction fuel with
  | zero => intro i g h _ h2; omega
  | succ fuel ih =>
    intro i g h hi hf
    by_cases h128 : i = 128
    · subst h128
      refine ⟨g, h, ?_, fun k h1 h2 => by omega, fun k _ => ⟨rfl, rfl⟩⟩
      unfold f_M_fresh_2
      rw [if_pos (by decide)]
      rfl
    · have hlt : i < 128 := by omega
      have e1 : ¬ (128 : Int32) ≤ nI i := nI_ge (b := 128) hlt (by omega)
      have e2 : xin (nI i) 128 = true := xin_nI hlt (by omega)
      have e3 : xsa (xsa (xsf (xsf t 3 g) 4 h) 3 i 0) 4 i 0 = xsf (xsf t 3 (upd g i 0)) 4 (upd h i 0) := by
        rw [xsa_def, xsa_def]
        show xsf (xsf (xsf (xsf t 3 g) 4 h) 3 (upd g i 0)) 4 (upd h i 0) = _
        rw [xsf_comm (xsf t 3 g) (n := 4) (m := 3) (by decide), xsf_two, xsf_two]
      obtain ⟨g', h', a1, a2, a3⟩ := ih (i + 1) (upd g i 0) (upd h i 0) (by omega) (by omega)
      refine ⟨g', h', ?_, fun k k1 k2 => ?_, fun k k1 => ?_⟩
      · unfold f_M_fresh_2
        rw [if_neg e1, if_pos e2, if_pos e2, nI_c (by omega), nI_1, e3, a1]
      · by_cases hk : k = i
        · subst hk
          obtain ⟨b1, b2⟩ := a3 k (by omega)
          rw [b1, b2, pk_us, pk_us]
          exact ⟨rfl, rfl⟩
        · exact a2 k k1 (by omega)
      · obtain ⟨b1, b2⟩ := a3 k (by omega)
        rw [b1, b2, pk_un (by omega), pk_un (by omega)]
        exact ⟨rfl, rfl⟩
theorem fresh_ok (t : xS) : ∃ g h : Nat → Int32, (∀ k, k < 128 → g k = 0 ∧ h k = 0) ∧ f_M_fresh t = some (fz (xsf (xsf t 3 g) 4 h)) := by
  obtain ⟨g, h, a1, a2, -⟩ := fresh_2 t 1000 0 (t.2 3) (t.2 4) (by omega) (by omega)
  refine ⟨g, h, fun k hk => a2 k hk (by omega), ?_⟩
  rw [show xsf t 3 (t.2 3) = t from xsf_self t 3, xsf_self t 4] at a1
  exact a1
def offS (t : xS) (g h : Nat → Int32) : xS := fz (xsf (xsf (xsc (xsc (xsc (xsc (xsc t 15 0) 14 2) 16 0) 17 0) 3 0) 3 g) 4 h)
theorem off_ok (t : xS) : ∃ g h : Nat → Int32, (∀ k, k < 128 → g k = 0 ∧ h k = 0) ∧ f_M_off t = some (offS t g h) := by
  obtain ⟨g, h, a1, a2⟩ := fresh_ok (xsc (xsc (xsc (xsc (xsc t 15 0) 14 2) 16 0) 17 0) 3 0)
  refine ⟨g, h, a1, ?_⟩
  unfold f_M_off
  rw [a2]
  rfl
theorem write_no {t : xS} (h1 : t.1 15 = 1) (h2 : t.1 16 = 1) : ∃ g h : Nat → Int32, (∀ k, k < 128 → g k = 0 ∧ h k = 0) ∧ f_M_write t = some (0, offS t g h) := by
  obtain ⟨g, h, a1, a2⟩ := off_ok t
  refine ⟨g, h, a1, ?_⟩
  unfold f_M_write
  rw [if_neg (by rw [h1]; decide), if_pos h2, a2]
  rfl
def okS (s : xS) (g : Nat → Int32) : xS := xsc (xsf s 0 g) 2 (s.1 2 + 1)
def okT (t : xS) (x : Int32) : xS := xsc (xsc t 16 x) 18 (t.1 18 + 1)
def noS (s : xS) : xS := xsa (xsa (xsc s 1 0) 0 0 0) 0 1 0
/-- a WRITE is asked for, on both sides -/
theorem pw0 {s t : xS} (h : Las s t) (h1 : s.1 1 = 1) (h2 : t.1 15 = 1) :
    (∃ (g : Nat → Int32) (x : Int32), f_Power_allows 0 s = some (1, okS s g) ∧ f_M_write t = some (1, okT t x) ∧ Las (okS s g) (okT t x)) ∨
    (∃ g k : Nat → Int32, (∀ j, j < 128 → g j = 0 ∧ k j = 0) ∧ f_Power_allows 0 s = some (0, noS s) ∧ f_M_write t = some (0, offS t g k) ∧ Las (noS s) (offS t g k)) := by
  obtain ⟨a1, a2, a3, a4, ⟨u, v, b1, b2, b3, b4, b5, b6⟩, a6, a7, a8, a9, a10, a11, a12⟩ := h
  by_cases hu : u = 1
  · subst hu
    obtain ⟨g, k, c1, c2⟩ := write_no h2 b4
    exact Or.inr ⟨g, k, c1, allows_no h1 b3, c2, a1, a2, a3, a4, ⟨0, 0, by omega, by omega, rfl, rfl, rfl, rfl⟩, a6, a7, a8, a9, a10, a11, a12⟩
  · obtain ⟨g, c1, c2, c3⟩ := allows_ok h1 b3 b1 hu
    refine Or.inl ⟨g, nI (u - 1), c3, write_ok h2 b4 b1 hu, a1, a2, a3, a4, ⟨u - 1, v, by omega, b2, c1, rfl, c2.trans b5, b6⟩, a6, a7, a8, a9, a10, a11, ?_⟩
    show s.1 2 + 1 = t.1 18 + 1
    rw [a12]
/-- the same within a step -/
theorem pw {m b : Nat} {s t : xS} (hm : m ≤ 4) (hb : b ≤ 4) (h : On m b s t) :
    (∃ (g : Nat → Int32) (x : Int32), f_Power_allows 0 s = some (1, okS s g) ∧ f_M_write t = some (1, okT t x) ∧ On m b (okS s g) (okT t x)) ∨
    (∃ g k : Nat → Int32, f_Power_allows 0 s = some (0, noS s) ∧ f_M_write t = some (0, offS t g k) ∧ Gone 5 (noS s) (offS t g k)) := by
  obtain ⟨hl, hv, ⟨p1, p2, p3, p4⟩, q1, q2⟩ := h
  rcases pw0 hl p3 p4 with ⟨g, x, c1, c2, c3⟩ | ⟨g, k, c0, c1, c2, c3⟩
  · exact Or.inl ⟨g, x, c1, c2, c3, hv, ⟨p1, p2, p3, p4⟩, q1, q2⟩
  · refine Or.inr ⟨g, k, c1, c2, c3, ?_, ?_⟩
    · obtain ⟨⟨a, j, v1, v2, v3, v4, -⟩, ⟨qq, u, w1, w2, w3, -⟩, ⟨n, z1, z2, -⟩, -⟩ := hv
      exact ⟨p1, rfl, rfl, rfl, q2, ⟨n, by omega, z2⟩, ⟨qq, by omega, w3⟩, ⟨a, by omega, v4⟩⟩
    · exact ⟨rfl, rfl, rfl, rfl, rfl, rfl, rfl, rfl, c0, 0, by omega, rfl⟩
