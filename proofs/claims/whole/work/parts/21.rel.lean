-- relations between the class's state s and the reference's t
def rg (k : Nat) (x : Int32) : Prop := ∃ n : Nat, n < 65536 ∧ x = nI n ∧ (k < 2 → n % 2 = 0) ∧ (k = 2 → n &&& 263 = n) ∧ (k = 3 → n = 0)
theorem rg.wd {k : Nat} {x : Int32} (h : rg k x) : wd x := by
  obtain ⟨n, h1, h2, -⟩ := h
  exact ⟨n, h1, h2⟩
def LFr (a b : Nat → Int32) : Prop := ∀ k, k < 128 → a k = b k ∧ wd (b k)
def LLg (n m : Int32) (a b : Nat → Int32) : Prop := ∃ j : Nat, j ≤ 4 ∧ n = nI j ∧ m = nI j ∧ ∀ i, i < j → a i = b i ∧ wd (b i)
def LSn (n m ka kb ra rb : Int32) (a b c d : Nat → Int32) : Prop := ∃ u v z : Nat, u + v ≤ 200 + z ∧ z ≤ v ∧ v ≤ 4 ∧ n = nI u ∧ m = nI u ∧ ka = nI v ∧ kb = nI v ∧ ra = nI z ∧ rb = nI z ∧ (∀ i, i < u → a i = b i) ∧ ∀ i, i < v → c i = d i
def LSm (n m f : Int32) (a b : Nat → Int32) : Prop := ∃ u v : Nat, u ≤ 16 ∧ v < 16 ∧ n = nI u ∧ m = nI u ∧ f = nI v ∧ ∀ i, i < u → a ((v + i) % 16) = b i ∧ wd (b i)
def LTd (a : Nat → Int32) (x y : Int32) : Prop := ∃ u v : Nat, u ≤ 1000 ∧ v ≤ 1000 ∧ a 0 = nI u ∧ x = nI u ∧ a 1 = nI v ∧ y = nI v
def LKr (a b : Nat → Int32) : Prop := ∀ k, k < 16 → a k = b k ∧ rg k (b k)
def LKs (a b : Nat → Int32) : Prop := ∀ k, k < 16 → a k = b k ∧ wd (b k)
def LKw (n m : Int32) (a b c d : Nat → Int32) : Prop := ∃ u : Nat, u ≤ 4 ∧ n = nI u ∧ m = nI u ∧ ∀ i, i < u → (∃ w : Nat, w < 128 ∧ a i = nI w ∧ b i = nI w) ∧ c i = d i ∧ wd (d i)
def LFl (h h' fn un : Int32) : Prop := h = h' ∧ xbl h = true ∧ ((fn = 1 ∧ un = 0) ∨ (fn = 0 ∧ un = 1))
def Las (s t : xS) : Prop := LFr (s.2 1) (t.2 2) ∧ LLg (s.1 3) (t.1 11) (s.2 2) (t.2 12) ∧ LSn (s.1 4) (t.1 13) (s.1 24) (t.1 6) (s.1 20) (t.1 7) (s.2 3) (t.2 14) (s.2 15) (t.2 11) ∧ LSm (s.1 6) (t.1 12) (s.1 5) (s.2 4) (t.2 13) ∧ LTd (s.2 0) (t.1 16) (t.1 17) ∧ LKr (s.2 11) (t.2 7) ∧ LKs (s.2 12) (t.2 8) ∧ LKw (s.1 23) (t.1 5) (s.2 13) (t.2 9) (s.2 14) (t.2 10) ∧ LFl (s.1 21) (t.1 8) (s.1 22) (t.1 9) ∧ s.1 19 = t.1 10 ∧ s.1 18 = t.1 19 ∧ s.1 2 = t.1 18
def ct (f : Nat → Int32) : Nat → Nat
  | 0 => 0
  | n + 1 => ct f n + if f n = 0 then 0 else 1
def VLd (m : Nat) (x y lg : Int32) : Prop := ∃ a j : Nat, a ≤ m ∧ a ≤ j ∧ j ≤ 4 ∧ x = nI a ∧ y = nI a ∧ lg = nI j
def VQu (b : Nat) (x y sc : Int32) (a c : Nat → Int32) : Prop := ∃ q u : Nat, q ≤ b ∧ u + q ≤ 200 ∧ x = nI q ∧ y = nI q ∧ sc = nI u ∧ ∀ i, i < q → a i = c i
def VBf (b : Nat) (x y : Int32) (ws vs ln hd : Nat → Int32) : Prop := ∃ n : Nat, n ≤ b ∧ x = nI n ∧ y = nI n ∧ (∀ i, i < n → ∃ w : Nat, w < 128 ∧ ws i = nI w ∧ ln w = nI (i + 1) ∧ hd w = vs i ∧ wd (vs i)) ∧ ∀ w, w < 128 → ln w = 0 ∨ ∃ i : Nat, i < n ∧ ws i = nI w ∧ ln w = nI (i + 1)
def VTk (x : Int32) (mk tr : Nat → Int32) : Prop := (∀ k, k < 128 → mk k = tr k ∧ (tr k = 0 ∨ tr k = 1 ∨ tr k = 2)) ∧ x = nI (ct tr 128)
/-- the section, sram; not the registers -/
def Vol (m b : Nat) (s t : xS) : Prop := VLd m (s.1 8) (t.1 2) (s.1 3) ∧ VQu b (s.1 11) (t.1 1) (s.1 4) (s.2 8) (t.2 6) ∧ VBf b (s.1 10) (t.1 0) (s.2 6) (s.2 7) (t.2 4) (t.2 5) ∧ VTk (s.1 7) (s.2 5) (t.2 3) ∧ LKs (s.2 9) (t.2 1) ∧ s.1 9 = t.1 3
/-- power is there: a step is under way -/
def On (m b : Nat) (s t : xS) : Prop := Las s t ∧ Vol m b s t ∧ (s.1 0 = 1 ∧ t.1 14 = 1 ∧ s.1 1 = 1 ∧ t.1 15 = 1) ∧ (s.1 12 = t.1 4 ∧ xbl (s.1 12) = true)
/-- what the reference is with the power gone -/
def RG (c : Nat) (t : xS) : Prop := t.1 15 = 0 ∧ t.1 14 = 2 ∧ t.1 16 = 0 ∧ t.1 17 = 0 ∧ t.1 3 = 0 ∧ t.1 0 = 0 ∧ t.1 1 = 0 ∧ t.1 4 = 0 ∧ (∀ k, k < 128 → t.2 3 k = 0 ∧ t.2 4 k = 0) ∧ ∃ a : Nat, a ≤ c ∧ t.1 2 = nI a
/-- what the class is with the power gone, before it is wiped -/
def CG (c : Nat) (s : xS) : Prop := s.1 0 = 1 ∧ s.1 1 = 0 ∧ s.2 0 0 = 0 ∧ s.2 0 1 = 0 ∧ xbl (s.1 12) = true ∧ (∃ a : Nat, a ≤ 4 ∧ s.1 10 = nI a) ∧ (∃ a : Nat, a ≤ 4 ∧ s.1 11 = nI a) ∧ ∃ a : Nat, a ≤ c ∧ s.1 8 = nI a
def Gone (c : Nat) (s t : xS) : Prop := Las s t ∧ CG c s ∧ RG c t
/-- the class's processor is left alone; the reference's -/
def Fc (s s' : xS) : Prop := s'.2 10 = s.2 10 ∧ s'.1 13 = s.1 13 ∧ s'.1 14 = s.1 14 ∧ s'.1 15 = s.1 15 ∧ s'.1 16 = s.1 16 ∧ s'.1 17 = s.1 17
def Ft (t t' : xS) : Prop := t'.2 0 = t.2 0 ∧ t'.1 20 = t.1 20 ∧ t'.1 21 = t.1 21
theorem Fc.rf (s : xS) : Fc s s := ⟨rfl, rfl, rfl, rfl, rfl, rfl⟩
theorem Ft.rf (s : xS) : Ft s s := ⟨rfl, rfl, rfl⟩
theorem Fc.tr {a b c : xS} (h : Fc a b) (g : Fc b c) : Fc a c := ⟨g.1.trans h.1, g.2.1.trans h.2.1, g.2.2.1.trans h.2.2.1, g.2.2.2.1.trans h.2.2.2.1, g.2.2.2.2.1.trans h.2.2.2.2.1, g.2.2.2.2.2.trans h.2.2.2.2.2⟩
theorem Ft.tr {a b c : xS} (h : Ft a b) (g : Ft b c) : Ft a c := ⟨g.1.trans h.1, g.2.1.trans h.2.1, g.2.2.trans h.2.2⟩
theorem xsf_self (s : xS) (n : Nat) : xsf s n (s.2 n) = s := by
  unfold xsf
  refine Prod.ext rfl ?_
  funext m
  show (if m = n then s.2 n else s.2 m) = s.2 m
  by_cases h : m = n
  · rw [if_pos h, h]
  · rw [if_neg h]
theorem xsf_two (s : xS) (n : Nat) (f g : Nat → Int32) : xsf (xsf s n f) n g = xsf s n g := by
  unfold xsf
  refine Prod.ext rfl ?_
  funext m
  show (if m = n then g else if m = n then f else s.2 m) = if m = n then g else s.2 m
  by_cases h : m = n
  · rw [if_pos h, if_pos h]
  · rw [if_neg h, if_neg h, if_neg h]
-- the two writes
theorem allows_ok {s : xS} {u : Nat} (h1 : s.1 1 = 1) (h2 : s.2 0 0 = nI u) (hu : u ≤ 1000) (hn : u ≠ 1) : ∃ g : Nat → Int32, g 0 = nI (u - 1) ∧ g 1 = s.2 0 1 ∧ f_Power_allows 0 s = some (1, xsc (xsf s 0 g) 2 (s.1 2 + 1)) := by
  have e1 : ¬ s.1 1 = 0 := by rw [h1]; decide
  have e2 : ¬ s.2 0 0 = 1 := by rw [h2]; exact fun q => hn ((nI_eq (b := 1) (by omega) (by omega)).mp q)
  have e3 : xin (0 : Int32) 2 = true := by decide
  have e4 : (0 : Int32).toNatClampNeg = 0 := by decide
  by_cases h0 : u = 0
  · subst h0
    refine ⟨s.2 0, h2, rfl, ?_⟩
    have e5 : s.2 0 0 ≤ 0 := by rw [h2]; decide
    rw [xsf_self]
    simp [f_Power_allows, f_Power_allows_36, f_Power_allows_64, f_Power_allows_78, e1, e2, e3, e5]
  · refine ⟨upd (s.2 0) 0 (nI (u - 1)), rfl, rfl, ?_⟩
    have e5 : ¬ s.2 0 0 ≤ 0 := by rw [h2]; exact nI_nle (by omega) (by omega)
    have e6 : s.2 0 0 - 1 = nI (u - 1) := by rw [h2]; exact pk_sub (b := 1) (by omega)
    simp [f_Power_allows, f_Power_allows_36, f_Power_allows_64, f_Power_allows_78, e1, e2, e3, e5, e6]
    rfl
theorem allows_no {s : xS} (h1 : s.1 1 = 1) (h2 : s.2 0 0 = 1) : f_Power_allows 0 s = some (0, xsa (xsa (xsc s 1 0) 0 0 0) 0 1 0) := by
  have e1 : ¬ s.1 1 = 0 := by rw [h1]; decide
  have e3 : xin (0 : Int32) 2 = true := by decide
  simp [f_Power_allows, f_Power_allows_36, e1, e3, h2]
  intro h
  exact absurd rfl h
theorem allows_gone {s : xS} (x : Int32) (h1 : s.1 1 = 0) : f_Power_allows x s = some (0, s) := by
  simp [f_Power_allows, f_Power_allows_36, h1]
theorem write_ok {t : xS} {u : Nat} (h1 : t.1 15 = 1) (h2 : t.1 16 = nI u) (hu : u ≤ 1000) (hn : u ≠ 1) : f_M_write t = some (1, xsc (xsc t 16 (nI (u - 1))) 18 (t.1 18 + 1)) := by
  have e1 : ¬ t.1 15 = 0 := by rw [h1]; decide
  have e2 : ¬ t.1 16 = 1 := by rw [h2]; exact fun q => hn ((nI_eq (b := 1) (by omega) (by omega)).mp q)
  by_cases h0 : u = 0
  · subst h0
    have e5 : t.1 16 ≤ 0 := by rw [h2]; decide
    simp [f_M_write, f_M_write_41, e1, e2, e5]
    rfl
  · have e5 : ¬ t.1 16 ≤ 0 := by rw [h2]; exact nI_nle (by omega) (by omega)
    have e6 : t.1 16 - 1 = nI (u - 1) := by rw [h2]; exact pk_sub (b := 1) (by omega)
    simp [f_M_write, f_M_write_41, e1, e2, e5, e6]
theorem write_gone {t : xS} (h1 : t.1 15 = 0) : f_M_write t = some (0, t) := by
  simp [f_M_write, h1]
