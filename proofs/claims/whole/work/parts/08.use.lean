theorem xif_pos {α : Type} {c : Prop} {d : Decidable c} {a b r : α} (hc : c) (h : (@ite α c d a b) = r) : a = r := by rw [if_pos hc] at h; exact h
theorem xif_neg {α : Type} {c : Prop} {d : Decidable c} {a b r : α} (hc : ¬ c) (h : (@ite α c d a b) = r) : b = r := by rw [if_neg hc] at h; exact h
theorem xand {a b : Bool} (ha : a = true) (hb : b = true) : (a && b) = true := by rw [ha, hb]; rfl
abbrev xS : Type := (Nat → Int32) × (Nat → Nat → Int32)
def xsc (s : xS) (n : Nat) (v : Int32) : xS := (upd s.1 n v, s.2)
def xsf (s : xS) (n : Nat) (f : Nat → Int32) : xS := (s.1, fun m => if m = n then f else s.2 m)
def xsa (s : xS) (n j : Nat) (v : Int32) : xS := (s.1, fun m => if m = n then upd (s.2 n) j v else s.2 m)
section XUS
variable {k : Nat} {sc : Option (Nat × (Nat → Int32))} {E : xT} {i : Nat} {L : List (Option Value)} {st : List Value} {w w1 : xW} {nc ns a : Nat} {r : Option Int32} {cd : List xE}
theorem xOK_eq {fr fr' : xF} (h : fr' = fr) (kk : xOK k sc E fr w nc ns) : xOK k sc E fr' w nc ns := by subst h; exact kk
theorem xu_if_eq {off : Int} {pc a b d : Nat} {v x : Int32} (he : xcd k = cd) (hk : k < xN) (hi : xnth cd i = some (pc, .ifCond .eq off, a, b, d, v)) (kt : x = 0 → xOK k sc E (a, L, st) w nc ns) (kf : ¬ x = 0 → xOK k sc E (i + 1, L, st) w nc ns) : xOK k sc E (i, L, .int x :: st) w nc ns := by
  subst he
  exact xs_if_eq hk hi kt kf
theorem xu_icmp_eq {off : Int} {pc a b d : Nat} {v x y : Int32} (he : xcd k = cd) (hk : k < xN) (hi : xnth cd i = some (pc, .if_icmp .eq off, a, b, d, v)) (kt : x = y → xOK k sc E (a, L, st) w nc ns) (kf : ¬ x = y → xOK k sc E (i + 1, L, st) w nc ns) : xOK k sc E (i, L, .int y :: .int x :: st) w nc ns := by
  subst he
  exact xs_icmp_eq hk hi kt kf
theorem xu_if_ne {off : Int} {pc a b d : Nat} {v x : Int32} (he : xcd k = cd) (hk : k < xN) (hi : xnth cd i = some (pc, .ifCond .ne off, a, b, d, v)) (kt : ¬ x = 0 → xOK k sc E (a, L, st) w nc ns) (kf : x = 0 → xOK k sc E (i + 1, L, st) w nc ns) : xOK k sc E (i, L, .int x :: st) w nc ns := by
  subst he
  exact xs_if_ne hk hi kt kf
theorem xu_icmp_ne {off : Int} {pc a b d : Nat} {v x y : Int32} (he : xcd k = cd) (hk : k < xN) (hi : xnth cd i = some (pc, .if_icmp .ne off, a, b, d, v)) (kt : ¬ x = y → xOK k sc E (a, L, st) w nc ns) (kf : x = y → xOK k sc E (i + 1, L, st) w nc ns) : xOK k sc E (i, L, .int y :: .int x :: st) w nc ns := by
  subst he
  exact xs_icmp_ne hk hi kt kf
theorem xu_if_lt {off : Int} {pc a b d : Nat} {v x : Int32} (he : xcd k = cd) (hk : k < xN) (hi : xnth cd i = some (pc, .ifCond .lt off, a, b, d, v)) (kt : x < 0 → xOK k sc E (a, L, st) w nc ns) (kf : ¬ x < 0 → xOK k sc E (i + 1, L, st) w nc ns) : xOK k sc E (i, L, .int x :: st) w nc ns := by
  subst he
  exact xs_if_lt hk hi kt kf
theorem xu_icmp_lt {off : Int} {pc a b d : Nat} {v x y : Int32} (he : xcd k = cd) (hk : k < xN) (hi : xnth cd i = some (pc, .if_icmp .lt off, a, b, d, v)) (kt : x < y → xOK k sc E (a, L, st) w nc ns) (kf : ¬ x < y → xOK k sc E (i + 1, L, st) w nc ns) : xOK k sc E (i, L, .int y :: .int x :: st) w nc ns := by
  subst he
  exact xs_icmp_lt hk hi kt kf
theorem xu_if_ge {off : Int} {pc a b d : Nat} {v x : Int32} (he : xcd k = cd) (hk : k < xN) (hi : xnth cd i = some (pc, .ifCond .ge off, a, b, d, v)) (kt : 0 ≤ x → xOK k sc E (a, L, st) w nc ns) (kf : ¬ 0 ≤ x → xOK k sc E (i + 1, L, st) w nc ns) : xOK k sc E (i, L, .int x :: st) w nc ns := by
  subst he
  exact xs_if_ge hk hi kt kf
theorem xu_icmp_ge {off : Int} {pc a b d : Nat} {v x y : Int32} (he : xcd k = cd) (hk : k < xN) (hi : xnth cd i = some (pc, .if_icmp .ge off, a, b, d, v)) (kt : y ≤ x → xOK k sc E (a, L, st) w nc ns) (kf : ¬ y ≤ x → xOK k sc E (i + 1, L, st) w nc ns) : xOK k sc E (i, L, .int y :: .int x :: st) w nc ns := by
  subst he
  exact xs_icmp_ge hk hi kt kf
theorem xu_if_gt {off : Int} {pc a b d : Nat} {v x : Int32} (he : xcd k = cd) (hk : k < xN) (hi : xnth cd i = some (pc, .ifCond .gt off, a, b, d, v)) (kt : 0 < x → xOK k sc E (a, L, st) w nc ns) (kf : ¬ 0 < x → xOK k sc E (i + 1, L, st) w nc ns) : xOK k sc E (i, L, .int x :: st) w nc ns := by
  subst he
  exact xs_if_gt hk hi kt kf
theorem xu_icmp_gt {off : Int} {pc a b d : Nat} {v x y : Int32} (he : xcd k = cd) (hk : k < xN) (hi : xnth cd i = some (pc, .if_icmp .gt off, a, b, d, v)) (kt : y < x → xOK k sc E (a, L, st) w nc ns) (kf : ¬ y < x → xOK k sc E (i + 1, L, st) w nc ns) : xOK k sc E (i, L, .int y :: .int x :: st) w nc ns := by
  subst he
  exact xs_icmp_gt hk hi kt kf
theorem xu_if_le {off : Int} {pc a b d : Nat} {v x : Int32} (he : xcd k = cd) (hk : k < xN) (hi : xnth cd i = some (pc, .ifCond .le off, a, b, d, v)) (kt : x ≤ 0 → xOK k sc E (a, L, st) w nc ns) (kf : ¬ x ≤ 0 → xOK k sc E (i + 1, L, st) w nc ns) : xOK k sc E (i, L, .int x :: st) w nc ns := by
  subst he
  exact xs_if_le hk hi kt kf
theorem xu_icmp_le {off : Int} {pc a b d : Nat} {v x y : Int32} (he : xcd k = cd) (hk : k < xN) (hi : xnth cd i = some (pc, .if_icmp .le off, a, b, d, v)) (kt : x ≤ y → xOK k sc E (a, L, st) w nc ns) (kf : ¬ x ≤ y → xOK k sc E (i + 1, L, st) w nc ns) : xOK k sc E (i, L, .int y :: .int x :: st) w nc ns := by
  subst he
  exact xs_icmp_le hk hi kt kf
theorem xu_callv {pc idx b d q : Nat} {v : Int32} {fs av stk : List Value} (he : xcd k = cd) (hk : k < xN) (hi : xnth cd i = some (pc, .invokevirtual idx, a, b, d, v)) (hM : xMet a (.ref q :: av) w r w1) (hq : xnth w q = some (.inr (b, fs))) (hs : stk = av.reverse ++ .ref q :: st)
    (hn : Nat.beq av.length (xnp a) = true) (hr : xroom st = true) (hz : (Nat.beq (xmc a) 0 && (Nat.beq (xms a) 0 && (Nat.ble nc (xmc k) && Nat.ble ns (xms k)))) = true)
    (kk : xOK k sc E (i + 1, L, xpr r ++ st) w1 nc ns) : xOK k sc E (i, L, stk) w nc ns := by
  subst he
  simp only [Bool.and_eq_true] at hz
  have z1 := Nat.eq_of_beq_eq_true hz.1
  have z2 := Nat.eq_of_beq_eq_true hz.2.1
  exact xOK_callv hk hi hM hq hs hn hr (by rw [z1, z2]; exact xand hz.2.2.1 hz.2.2.2) (by rw [z1]; rfl) (by rw [z1, z2]; exact kk)
theorem xu_calls {pc idx b d : Nat} {v : Int32} {av stk : List Value} (he : xcd k = cd) (hk : k < xN) (hi : xnth cd i = some (pc, .invokestatic idx, a, b, d, v)) (hd0 : Nat.beq d 0 = true) (hM : xMet a av w r w1) (hs : stk = av.reverse ++ st)
    (hn : Nat.beq av.length (xnp a) = true) (hr : xroom st = true) (hz : (Nat.beq (xmc a) 0 && (Nat.beq (xms a) 0 && (Nat.ble nc (xmc k) && Nat.ble ns (xms k)))) = true)
    (kk : xOK k sc E (i + 1, L, xpr r ++ st) w1 nc ns) : xOK k sc E (i, L, stk) w nc ns := by
  subst he
  simp only [Bool.and_eq_true] at hz
  have z1 := Nat.eq_of_beq_eq_true hz.1
  have z2 := Nat.eq_of_beq_eq_true hz.2.1
  exact xOK_calls hk hi hd0 hM hs hn hr (by rw [z1, z2]; exact xand hz.2.2.1 hz.2.2.2) (by rw [z1]; rfl) (by rw [z1, z2]; exact kk)
theorem xu_max {pc idx b : Nat} {v x y : Int32} (he : xcd k = cd) (hk : k < xN) (hi : xnth cd i = some (pc, .invokestatic idx, a, b, 2, v)) (hr : xroom st = true) (hc : (Nat.ble nc (xmc k) && Nat.ble ns (xms k)) = true) (kk : xOK k sc E (i + 1, L, .int (if x < y then y else x) :: st) w nc ns) : xOK k sc E (i, L, .int y :: .int x :: st) w nc ns := by
  subst he
  exact xOK_max hk hi hr hc kk
theorem xu_copy {pc idx b q0 q1 n0' n1' n : Nat} {v x : Int32} {f g : Nat → Int32} (he : xcd k = cd) (hk : k < xN) (hi : xnth cd i = some (pc, .invokestatic idx, a, b, 3, v)) (hr : xroom st = true) (hq0 : xnth w q0 = some (.inl (n0', f))) (hq1 : xnth w q1 = some (.inl (n1', g))) (hx : (!(decide (x < 0)) && Nat.beq x.toNatClampNeg n && Nat.ble n n0' && Nat.ble n n1') = true) (hw : w1 = w.set q1 (.inl (n1', va_cpy f g 0 0 n)))
    (kk : xOK k sc E (i + 1, L, st) w1 nc ns) : xOK k sc E (i, L, .int x :: .int 0 :: .ref q1 :: .int 0 :: .ref q0 :: st) w nc ns := by
  subst he
  subst hw
  exact xOK_copy hk hi hr hq0 hq1 hx kk
theorem xu_tswJ {pc b d t : Nat} {v x j : Int32} {df lo hh off : Int} {offs : Array Int} (he : xcd k = cd) (hk : k < xN) (hi : xnth cd i = some (pc, .tableswitch df lo hh offs, a, b, d, v)) (hx : x = j) (h1 : ¬ j.toInt < lo) (h2 : ¬ hh < j.toInt) (ho : offs[(j.toInt - lo).toNat]? = some off) (ht : (pc : Int) + off = (xpc cd t : Int)) (kk : xOK k sc E (t, L, st) w nc ns) : xOK k sc E (i, L, .int x :: st) w nc ns := by
  subst he
  subst hx
  exact xOK_tswIn hk hi h1 h2 ho ht kk
theorem xsw_out {x l u : Int32} {lo hh : Int} (h : x < l ∨ u < x) (hl : l.toInt = lo) (hu : u.toInt = hh) : x.toInt < lo ∨ hh < x.toInt := by
  subst hl; subst hu
  rcases h with q | q
  · exact Or.inl (Int32.lt_iff_toInt_lt.mp q)
  · exact Or.inr (Int32.lt_iff_toInt_lt.mp q)
theorem xu_tswOut {pc b d t : Nat} {v x l u : Int32} {df lo hh : Int} {offs : Array Int} (he : xcd k = cd) (hk : k < xN) (hi : xnth cd i = some (pc, .tableswitch df lo hh offs, a, b, d, v)) (h1 : x < l ∨ u < x) (hl : l.toInt = lo) (hu : u.toInt = hh) (ht : (pc : Int) + df = (xpc cd t : Int)) (kk : xOK k sc E (t, L, st) w nc ns) : xOK k sc E (i, L, .int x :: st) w nc ns := by
  subst he
  exact xOK_tswOut hk hi (xsw_out h1 hl hu) ht kk
theorem xu_vret {pc b d : Nat} {v : Int32} (he : xcd k = cd) (hk : k < xN) (hi : xnth cd i = some (pc, .return_, a, b, d, v)) (hc : (Nat.ble nc (xmc k) && Nat.ble ns (xms k)) = true) : xOK k sc (xEnd k none w) (i, L, []) w nc ns := by
  subst he
  exact xOK_vret hk hi hc
theorem xu_iret {pc b d : Nat} {v x : Int32} (he : xcd k = cd) (hk : k < xN) (hi : xnth cd i = some (pc, .ireturn, a, b, d, v)) (hb : xrb k x = true) (hc : (Nat.ble nc (xmc k) && Nat.ble ns (xms k)) = true) : xOK k sc (xEnd k (some x) w) (i, L, [.int x]) w nc ns := by
  subst he
  exact xOK_iret hk hi hb hc
theorem xOK_weq {fr : xF} (h : w = w1) (kk : xOK k sc E fr w1 nc ns) : xOK k sc E fr w nc ns := by subst h; exact kk
theorem xu_new {pc idx b d nc' ns' : Nat} {v : Int32} (he : xcd k = cd) (hk : k < xN) (hi : xnth cd i = some (pc, .new idx, a, b, d, v)) (hf : xfit L st w = true) (hc : (Nat.ble (nc + 1) (xmc k) && Nat.ble (ns + b) (xms k)) = true) (h1 : nc + 1 = nc') (h2 : ns + b = ns') (hw : w1 = w ++ [.inr (a, xdf a)]) {n : Nat} (hn : w.length = n) (kk : xOK k sc E (i + 1, L, .ref n :: st) w1 nc' ns') : xOK k sc E (i, L, st) w nc ns := by
  subst he; subst h1; subst h2; subst hw; subst hn
  exact xOK_new hk hi hf hc kk
theorem xu_newa {pc b d n nc' ns' : Nat} {v x : Int32} (he : xcd k = cd) (hk : k < xN) (hi : xnth cd i = some (pc, .newarray .int, a, b, d, v)) (hf : xfit L st w = true) (hx : (!(decide (x < 0)) && Nat.beq x.toNatClampNeg n && Nat.ble n 1000) = true) (hc : (Nat.ble (nc + 1) (xmc k) && Nat.ble (ns + n) (xms k)) = true) (h12 : (nc + 1, ns + n) = (nc', ns')) (hw : w1 = w ++ [.inl (n, fun _ => 0)]) {j : Nat} (hn : w.length = j) (kk : xOK k sc E (i + 1, L, .ref j :: st) w1 nc' ns') : xOK k sc E (i, L, .int x :: st) w nc ns := by
  cases h12
  subst he; subst hw; subst hn
  exact xOK_newa hk hi hf hx hc kk
theorem xu_obj {pc idx b q : Nat} {v : Int32} (he : xcd k = cd) (hk : k < xN) (hi : xnth cd i = some (pc, .invokespecial idx, a, b, 2, v)) (hr : xroom st = true) (kk : xOK k sc E (i + 1, L, st) w nc ns) : xOK k sc E (i, L, .ref q :: st) w nc ns := by
  subst he
  exact xOK_obj hk hi hr kk
theorem xu_calli {pc idx b d q nc' ns' : Nat} {v : Int32} {av stk : List Value} (he : xcd k = cd) (hk : k < xN) (hi : xnth cd i = some (pc, .invokespecial idx, a, b, d, v)) (hd0 : Nat.blt d 2 = true) (hM : xMet a (.ref q :: av) w none w1) (hs : stk = av.reverse ++ .ref q :: st)
    (hn : Nat.beq av.length (xnp a) = true) (hr : xroom st = true) (hc : (Nat.ble (nc + xmc a) (xmc k) && Nat.ble (ns + xms a) (xms k)) = true) (hf : (Nat.beq (xmc a) 0 || xfit L st w) = true) (h1 : nc + xmc a = nc') (h2 : ns + xms a = ns')
    (kk : xOK k sc E (i + 1, L, st) w1 nc' ns') : xOK k sc E (i, L, stk) w nc ns := by
  subst he; subst h1; subst h2
  exact xOK_calli hk hi hd0 hM hs hn hr hc hf kk
end XUS
