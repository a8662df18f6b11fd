-- the small machine: cells by number, values, one step
abbrev xC : Type := (Nat × (Nat → Int32)) ⊕ (Nat × List Value)
abbrev xW : Type := List xC
abbrev xF : Type := Nat × List (Option Value) × List Value
def xscr : Nat := 1000000
def xr (ρ : Nat → Nat) : Value → Value
  | .ref k => .ref (ρ k)
  | v => v
def xcell (cA : ClassId) (ρ : Nat → Nat) : xC → va_E
  | .inl q => .inl (cA, q.1, .inl q.2)
  | .inr q => .inr (q.1, q.2.map (xr ρ))
def xwd (cA : ClassId) (ρ : Nat → Nat) (w : xW) : va_W := w.mapIdx (fun k c => (ρ k, xcell cA ρ c))
theorem xnth_eq {α : Type} : ∀ (l : List α) (n : Nat), xnth l n = l[n]?
  | [], n => by simp [xnth]
  | a :: l, 0 => by simp [xnth]
  | a :: l, n + 1 => by simp [xnth, xnth_eq l n]
def xin (i : Int32) (n : Nat) : Bool := !(decide (i < 0)) && Nat.blt i.toNatClampNeg n
theorem xin_ok {i : Int32} {n : Nat} (h : xin i n = true) : vp_in i n := by
  unfold xin at h
  rw [Bool.and_eq_true] at h
  obtain ⟨h1, h2⟩ := h
  have h2 := Nat.blt_eq.mp h2
  have h1 : ¬ i < 0 := by simpa using h1
  unfold vp_in
  rintro (q | q)
  · exact h1 q
  · omega
def xbl (x : Int32) : Bool := x == 0 || x == 1
theorem xbl_ok {x : Int32} (h : xbl x = true) : x = 0 ∨ x = 1 := by
  unfold xbl at h
  rw [Bool.or_eq_true] at h
  simpa using h
def xrem (x y : Int32) : Int32 := x - x / y * y
def xfv (n : Nat) : Value → Bool
  | .ref j => Nat.blt j n || Nat.beq j xscr
  | _ => true
def xfo (n : Nat) : Option Value → Bool
  | none => true
  | some v => xfv n v
def xfc (n : Nat) : xC → Bool
  | .inl _ => true
  | .inr q => q.2.all (xfv n)
def xfit (L : List (Option Value)) (st : List Value) (w : xW) : Bool := L.all (xfo w.length) && (st.all (xfv w.length) && (w.all (xfc w.length) && Nat.blt w.length xscr))
def xpc (cd : List xE) (i : Nat) : Nat := match xnth cd i with
  | some e => e.1
  | none => 0
-- what a step gives: the next frame, the cells, what has to hold for it
abbrev xR : Type := Option (xF × xW × Bool)
def xpush (v : Value) (i : Nat) (L : List (Option Value)) (st : List Value) (w : xW) : xR := some ((i + 1, L, v :: st), w, true)
def xld (n i : Nat) (L : List (Option Value)) (st : List Value) (w : xW) : xR := match xnth L n with
  | some (some v) => some ((i + 1, L, v :: st), w, true)
  | _ => none
def xldi (n i : Nat) (L : List (Option Value)) (st : List Value) (w : xW) : xR := match xnth L n with
  | some (some (.int x)) => some ((i + 1, L, .int x :: st), w, true)
  | _ => none
def xlda (n i : Nat) (L : List (Option Value)) (st : List Value) (w : xW) : xR := match xnth L n with
  | some (some (.ref x)) => some ((i + 1, L, .ref x :: st), w, true)
  | _ => none
def xsti (n i : Nat) (L : List (Option Value)) (w : xW) : List Value → xR
  | .int x :: r => some ((i + 1, L.set n (some (.int x)), r), w, true)
  | _ => none
def xsta (n i : Nat) (L : List (Option Value)) (w : xW) : List Value → xR
  | .ref x :: r => some ((i + 1, L.set n (some (.ref x)), r), w, true)
  | _ => none
def xinc (n : Nat) (v : Int32) (i : Nat) (L : List (Option Value)) (st : List Value) (w : xW) : xR := match xnth L n with
  | some (some (.int x)) => some ((i + 1, L.set n (some (.int (x + v))), st), w, true)
  | _ => none
def xbin (g : Int32 → Int32 → Int32) (i : Nat) (L : List (Option Value)) (w : xW) : List Value → xR
  | .int y :: .int x :: r => some ((i + 1, L, .int (g x y) :: r), w, true)
  | _ => none
def xdiv (g : Int32 → Int32 → Int32) (i : Nat) (L : List (Option Value)) (w : xW) : List Value → xR
  | .int y :: .int x :: r => some ((i + 1, L, .int (g x y) :: r), w, !(y == 0))
  | _ => none
def xun (g : Int32 → Int32) (i : Nat) (L : List (Option Value)) (w : xW) : List Value → xR
  | .int x :: r => some ((i + 1, L, .int (g x) :: r), w, true)
  | _ => none
def xdup (i : Nat) (L : List (Option Value)) (w : xW) : List Value → xR
  | .int x :: r => some ((i + 1, L, .int x :: .int x :: r), w, true)
  | .ref x :: r => some ((i + 1, L, .ref x :: .ref x :: r), w, true)
  | _ => none
def xdup2 (i : Nat) (L : List (Option Value)) (w : xW) : List Value → xR
  | .int y :: .ref x :: r => some ((i + 1, L, .int y :: .ref x :: .int y :: .ref x :: r), w, true)
  | _ => none
def xpop (i : Nat) (L : List (Option Value)) (w : xW) : List Value → xR
  | .int _ :: r => some ((i + 1, L, r), w, true)
  | _ => none
def xgetf (ci k i : Nat) (L : List (Option Value)) (w : xW) : List Value → xR
  | .ref q :: r => match xnth w q with
    | some (.inr (cj, fs)) => if Nat.beq cj ci then (match xnth fs k with
      | some v => some ((i + 1, L, v :: r), w, true)
      | none => none) else none
    | _ => none
  | _ => none
def xputf (ci k i : Nat) (z : Bool) (L : List (Option Value)) (w : xW) : List Value → xR
  | .int x :: .ref q :: r => match xnth w q with
    | some (.inr (cj, fs)) => if Nat.beq cj ci then (match xnth fs k with
      | some _ => some ((i + 1, L, r), w.set q (.inr (cj, fs.set k (.int x))), (match z with
        | true => xbl x
        | false => true))
      | none => none) else none
    | _ => none
  | _ => none
def xputa (ci k i : Nat) (L : List (Option Value)) (w : xW) : List Value → xR
  | .ref x :: .ref q :: r => match xnth w q with
    | some (.inr (cj, fs)) => if Nat.beq cj ci then (match xnth fs k with
      | some _ => some ((i + 1, L, r), w.set q (.inr (cj, fs.set k (.ref x))), true)
      | none => none) else none
    | _ => none
  | _ => none
def xald (sc : Option (Nat × (Nat → Int32))) (i : Nat) (L : List (Option Value)) (w : xW) : List Value → xR
  | .int j :: .ref q :: r => match xnth w q with
    | some (.inl (n, f)) => some ((i + 1, L, .int (f j.toNatClampNeg) :: r), w, xin j n)
    | some (.inr _) => none
    | none => if Nat.beq q xscr then (match sc with
      | some (n, f) => some ((i + 1, L, .int (f j.toNatClampNeg) :: r), w, xin j n)
      | none => none) else none
  | _ => none
def xast (i : Nat) (L : List (Option Value)) (w : xW) : List Value → xR
  | .int x :: .int j :: .ref q :: r => match xnth w q with
    | some (.inl (n, f)) => some ((i + 1, L, r), w.set q (.inl (n, upd f j.toNatClampNeg x)), xin j n)
    | _ => none
  | _ => none
def xlen (sc : Option (Nat × (Nat → Int32))) (i : Nat) (L : List (Option Value)) (w : xW) : List Value → xR
  | .ref q :: r => match xnth w q with
    | some (.inl (n, _)) => some ((i + 1, L, .int (Int32.ofNat n) :: r), w, true)
    | some (.inr _) => none
    | none => if Nat.beq q xscr then (match sc with
      | some (n, _) => some ((i + 1, L, .int (Int32.ofNat n) :: r), w, true)
      | none => none) else none
  | _ => none
