theorem xroomB_ok {a k : Nat} (h : xroomB a k = true) : a < xM ∧ (xrm a).frames + 1 ≤ (xrm k).frames ∧ 8 + (xnl a + 11) + (xrm a).locals ≤ (xrm k).locals := by
  unfold xroomB at h
  simp only [Bool.and_eq_true] at h
  exact ⟨Nat.blt_eq.mp h.1, Nat.le_of_ble_eq_true h.2.1, Nat.le_of_ble_eq_true h.2.2⟩
section XWL
variable {k pc a b d idx : Nat} {v : Int32}
theorem xfld_ok (h : xwf2 k pc (.getfield idx) a b d v = true) : ∃ r : vw_C, xcl[a]? = some r ∧ b < r.2.2 := by
  unfold xwf2 at h
  dsimp only at h
  split at h
  · next r hr => exact ⟨r, hr, Nat.blt_eq.mp h⟩
  · cases h
theorem xput_ok (h : xwf2 k pc (.putfield idx) a b d v = true) : ∃ r : vw_C, xcl[a]? = some r ∧ b < r.2.2 ∧ ((r.2.1 b).2.2.2 = false ∨ ((r.2.1 b).2.2.2 = true ∧ (xy k).name = "<init>" ∧ (r.2.1 b).1 = (xy k).cls)) := by
  unfold xwf2 at h
  dsimp only at h
  split at h
  · next r hr =>
    simp only [Bool.and_eq_true, Bool.or_eq_true, decide_eq_true_eq] at h
    refine ⟨r, hr, Nat.blt_eq.mp h.1, ?_⟩
    cases hf : (r.2.1 b).2.2.2 with
    | false => exact Or.inl rfl
    | true =>
      rcases h.2.2 with q | q
      · rw [hf] at q; cases q
      · exact Or.inr ⟨rfl, q.1, q.2⟩
  · cases h
theorem xfits_ok {y : Value} {C : String} {T : u_T} {N : Nat} (h : xwf2 k pc (.putfield idx) a b d v = true) (hy : xfits d y = true) (hc : xcl[a]? = some (C, T, N)) (hb : b < N) : ∃ ty, parseFieldDescriptor (T b).2.2.1 = some ty ∧ (∀ ρ, narrow ty (xr ρ y) = xr ρ y) ∧ ∀ ρ, fits ty (xr ρ y) = true := by
  refine ⟨xty a b, xty_ok hc b hb, ?_⟩
  unfold xwf2 at h
  dsimp only at h
  rw [hc] at h
  simp only [Bool.and_eq_true] at h
  have h := h.2.1
  generalize xty a b = ty at h
  match d, ty, y, h, hy with
  | 0, .int, .int x, _, _ => exact ⟨fun _ => rfl, fun _ => rfl⟩
  | 1, .boolean, .int x, _, hy =>
    rcases xbl_ok hy with q | q <;> subst q <;> exact ⟨fun _ => rfl, fun _ => rfl⟩
  | 2, .array t, .ref x, _, _ => exact ⟨fun _ => rfl, fun _ => rfl⟩
  | 2, .object t, .ref x, _, _ => exact ⟨fun _ => rfl, fun _ => rfl⟩
theorem xcall_ok (h : xwf2 k pc (.invokevirtual idx) a b d v = true) : a < xM ∧ ((xrm a).frames + 1 ≤ (xrm k).frames ∧ 8 + (xnl a + 11) + (xrm a).locals ≤ (xrm k).locals) ∧ ∃ r : vw_C, xcl[b]? = some r ∧ r.1 = (xy a).cls := by
  unfold xwf2 at h
  dsimp only at h
  rw [Bool.and_eq_true] at h
  obtain ⟨h1, h2⟩ := xroomB_ok h.1
  refine ⟨h1, h2, ?_⟩
  have h := h.2
  split at h
  · next r hr => exact ⟨r, hr, of_decide_eq_true h⟩
  · cases h
theorem xcallS_ok (h : xwf2 k pc (.invokestatic idx) a b 0 v = true) : a < xM ∧ ((xrm a).frames + 1 ≤ (xrm k).frames ∧ 8 + (xnl a + 11) + (xrm a).locals ≤ (xrm k).locals) := xroomB_ok h
theorem xcallI_ok (hd : d < 2) (h : xwf2 k pc (.invokespecial idx) a b d v = true) : a < xM ∧ ((xrm a).frames + 1 ≤ (xrm k).frames ∧ 8 + (xnl a + 11) + (xrm a).locals ≤ (xrm k).locals) ∧ xrt a = none ∧ (xy a).name = "<init>" ∧ (d = 0 ∨ ((xy k).cls, idx, xy a, xhost) ∈ xnw) := by
  match d, hd, h with
  | 0, _, h =>
    have h : (xroomB a k && (decide (xrt a = none) && decide ((xy a).name = "<init>"))) = true := h
    simp only [Bool.and_eq_true, decide_eq_true_eq] at h
    obtain ⟨h1, h2⟩ := xroomB_ok h.1
    exact ⟨h1, h2, h.2.1, h.2.2, Or.inl rfl⟩
  | 1, _, h =>
    have h : (xroomB a k && (decide (xrt a = none) && (decide ((xy a).name = "<init>") && decide (((xy k).cls, idx, xy a, xhost) ∈ xnw)))) = true := h
    simp only [Bool.and_eq_true, decide_eq_true_eq] at h
    obtain ⟨h1, h2⟩ := xroomB_ok h.1
    exact ⟨h1, h2, h.2.1, h.2.2.1, Or.inr h.2.2.2⟩
theorem xnew_ok (h : xwf2 k pc (.new idx) a b d v = true) : ∃ r : vw_C, xcl[a]? = some r ∧ r.2.2 = b := by
  unfold xwf2 at h
  dsimp only at h
  split at h
  · next r hr => exact ⟨r, hr, Nat.eq_of_beq_eq_true h⟩
  · cases h
theorem xrb_ok {x : Int32} (h : xwf2 k pc .ireturn a b d v = true) (hb : xrb k x = true) : ∃ ty, xrt k = some ty ∧ narrow ty (.int x) = .int x := by
  unfold xwf2 at h
  unfold xrb at hb
  dsimp only at h
  split at h
  · next hr => exact ⟨_, hr, rfl⟩
  · next hr =>
    rw [hr] at hb
    refine ⟨_, hr, ?_⟩
    rcases xbl_ok hb with q | q <;> subst q <;> rfl
  · cases h
end XWL
-- one step
def xstep (sc : Option (Nat × (Nat → Int32))) (en : xE) (i : Nat) (L : List (Option Value)) (st : List Value) (w : xW) : xR :=
  match en with
  | (_, ins, a, b, d, v) => match ins with
    | .iconst _ => xpush (.int v) i L st w
    | .bipush _ => xpush (.int v) i L st w
    | .sipush _ => xpush (.int v) i L st w
    | .ldc _ => xpush (.int v) i L st w
    | .iload_n n => xldi n.val i L st w
    | .iload n => xldi n i L st w
    | .aload_n n => xlda n.val i L st w
    | .aload n => xlda n i L st w
    | .istore_n n => xsti n.val i L w st
    | .istore n => xsti n i L w st
    | .astore_n n => xsta n.val i L w st
    | .iinc n _ => xinc n v i L st w
    | .iadd => xbin (fun x y => x + y) i L w st
    | .isub => xbin (fun x y => x - y) i L w st
    | .imul => xbin (fun x y => x * y) i L w st
    | .iand => xbin (fun x y => x &&& y) i L w st
    | .ior => xbin (fun x y => x ||| y) i L w st
    | .ixor => xbin (fun x y => x ^^^ y) i L w st
    | .ishl => xbin (fun x y => x <<< (y &&& 31)) i L w st
    | .ishr => xbin (fun x y => x >>> (y &&& 31)) i L w st
    | .idiv => xdiv (fun x y => x / y) i L w st
    | .irem => xdiv xrem i L w st
    | .ineg => xun (fun x => -x) i L w st
    | .i2b => xun (fun x => x.toInt8.toInt32) i L w st
    | .dup => xdup i L w st
    | .dup2 => xdup2 i L w st
    | .pop => xpop i L w st
    | .goto _ => some ((a, L, st), w, true)
    | .getfield _ => xgetf a b i L w st
    | .putfield _ => match d with
      | 0 => xputf a b i false L w st
      | 1 => xputf a b i true L w st
      | 2 => xputa a b i L w st
      | _ => none
    | .iaload => xald sc i L w st
    | .iastore => xast i L w st
    | .arraylength => xlen sc i L w st
    | _ => none
def xsteps (sc : Option (Nat × (Nat → Int32))) (cd : List xE) : Nat → xF → xW → xR
  | 0, fr, w => some (fr, w, true)
  | n + 1, fr, w => match xnth cd fr.1 with
    | none => none
    | some en => match xstep sc en fr.1 fr.2.1 fr.2.2 w with
      | none => none
      | some q => match xsteps sc cd n q.1 q.2.1 with
        | none => none
        | some z => some (z.1, z.2.1, q.2.2 && z.2.2)
-- the world of a method that is being walked
def xag (nc n0 : Nat) (ρ0 ρ : Nat → Nat) : Prop := (nc = 0 → ρ = ρ0) ∧ ∀ j, (j < n0 ∨ j = xscr) → ρ j = ρ0 j
def xLoc (ls : Array Slot) (n : Nat) (ρ : Nat → Nat) (L : List (Option Value)) : Prop := ∃ l, lv_has ls n l ∧ ∀ (j : Nat) (v : Value), L[j]? = some (some v) → (j, xr ρ v) ∈ l ∧ v.category = 1
def xNW (U : State) : Prop := ∀ x ∈ xnw, va_Nw (.methodLinkNest x.1 x.2.1 x.2.2.1 x.2.2.2) U
def xEnv (k : Nat) (sc : Option (Nat × (Nat → Int32))) (p : Program) (s : State) (m : MethodId) (args : Array Value) (meth : Method) (c : Code) (D : va_G) (cA : ClassId) (A : Nat → Prop) (ρ0 : Nat → Nat) : Prop :=
  k < xN ∧ p.tables.exec = Jvm.exec ∧ c.code = xby k ∧ c.maxLocals = xnl k ∧ meth.sig.returnType = xrt k ∧ meth.locks = false ∧ s.vm.findClass (xy k).cls = some m.cls ∧ (∀ w ∈ xall, w.before args s = true) ∧ xNW s ∧ va_K D xcl [(cA, .int)] s ∧ (∀ q, s.heap.size ≤ q → A q) ∧ ((xy k).name = "<init>" → meth.name = "<init>") ∧ (∀ n f, sc = some (n, f) → va_X (ρ0 xscr) n f s s.heap ∧ ρ0 xscr < s.heap.size ∧ ¬ A (ρ0 xscr))
abbrev xT : Type := State → Array Value → List Frame → va_G → ClassId → (Nat → Prop) → (Nat → Nat) → Nat → State → Prop
def xOK (k : Nat) (sc : Option (Nat × (Nat → Int32))) (E : xT) (fr : xF) (w : xW) (nc ns : Nat) : Prop :=
  ∀ (p : Program) (l : Launch) (e : Env) (s : State) (m : MethodId) (args : Array Value) (below : List Frame) (meth : Method) (c : Code) (D : va_G) (cA : ClassId) (A : Nat → Prop) (ρ0 : Nat → Nat) (n0 : Nat),
  xEnv k sc p s m args meth c D cA A ρ0 →
  ∀ (ρ : Nat → Nat) (H : Heap) (locs : List Loc) (ls : Array Slot),
  xag nc n0 ρ0 ρ → n0 ≤ w.length → va_P D xcl (xwd cA ρ w) H → va_D A (xwd cA ρ w) → va_S A s.heap H locs → xLoc ls (xnl k) ρ fr.2.1 →
  W p l e (xrm k) s m args below meth c H locs nc ns (E s args below D cA A ρ0 n0) (F0 m (xpc (xcd k) fr.1) ls (fr.2.2.map (xr ρ)))
theorem xr_cat (ρ : Nat → Nat) (v : Value) : (xr ρ v).category = v.category := by cases v <;> rfl
theorem xwd_get {cA : ClassId} {ρ : Nat → Nat} {w : xW} {q : Nat} {c : xC} (h : xnth w q = some c) : (xwd cA ρ w)[q]? = some (ρ q, xcell cA ρ c) := by
  rw [xnth_eq] at h
  simp [xwd, h]
theorem xwd_set {cA : ClassId} {ρ : Nat → Nat} {w : xW} {q : Nat} {c : xC} : xwd cA ρ (w.set q c) = (xwd cA ρ w).set q (ρ q, xcell cA ρ c) := by
  simp [xwd]
theorem xLoc_at {ls : Array Slot} {n : Nat} {ρ : Nat → Nat} {L : List (Option Value)} {j : Nat} {v : Value} (h : xLoc ls n ρ L) (hj : xnth L j = some (some v)) : ls[j]? = some (.val (xr ρ v)) := by
  obtain ⟨l, h1, h2⟩ := h
  rw [xnth_eq] at hj
  exact h1.2.2 _ (h2 j v hj).1
theorem xLoc_set {ls' : Array Slot} {n i : Nat} {ρ : Nat → Nat} {L : List (Option Value)} {l : List (Nat × Value)} {v u : Value} (h2 : ∀ (j : Nat) (v : Value), L[j]? = some (some v) → (j, xr ρ v) ∈ l ∧ v.category = 1) (hv : u = xr ρ v) (hc : v.category = 1)
    (h : lv_has ls' n ((i, u) :: l.filter (fun q => !(q.1 == i) && !(q.1 + 1 == i && q.2.category == 2)))) : xLoc ls' n ρ (L.set i (some v)) := by
  subst hv
  refine ⟨_, h, fun j x hj => ?_⟩
  by_cases hji : j = i
  · subst hji
    rw [List.getElem?_set] at hj
    simp only [if_true] at hj
    split at hj
    · cases hj
      exact ⟨List.mem_cons_self, hc⟩
    · cases hj
  · rw [List.getElem?_set_ne (Ne.symm hji)] at hj
    obtain ⟨g1, g2⟩ := h2 j x hj
    refine ⟨List.mem_cons_of_mem _ (List.mem_filter.mpr ⟨g1, ?_⟩), g2⟩
    have hz : ((xr ρ x).category == 2) = false := by rw [xr_cat, g2]; rfl
    have hy : (j == i) = false := by simpa using hji
    simp [hz, hy]
theorem xwf_get {k i : Nat} {en : xE} (hk : k < xN) (hi : xnth (xcd k) i = some en) : xwf1 k i en = true := by
  have h := xwf hk
  unfold xwfP at h
  rw [List.all_eq_true] at h
  rw [xnth_eq] at hi
  refine h (en, i) ?_
  rw [List.mem_zipIdx_iff_getElem?]
  exact hi
theorem xpc_eq {k i : Nat} {en : xE} (hi : xnth (xcd k) i = some en) : xpc (xcd k) i = en.1 := by
  unfold xpc; rw [hi]
theorem xlt {a : Nat} (h : a < xM) : a < xN := Nat.lt_trans h (by decide)
theorem xall_in (w : Cond) (h : w ∈ xall) : w ∈ xall := h
theorem xlay_in {ci : Nat} {r : vw_C} (h : xcl[ci]? = some r) : ∀ w ∈ u_ws r.1 r.2.1 r.2.2, w ∈ xall := by
  intro w hw
  exact List.mem_append_left _ (List.mem_flatMap.mpr ⟨r, List.mem_of_getElem? h, hw⟩)
theorem xword_in {k i : Nat} {en : xE} (hk : k < xN) (hi : xnth (xcd k) i = some en) : ∀ w ∈ xword k en, w ∈ xall := by
  intro w hw
  rw [xnth_eq] at hi
  exact List.mem_append_right _ (List.mem_append_right _ (List.mem_flatMap.mpr ⟨k, List.mem_range.mpr hk, List.mem_flatMap.mpr ⟨en, List.mem_of_getElem? hi, hw⟩⟩))
theorem xcode_in {k : Nat} (hk : k < xM) : Cond.code (xy k) (xby k) (xnl k) (xrt k) ∈ xall :=
  List.mem_append_right _ (List.mem_append_left _ (List.mem_map.mpr ⟨k, List.mem_range.mpr hk, rfl⟩))
section XST
variable {k : Nat} {sc : Option (Nat × (Nat → Int32))} {E : xT} {i : Nat} {L : List (Option Value)} {st : List Value} {w : xW} {nc ns : Nat}
theorem xdec {pc a b d : Nat} {v : Int32} {ins : Instr} (hk : k < xN) (hi : xnth (xcd k) i = some (pc, ins, a, b, d, v)) : decode (xby k) pc = .ok (ins, xilen ins d) ∧ (xjmp ins = true ∨ xpc (xcd k) (i + 1) = pc + xilen ins d) ∧ xwf2 k pc ins a b d v = true := by
  have h := xwf_get hk hi
  unfold xwf1 at h
  simp only [Bool.and_eq_true, Bool.or_eq_true, decide_eq_true_eq] at h
  exact ⟨h.1, h.2.1, h.2.2⟩
/-- from a step to the next, where the heap stays -/
theorem xOK_pure {i' : Nat} {L' : List (Option Value)} {st' : List Value} {pc a b d : Nat} {v : Int32} {ins : Instr} (hi : xnth (xcd k) i = some (pc, ins, a, b, d, v)) (kk : xOK k sc E (i', L', st') w nc ns)
    (h : ∀ (p : Program) (l : Launch) (e : Env) (s : State) (m : MethodId) (args : Array Value) (below : List Frame) (meth : Method) (c : Code) (D : va_G) (cA : ClassId) (A : Nat → Prop) (ρ0 ρ : Nat → Nat) (n0 : Nat) (H : Heap) (locs : List Loc) (ls : Array Slot) (Q : State → Prop),
      xEnv k sc p s m args meth c D cA A ρ0 → xag nc n0 ρ0 ρ → va_P D xcl (xwd cA ρ w) H → va_D A (xwd cA ρ w) → va_S A s.heap H locs → xLoc ls (xnl k) ρ L →
      (∀ ls' : Array Slot, xLoc ls' (xnl k) ρ L' → W p l e (xrm k) s m args below meth c H locs nc ns Q (F0 m (xpc (xcd k) i') ls' (st'.map (xr ρ)))) →
      W p l e (xrm k) s m args below meth c H locs nc ns Q (F0 m pc ls (st.map (xr ρ)))) : xOK k sc E (i, L, st) w nc ns := by
  intro p l e s m args below meth c D cA A ρ0 n0 V ρ H locs ls hag hn0 hP hD hS hL
  show W p l e (xrm k) s m args below meth c H locs nc ns _ (F0 m (xpc (xcd k) i) ls (st.map (xr ρ)))
  rw [xpc_eq hi]
  exact h p l e s m args below meth c D cA A ρ0 ρ n0 H locs ls _ V hag hP hD hS hL (fun ls' hL' => kk p l e s m args below meth c D cA A ρ0 n0 V ρ H locs ls' hag hn0 hP hD hS hL')
/-- from a step to the next, where a cell is set -/
theorem xOK_cell {i' : Nat} {L' : List (Option Value)} {st' : List Value} {w' : xW} {pc a b d : Nat} {v : Int32} {ins : Instr} (hi : xnth (xcd k) i = some (pc, ins, a, b, d, v)) (hw : w'.length = w.length) (kk : xOK k sc E (i', L', st') w' nc ns)
    (h : ∀ (p : Program) (l : Launch) (e : Env) (s : State) (m : MethodId) (args : Array Value) (below : List Frame) (meth : Method) (c : Code) (D : va_G) (cA : ClassId) (A : Nat → Prop) (ρ0 ρ : Nat → Nat) (n0 : Nat) (H : Heap) (locs : List Loc) (ls : Array Slot) (Q : State → Prop),
      xEnv k sc p s m args meth c D cA A ρ0 → xag nc n0 ρ0 ρ → va_P D xcl (xwd cA ρ w) H → va_D A (xwd cA ρ w) → va_S A s.heap H locs → xLoc ls (xnl k) ρ L →
      (∀ (H' : Heap) (locs' : List Loc), xLoc ls (xnl k) ρ L' → va_P D xcl (xwd cA ρ w') H' → va_D A (xwd cA ρ w') → va_S A s.heap H' locs' → W p l e (xrm k) s m args below meth c H' locs' nc ns Q (F0 m (xpc (xcd k) i') ls (st'.map (xr ρ)))) →
      W p l e (xrm k) s m args below meth c H locs nc ns Q (F0 m pc ls (st.map (xr ρ)))) : xOK k sc E (i, L, st) w nc ns := by
  intro p l e s m args below meth c D cA A ρ0 n0 V ρ H locs ls hag hn0 hP hD hS hL
  show W p l e (xrm k) s m args below meth c H locs nc ns _ (F0 m (xpc (xcd k) i) ls (st.map (xr ρ)))
  rw [xpc_eq hi]
  exact h p l e s m args below meth c D cA A ρ0 ρ n0 H locs ls _ V hag hP hD hS hL (fun H' locs' hL' hP' hD' hS' => kk p l e s m args below meth c D cA A ρ0 n0 V ρ H' locs' ls hag (by rw [hw]; exact hn0) hP' hD' hS' hL')
theorem xnx {pc a b d : Nat} {v : Int32} {ins : Instr} (hk : k < xN) (hi : xnth (xcd k) i = some (pc, ins, a, b, d, v)) (hj : xjmp ins = false) : xpc (xcd k) (i + 1) = pc + xilen ins d := by
  rcases (xdec hk hi).2.1 with h | h
  · rw [hj] at h; cases h
  · exact h
theorem xs_iconst {n : Int} {pc a b d : Nat} {v : Int32} (hk : k < xN) (hi : xnth (xcd k) i = some (pc, .iconst n, a, b, d, v)) (kk : xOK k sc E (i + 1, L, .int v :: st) w nc ns) : xOK k sc E (i, L, st) w nc ns := by
  obtain ⟨h1, -, h3⟩ := xdec hk hi
  have hn := xnx hk hi rfl
  refine xOK_pure hi kk fun p l e s m args below meth c D cA A ρ0 ρ n0 H locs ls Q V hag hP hD hS hL K => ?_
  have K := K ls hL
  rw [hn] at K
  exact lv_iconst V.2.1 V.2.2.1 h1 (show Int32.ofInt n = v from of_decide_eq_true h3) K
theorem xs_bipush {n : Int} {pc a b d : Nat} {v : Int32} (hk : k < xN) (hi : xnth (xcd k) i = some (pc, .bipush n, a, b, d, v)) (kk : xOK k sc E (i + 1, L, .int v :: st) w nc ns) : xOK k sc E (i, L, st) w nc ns := by
  obtain ⟨h1, -, h3⟩ := xdec hk hi
  have hn := xnx hk hi rfl
  refine xOK_pure hi kk fun p l e s m args below meth c D cA A ρ0 ρ n0 H locs ls Q V hag hP hD hS hL K => ?_
  have K := K ls hL
  rw [hn] at K
  exact lv_bipush V.2.1 V.2.2.1 h1 (show (Int8.ofInt n).toInt32 = v from of_decide_eq_true h3) K
theorem xs_sipush {n : Int} {pc a b d : Nat} {v : Int32} (hk : k < xN) (hi : xnth (xcd k) i = some (pc, .sipush n, a, b, d, v)) (kk : xOK k sc E (i + 1, L, .int v :: st) w nc ns) : xOK k sc E (i, L, st) w nc ns := by
  obtain ⟨h1, -, h3⟩ := xdec hk hi
  have hn := xnx hk hi rfl
  refine xOK_pure hi kk fun p l e s m args below meth c D cA A ρ0 ρ n0 H locs ls Q V hag hP hD hS hL K => ?_
  have K := K ls hL
  rw [hn] at K
  exact lv_sipush V.2.1 V.2.2.1 h1 (show (Int16.ofInt n).toInt32 = v from of_decide_eq_true h3) K
theorem xs_ldc {n : Nat} {pc a b d : Nat} {v : Int32} (hk : k < xN) (hi : xnth (xcd k) i = some (pc, .ldc n, a, b, d, v)) (kk : xOK k sc E (i + 1, L, .int v :: st) w nc ns) : xOK k sc E (i, L, st) w nc ns := by
  obtain ⟨h1, -, h3⟩ := xdec hk hi
  have hn := xnx hk hi rfl
  refine xOK_pure hi kk fun p l e s m args below meth c D cA A ρ0 ρ n0 H locs ls Q V hag hP hD hS hL K => ?_
  have K := K ls hL
  rw [hn] at K
  exact lv_ldc V.2.1 V.2.2.1 V.2.2.2.2.2.2.1 (V.2.2.2.2.2.2.2.1 _ (xall_in _ (xword_in hk hi _ List.mem_cons_self))) h1 K
theorem xs_iload_n {n : Fin 4} {pc a b d : Nat} {v : Int32} {x : Int32} (hk : k < xN) (hi : xnth (xcd k) i = some (pc, .iload_n n, a, b, d, v)) (hl : xnth L n.val = some (some (.int x))) (kk : xOK k sc E (i + 1, L, .int x :: st) w nc ns) : xOK k sc E (i, L, st) w nc ns := by
  obtain ⟨h1, -, -⟩ := xdec hk hi
  have hn := xnx hk hi rfl
  refine xOK_pure hi kk fun p l e s m args below meth c D cA A ρ0 ρ n0 H locs ls Q V hag hP hD hS hL K => ?_
  have K := K ls hL
  rw [hn] at K
  exact lv_iload_n V.2.1 V.2.2.1 h1 rfl (xLoc_at hL hl) K
theorem xs_iload {n : Nat} {pc a b d : Nat} {v : Int32} {x : Int32} (hk : k < xN) (hi : xnth (xcd k) i = some (pc, .iload n, a, b, d, v)) (hl : xnth L n = some (some (.int x))) (kk : xOK k sc E (i + 1, L, .int x :: st) w nc ns) : xOK k sc E (i, L, st) w nc ns := by
  obtain ⟨h1, -, -⟩ := xdec hk hi
  have hn := xnx hk hi rfl
  refine xOK_pure hi kk fun p l e s m args below meth c D cA A ρ0 ρ n0 H locs ls Q V hag hP hD hS hL K => ?_
  have K := K ls hL
  rw [hn] at K
  exact lv_iload V.2.1 V.2.2.1 h1 (xLoc_at hL hl) K
theorem xs_aload_n {n : Fin 4} {pc a b d : Nat} {v : Int32} {x : Nat} (hk : k < xN) (hi : xnth (xcd k) i = some (pc, .aload_n n, a, b, d, v)) (hl : xnth L n.val = some (some (.ref x))) (kk : xOK k sc E (i + 1, L, .ref x :: st) w nc ns) : xOK k sc E (i, L, st) w nc ns := by
  obtain ⟨h1, -, -⟩ := xdec hk hi
  have hn := xnx hk hi rfl
  refine xOK_pure hi kk fun p l e s m args below meth c D cA A ρ0 ρ n0 H locs ls Q V hag hP hD hS hL K => ?_
  have K := K ls hL
  rw [hn] at K
  exact lv_aload_n V.2.1 V.2.2.1 h1 rfl (xLoc_at hL hl) K
theorem xs_aload {n : Nat} {pc a b d : Nat} {v : Int32} {x : Nat} (hk : k < xN) (hi : xnth (xcd k) i = some (pc, .aload n, a, b, d, v)) (hl : xnth L n = some (some (.ref x))) (kk : xOK k sc E (i + 1, L, .ref x :: st) w nc ns) : xOK k sc E (i, L, st) w nc ns := by
  obtain ⟨h1, -, -⟩ := xdec hk hi
  have hn := xnx hk hi rfl
  refine xOK_pure hi kk fun p l e s m args below meth c D cA A ρ0 ρ n0 H locs ls Q V hag hP hD hS hL K => ?_
  have K := K ls hL
  rw [hn] at K
  exact lv_aload V.2.1 V.2.2.1 h1 (xLoc_at hL hl) K
theorem xs_istore_n {n : Fin 4} {pc a b d : Nat} {v : Int32} {x : Int32} (hk : k < xN) (hi : xnth (xcd k) i = some (pc, .istore_n n, a, b, d, v)) (kk : xOK k sc E (i + 1, L.set n.val (some (.int x)), st) w nc ns) : xOK k sc E (i, L, .int x :: st) w nc ns := by
  obtain ⟨h1, -, h3⟩ := xdec hk hi
  have hn := xnx hk hi rfl
  refine xOK_pure hi kk fun p l e s m args below meth c D cA A ρ0 ρ n0 H locs ls Q V hag hP hD hS hL K => ?_
  obtain ⟨lv, g1, g2⟩ := hL
  refine lv_istore_n V.2.1 V.2.2.1 h1 rfl g1 (Nat.blt_eq.mp (show Nat.blt n.val (xnl k) = true from h3)) rfl (fun ls' h' => ?_)
  have K := K ls' (xLoc_set (v := .int x) g2 rfl rfl h')
  rw [hn] at K
  exact K
theorem xs_istore {n : Nat} {pc a b d : Nat} {v : Int32} {x : Int32} (hk : k < xN) (hi : xnth (xcd k) i = some (pc, .istore n, a, b, d, v)) (kk : xOK k sc E (i + 1, L.set n (some (.int x)), st) w nc ns) : xOK k sc E (i, L, .int x :: st) w nc ns := by
  obtain ⟨h1, -, h3⟩ := xdec hk hi
  have hn := xnx hk hi rfl
  refine xOK_pure hi kk fun p l e s m args below meth c D cA A ρ0 ρ n0 H locs ls Q V hag hP hD hS hL K => ?_
  obtain ⟨lv, g1, g2⟩ := hL
  refine lv_istore V.2.1 V.2.2.1 h1 g1 (Nat.blt_eq.mp (show Nat.blt n (xnl k) = true from h3)) rfl (fun ls' h' => ?_)
  have K := K ls' (xLoc_set (v := .int x) g2 rfl rfl h')
  rw [hn] at K
  exact K
theorem xs_astore_n {n : Fin 4} {pc a b d : Nat} {v : Int32} {x : Nat} (hk : k < xN) (hi : xnth (xcd k) i = some (pc, .astore_n n, a, b, d, v)) (kk : xOK k sc E (i + 1, L.set n.val (some (.ref x)), st) w nc ns) : xOK k sc E (i, L, .ref x :: st) w nc ns := by
  obtain ⟨h1, -, h3⟩ := xdec hk hi
  have hn := xnx hk hi rfl
  refine xOK_pure hi kk fun p l e s m args below meth c D cA A ρ0 ρ n0 H locs ls Q V hag hP hD hS hL K => ?_
  obtain ⟨lv, g1, g2⟩ := hL
  refine lv_astore_n V.2.1 V.2.2.1 h1 rfl g1 (Nat.blt_eq.mp (show Nat.blt n.val (xnl k) = true from h3)) rfl (fun ls' h' => ?_)
  have K := K ls' (xLoc_set (v := .ref x) g2 rfl rfl h')
  rw [hn] at K
  exact K
theorem xs_iinc {n : Nat} {z : Int} {pc a b d : Nat} {v x : Int32} (hk : k < xN) (hi : xnth (xcd k) i = some (pc, .iinc n z, a, b, d, v)) (hl : xnth L n = some (some (.int x))) (kk : xOK k sc E (i + 1, L.set n (some (.int (x + v))), st) w nc ns) : xOK k sc E (i, L, st) w nc ns := by
  obtain ⟨h1, -, h3⟩ := xdec hk hi
  have hn := xnx hk hi rfl
  have h3 : (Nat.blt n (xnl k) && decide (Int32.ofInt z = v)) = true := h3
  rw [Bool.and_eq_true] at h3
  have hv : Int32.ofInt z = v := of_decide_eq_true h3.2
  refine xOK_pure hi kk fun p l e s m args below meth c D cA A ρ0 ρ n0 H locs ls Q V hag hP hD hS hL K => ?_
  obtain ⟨lv, g1, g2⟩ := hL
  rw [xnth_eq] at hl
  obtain ⟨j, hj⟩ := List.getElem?_of_mem (g2 n _ hl).1
  refine lv_iinc V.2.1 V.2.2.1 h1 g1 hj (by rw [hv]) (Nat.blt_eq.mp h3.1) rfl (fun ls' h' => ?_)
  have K := K ls' (xLoc_set (v := .int (x + v)) g2 rfl rfl h')
  rw [hn] at K
  exact K
theorem xs_iadd {pc a b d : Nat} {v x y : Int32} (hk : k < xN) (hi : xnth (xcd k) i = some (pc, .iadd, a, b, d, v)) (kk : xOK k sc E (i + 1, L, .int (x + y) :: st) w nc ns) : xOK k sc E (i, L, .int y :: .int x :: st) w nc ns := by
  obtain ⟨h1, -, -⟩ := xdec hk hi
  have hn := xnx hk hi rfl
  refine xOK_pure hi kk fun p l e s m args below meth c D cA A ρ0 ρ n0 H locs ls Q V hag hP hD hS hL K => ?_
  have K := K ls hL
  rw [hn] at K
  exact lv_iadd V.2.1 V.2.2.1 h1 K
theorem xs_isub {pc a b d : Nat} {v x y : Int32} (hk : k < xN) (hi : xnth (xcd k) i = some (pc, .isub, a, b, d, v)) (kk : xOK k sc E (i + 1, L, .int (x - y) :: st) w nc ns) : xOK k sc E (i, L, .int y :: .int x :: st) w nc ns := by
  obtain ⟨h1, -, -⟩ := xdec hk hi
  have hn := xnx hk hi rfl
  refine xOK_pure hi kk fun p l e s m args below meth c D cA A ρ0 ρ n0 H locs ls Q V hag hP hD hS hL K => ?_
  have K := K ls hL
  rw [hn] at K
  exact lv_isub V.2.1 V.2.2.1 h1 K
theorem xs_imul {pc a b d : Nat} {v x y : Int32} (hk : k < xN) (hi : xnth (xcd k) i = some (pc, .imul, a, b, d, v)) (kk : xOK k sc E (i + 1, L, .int (x * y) :: st) w nc ns) : xOK k sc E (i, L, .int y :: .int x :: st) w nc ns := by
  obtain ⟨h1, -, -⟩ := xdec hk hi
  have hn := xnx hk hi rfl
  refine xOK_pure hi kk fun p l e s m args below meth c D cA A ρ0 ρ n0 H locs ls Q V hag hP hD hS hL K => ?_
  have K := K ls hL
  rw [hn] at K
  exact lv_imul V.2.1 V.2.2.1 h1 K
theorem xs_iand {pc a b d : Nat} {v x y : Int32} (hk : k < xN) (hi : xnth (xcd k) i = some (pc, .iand, a, b, d, v)) (kk : xOK k sc E (i + 1, L, .int (x &&& y) :: st) w nc ns) : xOK k sc E (i, L, .int y :: .int x :: st) w nc ns := by
  obtain ⟨h1, -, -⟩ := xdec hk hi
  have hn := xnx hk hi rfl
  refine xOK_pure hi kk fun p l e s m args below meth c D cA A ρ0 ρ n0 H locs ls Q V hag hP hD hS hL K => ?_
  have K := K ls hL
  rw [hn] at K
  exact lv_iand V.2.1 V.2.2.1 h1 K
theorem xs_ior {pc a b d : Nat} {v x y : Int32} (hk : k < xN) (hi : xnth (xcd k) i = some (pc, .ior, a, b, d, v)) (kk : xOK k sc E (i + 1, L, .int (x ||| y) :: st) w nc ns) : xOK k sc E (i, L, .int y :: .int x :: st) w nc ns := by
  obtain ⟨h1, -, -⟩ := xdec hk hi
  have hn := xnx hk hi rfl
  refine xOK_pure hi kk fun p l e s m args below meth c D cA A ρ0 ρ n0 H locs ls Q V hag hP hD hS hL K => ?_
  have K := K ls hL
  rw [hn] at K
  exact lv_ior V.2.1 V.2.2.1 h1 K
theorem xs_ixor {pc a b d : Nat} {v x y : Int32} (hk : k < xN) (hi : xnth (xcd k) i = some (pc, .ixor, a, b, d, v)) (kk : xOK k sc E (i + 1, L, .int (x ^^^ y) :: st) w nc ns) : xOK k sc E (i, L, .int y :: .int x :: st) w nc ns := by
  obtain ⟨h1, -, -⟩ := xdec hk hi
  have hn := xnx hk hi rfl
  refine xOK_pure hi kk fun p l e s m args below meth c D cA A ρ0 ρ n0 H locs ls Q V hag hP hD hS hL K => ?_
  have K := K ls hL
  rw [hn] at K
  exact lv_ixor V.2.1 V.2.2.1 h1 K
theorem xs_ishl {pc a b d : Nat} {v x y : Int32} (hk : k < xN) (hi : xnth (xcd k) i = some (pc, .ishl, a, b, d, v)) (kk : xOK k sc E (i + 1, L, .int (x <<< (y &&& 31)) :: st) w nc ns) : xOK k sc E (i, L, .int y :: .int x :: st) w nc ns := by
  obtain ⟨h1, -, -⟩ := xdec hk hi
  have hn := xnx hk hi rfl
  refine xOK_pure hi kk fun p l e s m args below meth c D cA A ρ0 ρ n0 H locs ls Q V hag hP hD hS hL K => ?_
  have K := K ls hL
  rw [hn] at K
  exact lv_ishl V.2.1 V.2.2.1 h1 K
theorem xs_ishr {pc a b d : Nat} {v x y : Int32} (hk : k < xN) (hi : xnth (xcd k) i = some (pc, .ishr, a, b, d, v)) (kk : xOK k sc E (i + 1, L, .int (x >>> (y &&& 31)) :: st) w nc ns) : xOK k sc E (i, L, .int y :: .int x :: st) w nc ns := by
  obtain ⟨h1, -, -⟩ := xdec hk hi
  have hn := xnx hk hi rfl
  refine xOK_pure hi kk fun p l e s m args below meth c D cA A ρ0 ρ n0 H locs ls Q V hag hP hD hS hL K => ?_
  have K := K ls hL
  rw [hn] at K
  exact lv_ishr V.2.1 V.2.2.1 h1 K
theorem xs_idiv {pc a b d : Nat} {v x y : Int32} (hk : k < xN) (hi : xnth (xcd k) i = some (pc, .idiv, a, b, d, v)) (hne : ¬ y = 0) (kk : xOK k sc E (i + 1, L, .int (x / y) :: st) w nc ns) : xOK k sc E (i, L, .int y :: .int x :: st) w nc ns := by
  obtain ⟨h1, -, -⟩ := xdec hk hi
  have hn := xnx hk hi rfl
  refine xOK_pure hi kk fun p l e s m args below meth c D cA A ρ0 ρ n0 H locs ls Q V hag hP hD hS hL K => ?_
  have K := K ls hL
  rw [hn] at K
  exact lv_idiv V.2.1 V.2.2.1 h1 hne K
theorem xs_irem {pc a b d : Nat} {v x y : Int32} (hk : k < xN) (hi : xnth (xcd k) i = some (pc, .irem, a, b, d, v)) (hne : ¬ y = 0) (kk : xOK k sc E (i + 1, L, .int (xrem x y) :: st) w nc ns) : xOK k sc E (i, L, .int y :: .int x :: st) w nc ns := by
  obtain ⟨h1, -, -⟩ := xdec hk hi
  have hn := xnx hk hi rfl
  refine xOK_pure hi kk fun p l e s m args below meth c D cA A ρ0 ρ n0 H locs ls Q V hag hP hD hS hL K => ?_
  have K := K ls hL
  rw [hn] at K
  exact lv_irem V.2.1 V.2.2.1 h1 hne K
theorem xs_ineg {pc a b d : Nat} {v x : Int32} (hk : k < xN) (hi : xnth (xcd k) i = some (pc, .ineg, a, b, d, v)) (kk : xOK k sc E (i + 1, L, .int (-x) :: st) w nc ns) : xOK k sc E (i, L, .int x :: st) w nc ns := by
  obtain ⟨h1, -, -⟩ := xdec hk hi
  have hn := xnx hk hi rfl
  refine xOK_pure hi kk fun p l e s m args below meth c D cA A ρ0 ρ n0 H locs ls Q V hag hP hD hS hL K => ?_
  have K := K ls hL
  rw [hn] at K
  exact lv_ineg V.2.1 V.2.2.1 h1 K
theorem xs_i2b {pc a b d : Nat} {v x : Int32} (hk : k < xN) (hi : xnth (xcd k) i = some (pc, .i2b, a, b, d, v)) (kk : xOK k sc E (i + 1, L, .int (x.toInt8.toInt32) :: st) w nc ns) : xOK k sc E (i, L, .int x :: st) w nc ns := by
  obtain ⟨h1, -, -⟩ := xdec hk hi
  have hn := xnx hk hi rfl
  refine xOK_pure hi kk fun p l e s m args below meth c D cA A ρ0 ρ n0 H locs ls Q V hag hP hD hS hL K => ?_
  have K := K ls hL
  rw [hn] at K
  exact lv_i2b V.2.1 V.2.2.1 h1 rfl K
theorem xs_dup {pc a b d : Nat} {v : Int32} {va : Value} (hk : k < xN) (hi : xnth (xcd k) i = some (pc, .dup, a, b, d, v)) (hva : va.category = 1) (kk : xOK k sc E (i + 1, L, va :: va :: st) w nc ns) : xOK k sc E (i, L, va :: st) w nc ns := by
  obtain ⟨h1, -, -⟩ := xdec hk hi
  have hn := xnx hk hi rfl
  refine xOK_pure hi kk fun p l e s m args below meth c D cA A ρ0 ρ n0 H locs ls Q V hag hP hD hS hL K => ?_
  have K := K ls hL
  rw [hn] at K
  exact lv_dup V.2.1 V.2.2.1 h1 (by rw [xr_cat]; exact hva) K
theorem xs_pop {pc a b d : Nat} {v : Int32} {va : Value} (hk : k < xN) (hi : xnth (xcd k) i = some (pc, .pop, a, b, d, v)) (hva : va.category = 1) (kk : xOK k sc E (i + 1, L, st) w nc ns) : xOK k sc E (i, L, va :: st) w nc ns := by
  obtain ⟨h1, -, -⟩ := xdec hk hi
  have hn := xnx hk hi rfl
  refine xOK_pure hi kk fun p l e s m args below meth c D cA A ρ0 ρ n0 H locs ls Q V hag hP hD hS hL K => ?_
  have K := K ls hL
  rw [hn] at K
  exact lv_pop V.2.1 V.2.2.1 h1 (by rw [xr_cat]; exact hva) K
theorem xs_dup2 {pc a b d : Nat} {v : Int32} {va vb : Value} (hk : k < xN) (hi : xnth (xcd k) i = some (pc, .dup2, a, b, d, v)) (hva : va.category = 1) (hvb : vb.category = 1) (kk : xOK k sc E (i + 1, L, va :: vb :: va :: vb :: st) w nc ns) : xOK k sc E (i, L, va :: vb :: st) w nc ns := by
  obtain ⟨h1, -, -⟩ := xdec hk hi
  have hn := xnx hk hi rfl
  refine xOK_pure hi kk fun p l e s m args below meth c D cA A ρ0 ρ n0 H locs ls Q V hag hP hD hS hL K => ?_
  have K := K ls hL
  rw [hn] at K
  exact lv_dup2_11 V.2.1 V.2.2.1 h1 (by rw [xr_cat]; exact hva) (by rw [xr_cat]; exact hvb) K
theorem xs_goto {off : Int} {pc a b d : Nat} {v : Int32} (hk : k < xN) (hi : xnth (xcd k) i = some (pc, .goto off, a, b, d, v)) (kk : xOK k sc E (a, L, st) w nc ns) : xOK k sc E (i, L, st) w nc ns := by
  obtain ⟨h1, -, h3⟩ := xdec hk hi
  refine xOK_pure hi kk fun p l e s m args below meth c D cA A ρ0 ρ n0 H locs ls Q V hag hP hD hS hL K => ?_
  exact lv_goto V.2.1 V.2.2.1 h1 (show (pc : Int) + off = (xpc (xcd k) a : Int) from of_decide_eq_true h3) (K ls hL)
theorem xs_getfield {idx q : Nat} {fs : List Value} {y : Value} {pc a b d : Nat} {v : Int32} (hk : k < xN) (hi : xnth (xcd k) i = some (pc, .getfield idx, a, b, d, v)) (hq : xnth w q = some (.inr (a, fs))) (hf : xnth fs b = some y) (kk : xOK k sc E (i + 1, L, y :: st) w nc ns) : xOK k sc E (i, L, .ref q :: st) w nc ns := by
  obtain ⟨h1, -, h3⟩ := xdec hk hi
  have hn := xnx hk hi rfl
  obtain ⟨⟨C, T, N⟩, hc, hbN⟩ := xfld_ok h3
  refine xOK_pure hi kk fun p l e s m args below meth c D cA A ρ0 ρ n0 H locs ls Q V hag hP hD hS hL K => ?_
  have K := K ls hL
  rw [hn] at K
  refine va_get (D := D) (ci := a) (v := xr ρ y) (C := C) (T := T) (N := N) V.2.1 V.2.2.1 V.2.2.2.2.2.2.2.1 (xlay_in hc) V.2.2.2.2.2.2.1 V.2.2.2.2.2.2.2.2.2.1 hP q (xwd_get hq) hc b hbN (V.2.2.2.2.2.2.2.1 _ (xall_in _ (xword_in hk hi _ ?_))) (fun _ h => h) ?_ h1 K
  · unfold xword; simp only [hc]; exact List.mem_cons_self
  · rw [xnth_eq] at hf
    simp [hf]
theorem xs_putfield {idx q : Nat} {fs : List Value} {y y0 : Value} {pc a b d : Nat} {v : Int32} (hk : k < xN) (hi : xnth (xcd k) i = some (pc, .putfield idx, a, b, d, v)) (hq : xnth w q = some (.inr (a, fs))) (hf : xnth fs b = some y0) (hy : xfits d y = true) (kk : xOK k sc E (i + 1, L, st) (w.set q (.inr (a, fs.set b y))) nc ns) : xOK k sc E (i, L, y :: .ref q :: st) w nc ns := by
  obtain ⟨h1, -, h3⟩ := xdec hk hi
  have hn := xnx hk hi rfl
  obtain ⟨⟨C, T, N⟩, hc, hbN, hfin⟩ := xput_ok h3
  have hty := xty_ok hc
  have hnm := xnm_ok hc
  obtain ⟨ty, e1, e2, e3⟩ := xfits_ok h3 hy hc hbN
  have hl : b < fs.length := by rw [xnth_eq] at hf; exact (List.getElem?_eq_some_iff.mp hf).1
  refine xOK_cell hi (by simp) kk fun p l e s m args below meth c D cA A ρ0 ρ n0 H locs ls Q V hag hP hD hS hL K => ?_
  have hwd := xall_in _ <| xword_in hk hi (.fieldLink (xy k).cls idx (T b).1 (T b).2.1 (T b).2.2.1) (by unfold xword; simp only [hc]; exact List.mem_cons_self)
  rcases hfin with hfin | ⟨hfin, hini, hown⟩
  · refine va_put (D := D) (ci := a) (v := xr ρ y) (C := C) (T := T) (N := N) V.2.1 V.2.2.1 V.2.2.2.2.2.2.2.1 (xlay_in hc) (xty a) hty hnm V.2.2.2.2.2.2.1 V.2.2.2.2.2.2.2.2.2.1 hP hD hS q (xwd_get hq) hc b hbN (V.2.2.2.2.2.2.2.1 _ hwd) (fun _ h => h) hfin e1 (e2 ρ) (e3 ρ) (by simpa using hl) h1 (fun H' locs' hP' hD' hS' => ?_)
    have hset : xcell cA ρ (.inr (a, fs.set b y)) = .inr (a, (fs.map (xr ρ)).set b (xr ρ y)) := by
      show Sum.inr (a, (fs.set b y).map (xr ρ)) = _
      rw [List.map_set]
    have K := K H' locs' hL (by rw [xwd_set, hset]; exact hP') (by rw [xwd_set, hset]; exact hD') hS'
    rw [hn] at K
    exact K
  · refine va_putF (D := D) (ci := a) (v := xr ρ y) (C := C) (T := T) (N := N) V.2.1 V.2.2.1 V.2.2.2.2.2.2.2.1 (xlay_in hc) (xty a) hty hnm V.2.2.2.2.2.2.1 V.2.2.2.2.2.2.2.2.2.1 hP hD hS q (xwd_get hq) hc b hbN (V.2.2.2.2.2.2.2.1 _ hwd) (fun _ h => h) hfin (V.2.2.2.2.2.2.2.2.2.2.2.1 hini) hown e1 (e2 ρ) (e3 ρ) (by simpa using hl) h1 (fun H' locs' hP' hD' hS' => ?_)
    have hset : xcell cA ρ (.inr (a, fs.set b y)) = .inr (a, (fs.map (xr ρ)).set b (xr ρ y)) := by
      show Sum.inr (a, (fs.set b y).map (xr ρ)) = _
      rw [List.map_set]
    have K := K H' locs' hL (by rw [xwd_set, hset]; exact hP') (by rw [xwd_set, hset]; exact hD') hS'
    rw [hn] at K
    exact K
theorem xs_iaload {q n : Nat} {f : Nat → Int32} {j : Int32} {pc a b d : Nat} {v : Int32} (hk : k < xN) (hi : xnth (xcd k) i = some (pc, .iaload, a, b, d, v)) (hq : xnth w q = some (.inl (n, f))) (hj : xin j n = true) (kk : xOK k sc E (i + 1, L, .int (f j.toNatClampNeg) :: st) w nc ns) : xOK k sc E (i, L, .int j :: .ref q :: st) w nc ns := by
  obtain ⟨h1, -, -⟩ := xdec hk hi
  have hn := xnx hk hi rfl
  refine xOK_pure hi kk fun p l e s m args below meth c D cA A ρ0 ρ n0 H locs ls Q V hag hP hD hS hL K => ?_
  have K := K ls hL
  rw [hn] at K
  exact va_iald V.2.1 V.2.2.1 V.2.2.2.2.2.2.2.2.2.1 hP q 0 (xwd_get hq) rfl (xin_ok hj) h1 K
theorem xs_ialoadS {n : Nat} {f : Nat → Int32} {j : Int32} {pc a b d : Nat} {v : Int32} (hk : k < xN) (hi : xnth (xcd k) i = some (pc, .iaload, a, b, d, v)) (hs : sc = some (n, f)) (hj : xin j n = true) (kk : xOK k sc E (i + 1, L, .int (f j.toNatClampNeg) :: st) w nc ns) : xOK k sc E (i, L, .int j :: .ref xscr :: st) w nc ns := by
  obtain ⟨h1, -, -⟩ := xdec hk hi
  have hn := xnx hk hi rfl
  refine xOK_pure hi kk fun p l e s m args below meth c D cA A ρ0 ρ n0 H locs ls Q V hag hP hD hS hL K => ?_
  have K := K ls hL
  rw [hn] at K
  obtain ⟨hX, hbl, hbA⟩ := V.2.2.2.2.2.2.2.2.2.2.2.2 n f hs
  have hρ : ρ xscr = ρ0 xscr := hag.2 xscr (Or.inr rfl)
  show W p l e (xrm k) s m args below meth c H locs nc ns Q (F0 m pc ls (.int j :: .ref (ρ xscr) :: st.map (xr ρ)))
  rw [hρ]
  exact va_sld V.2.1 V.2.2.1 hX hbl hbA hS (xin_ok hj) h1 K
theorem xs_iastore {q n : Nat} {f : Nat → Int32} {j x : Int32} {pc a b d : Nat} {v : Int32} (hk : k < xN) (hi : xnth (xcd k) i = some (pc, .iastore, a, b, d, v)) (hq : xnth w q = some (.inl (n, f))) (hj : xin j n = true) (kk : xOK k sc E (i + 1, L, st) (w.set q (.inl (n, upd f j.toNatClampNeg x))) nc ns) : xOK k sc E (i, L, .int x :: .int j :: .ref q :: st) w nc ns := by
  obtain ⟨h1, -, -⟩ := xdec hk hi
  have hn := xnx hk hi rfl
  refine xOK_cell hi (by simp) kk fun p l e s m args below meth c D cA A ρ0 ρ n0 H locs ls Q V hag hP hD hS hL K => ?_
  refine va_iast V.2.1 V.2.2.1 V.2.2.2.2.2.2.2.2.2.1 hP hD hS q 0 (xwd_get hq) rfl (xin_ok hj) h1 (fun H' locs' hP' hD' hS' => ?_)
  have K := K H' locs' hL (by rw [xwd_set]; exact hP') (by rw [xwd_set]; exact hD') hS'
  rw [hn] at K
  exact K
theorem xs_arraylength {q n : Nat} {f : Nat → Int32} {pc a b d : Nat} {v : Int32} (hk : k < xN) (hi : xnth (xcd k) i = some (pc, .arraylength, a, b, d, v)) (hq : xnth w q = some (.inl (n, f))) (kk : xOK k sc E (i + 1, L, .int (Int32.ofNat n) :: st) w nc ns) : xOK k sc E (i, L, .ref q :: st) w nc ns := by
  obtain ⟨h1, -, -⟩ := xdec hk hi
  have hn := xnx hk hi rfl
  refine xOK_pure hi kk fun p l e s m args below meth c D cA A ρ0 ρ n0 H locs ls Q V hag hP hD hS hL K => ?_
  have K := K ls hL
  rw [hn] at K
  exact va_alen V.2.1 V.2.2.1 V.2.2.2.2.2.2.2.2.2.1 hP q 0 (xwd_get hq) rfl rfl h1 K
theorem xs_arraylengthS {n : Nat} {f : Nat → Int32} {pc a b d : Nat} {v : Int32} (hk : k < xN) (hi : xnth (xcd k) i = some (pc, .arraylength, a, b, d, v)) (hs : sc = some (n, f)) (kk : xOK k sc E (i + 1, L, .int (Int32.ofNat n) :: st) w nc ns) : xOK k sc E (i, L, .ref xscr :: st) w nc ns := by
  obtain ⟨h1, -, -⟩ := xdec hk hi
  have hn := xnx hk hi rfl
  refine xOK_pure hi kk fun p l e s m args below meth c D cA A ρ0 ρ n0 H locs ls Q V hag hP hD hS hL K => ?_
  have K := K ls hL
  rw [hn] at K
  obtain ⟨hX, hbl, hbA⟩ := V.2.2.2.2.2.2.2.2.2.2.2.2 n f hs
  have hρ : ρ xscr = ρ0 xscr := hag.2 xscr (Or.inr rfl)
  show W p l e (xrm k) s m args below meth c H locs nc ns Q (F0 m pc ls (.ref (ρ xscr) :: st.map (xr ρ)))
  rw [hρ]
  exact va_slen V.2.1 V.2.2.1 hX hbl hbA hS h1 K
theorem xs_if_eq {off : Int} {pc a b d : Nat} {v x : Int32} (hk : k < xN) (hi : xnth (xcd k) i = some (pc, .ifCond .eq off, a, b, d, v)) (kt : x = 0 → xOK k sc E (a, L, st) w nc ns) (kf : ¬ x = 0 → xOK k sc E (i + 1, L, st) w nc ns) : xOK k sc E (i, L, .int x :: st) w nc ns := by
  obtain ⟨h1, -, h3⟩ := xdec hk hi
  have hn := xnx hk hi rfl
  intro p l e s m args below meth c D cA A ρ0 n0 V ρ H locs ls hag hn0 hP hD hS hL
  rw [xpc_eq hi]
  refine lv_if_eq V.2.1 V.2.2.1 h1 (show (pc : Int) + off = (xpc (xcd k) a : Int) from of_decide_eq_true h3) (fun q => kt q p l e s m args below meth c D cA A ρ0 n0 V ρ H locs ls hag hn0 hP hD hS hL) (fun q => ?_)
  have K := kf q p l e s m args below meth c D cA A ρ0 n0 V ρ H locs ls hag hn0 hP hD hS hL
  have hn' : xpc (xcd k) (i + 1) = pc + 3 := hn
  simp only [hn'] at K
  exact K
theorem xs_icmp_eq {off : Int} {pc a b d : Nat} {v x y : Int32} (hk : k < xN) (hi : xnth (xcd k) i = some (pc, .if_icmp .eq off, a, b, d, v)) (kt : x = y → xOK k sc E (a, L, st) w nc ns) (kf : ¬ x = y → xOK k sc E (i + 1, L, st) w nc ns) : xOK k sc E (i, L, .int y :: .int x :: st) w nc ns := by
  obtain ⟨h1, -, h3⟩ := xdec hk hi
  have hn := xnx hk hi rfl
  intro p l e s m args below meth c D cA A ρ0 n0 V ρ H locs ls hag hn0 hP hD hS hL
  rw [xpc_eq hi]
  refine lv_icmp_eq V.2.1 V.2.2.1 h1 (show (pc : Int) + off = (xpc (xcd k) a : Int) from of_decide_eq_true h3) (fun q => kt q p l e s m args below meth c D cA A ρ0 n0 V ρ H locs ls hag hn0 hP hD hS hL) (fun q => ?_)
  have K := kf q p l e s m args below meth c D cA A ρ0 n0 V ρ H locs ls hag hn0 hP hD hS hL
  have hn' : xpc (xcd k) (i + 1) = pc + 3 := hn
  simp only [hn'] at K
  exact K
theorem xs_if_ne {off : Int} {pc a b d : Nat} {v x : Int32} (hk : k < xN) (hi : xnth (xcd k) i = some (pc, .ifCond .ne off, a, b, d, v)) (kt : ¬ x = 0 → xOK k sc E (a, L, st) w nc ns) (kf : x = 0 → xOK k sc E (i + 1, L, st) w nc ns) : xOK k sc E (i, L, .int x :: st) w nc ns := by
  obtain ⟨h1, -, h3⟩ := xdec hk hi
  have hn := xnx hk hi rfl
  intro p l e s m args below meth c D cA A ρ0 n0 V ρ H locs ls hag hn0 hP hD hS hL
  rw [xpc_eq hi]
  refine lv_if_ne V.2.1 V.2.2.1 h1 (show (pc : Int) + off = (xpc (xcd k) a : Int) from of_decide_eq_true h3) (fun q => kt q p l e s m args below meth c D cA A ρ0 n0 V ρ H locs ls hag hn0 hP hD hS hL) (fun q => ?_)
  have K := kf q p l e s m args below meth c D cA A ρ0 n0 V ρ H locs ls hag hn0 hP hD hS hL
  have hn' : xpc (xcd k) (i + 1) = pc + 3 := hn
  simp only [hn'] at K
  exact K
theorem xs_icmp_ne {off : Int} {pc a b d : Nat} {v x y : Int32} (hk : k < xN) (hi : xnth (xcd k) i = some (pc, .if_icmp .ne off, a, b, d, v)) (kt : ¬ x = y → xOK k sc E (a, L, st) w nc ns) (kf : x = y → xOK k sc E (i + 1, L, st) w nc ns) : xOK k sc E (i, L, .int y :: .int x :: st) w nc ns := by
  obtain ⟨h1, -, h3⟩ := xdec hk hi
  have hn := xnx hk hi rfl
  intro p l e s m args below meth c D cA A ρ0 n0 V ρ H locs ls hag hn0 hP hD hS hL
  rw [xpc_eq hi]
  refine lv_icmp_ne V.2.1 V.2.2.1 h1 (show (pc : Int) + off = (xpc (xcd k) a : Int) from of_decide_eq_true h3) (fun q => kt q p l e s m args below meth c D cA A ρ0 n0 V ρ H locs ls hag hn0 hP hD hS hL) (fun q => ?_)
  have K := kf q p l e s m args below meth c D cA A ρ0 n0 V ρ H locs ls hag hn0 hP hD hS hL
  have hn' : xpc (xcd k) (i + 1) = pc + 3 := hn
  simp only [hn'] at K
  exact K
theorem xs_if_lt {off : Int} {pc a b d : Nat} {v x : Int32} (hk : k < xN) (hi : xnth (xcd k) i = some (pc, .ifCond .lt off, a, b, d, v)) (kt : x < 0 → xOK k sc E (a, L, st) w nc ns) (kf : ¬ x < 0 → xOK k sc E (i + 1, L, st) w nc ns) : xOK k sc E (i, L, .int x :: st) w nc ns := by
  obtain ⟨h1, -, h3⟩ := xdec hk hi
  have hn := xnx hk hi rfl
  intro p l e s m args below meth c D cA A ρ0 n0 V ρ H locs ls hag hn0 hP hD hS hL
  rw [xpc_eq hi]
  refine lv_if_lt V.2.1 V.2.2.1 h1 (show (pc : Int) + off = (xpc (xcd k) a : Int) from of_decide_eq_true h3) (fun q => kt q p l e s m args below meth c D cA A ρ0 n0 V ρ H locs ls hag hn0 hP hD hS hL) (fun q => ?_)
  have K := kf q p l e s m args below meth c D cA A ρ0 n0 V ρ H locs ls hag hn0 hP hD hS hL
  have hn' : xpc (xcd k) (i + 1) = pc + 3 := hn
  simp only [hn'] at K
  exact K
theorem xs_icmp_lt {off : Int} {pc a b d : Nat} {v x y : Int32} (hk : k < xN) (hi : xnth (xcd k) i = some (pc, .if_icmp .lt off, a, b, d, v)) (kt : x < y → xOK k sc E (a, L, st) w nc ns) (kf : ¬ x < y → xOK k sc E (i + 1, L, st) w nc ns) : xOK k sc E (i, L, .int y :: .int x :: st) w nc ns := by
  obtain ⟨h1, -, h3⟩ := xdec hk hi
  have hn := xnx hk hi rfl
  intro p l e s m args below meth c D cA A ρ0 n0 V ρ H locs ls hag hn0 hP hD hS hL
  rw [xpc_eq hi]
  refine lv_icmp_lt V.2.1 V.2.2.1 h1 (show (pc : Int) + off = (xpc (xcd k) a : Int) from of_decide_eq_true h3) (fun q => kt q p l e s m args below meth c D cA A ρ0 n0 V ρ H locs ls hag hn0 hP hD hS hL) (fun q => ?_)
  have K := kf q p l e s m args below meth c D cA A ρ0 n0 V ρ H locs ls hag hn0 hP hD hS hL
  have hn' : xpc (xcd k) (i + 1) = pc + 3 := hn
  simp only [hn'] at K
  exact K
theorem xs_if_ge {off : Int} {pc a b d : Nat} {v x : Int32} (hk : k < xN) (hi : xnth (xcd k) i = some (pc, .ifCond .ge off, a, b, d, v)) (kt : 0 ≤ x → xOK k sc E (a, L, st) w nc ns) (kf : ¬ 0 ≤ x → xOK k sc E (i + 1, L, st) w nc ns) : xOK k sc E (i, L, .int x :: st) w nc ns := by
  obtain ⟨h1, -, h3⟩ := xdec hk hi
  have hn := xnx hk hi rfl
  intro p l e s m args below meth c D cA A ρ0 n0 V ρ H locs ls hag hn0 hP hD hS hL
  rw [xpc_eq hi]
  refine lv_if_ge V.2.1 V.2.2.1 h1 (show (pc : Int) + off = (xpc (xcd k) a : Int) from of_decide_eq_true h3) (fun q => kt q p l e s m args below meth c D cA A ρ0 n0 V ρ H locs ls hag hn0 hP hD hS hL) (fun q => ?_)
  have K := kf q p l e s m args below meth c D cA A ρ0 n0 V ρ H locs ls hag hn0 hP hD hS hL
  have hn' : xpc (xcd k) (i + 1) = pc + 3 := hn
  simp only [hn'] at K
  exact K
theorem xs_icmp_ge {off : Int} {pc a b d : Nat} {v x y : Int32} (hk : k < xN) (hi : xnth (xcd k) i = some (pc, .if_icmp .ge off, a, b, d, v)) (kt : y ≤ x → xOK k sc E (a, L, st) w nc ns) (kf : ¬ y ≤ x → xOK k sc E (i + 1, L, st) w nc ns) : xOK k sc E (i, L, .int y :: .int x :: st) w nc ns := by
  obtain ⟨h1, -, h3⟩ := xdec hk hi
  have hn := xnx hk hi rfl
  intro p l e s m args below meth c D cA A ρ0 n0 V ρ H locs ls hag hn0 hP hD hS hL
  rw [xpc_eq hi]
  refine lv_icmp_ge V.2.1 V.2.2.1 h1 (show (pc : Int) + off = (xpc (xcd k) a : Int) from of_decide_eq_true h3) (fun q => kt q p l e s m args below meth c D cA A ρ0 n0 V ρ H locs ls hag hn0 hP hD hS hL) (fun q => ?_)
  have K := kf q p l e s m args below meth c D cA A ρ0 n0 V ρ H locs ls hag hn0 hP hD hS hL
  have hn' : xpc (xcd k) (i + 1) = pc + 3 := hn
  simp only [hn'] at K
  exact K
theorem xs_if_gt {off : Int} {pc a b d : Nat} {v x : Int32} (hk : k < xN) (hi : xnth (xcd k) i = some (pc, .ifCond .gt off, a, b, d, v)) (kt : 0 < x → xOK k sc E (a, L, st) w nc ns) (kf : ¬ 0 < x → xOK k sc E (i + 1, L, st) w nc ns) : xOK k sc E (i, L, .int x :: st) w nc ns := by
  obtain ⟨h1, -, h3⟩ := xdec hk hi
  have hn := xnx hk hi rfl
  intro p l e s m args below meth c D cA A ρ0 n0 V ρ H locs ls hag hn0 hP hD hS hL
  rw [xpc_eq hi]
  refine lv_if_gt V.2.1 V.2.2.1 h1 (show (pc : Int) + off = (xpc (xcd k) a : Int) from of_decide_eq_true h3) (fun q => kt q p l e s m args below meth c D cA A ρ0 n0 V ρ H locs ls hag hn0 hP hD hS hL) (fun q => ?_)
  have K := kf q p l e s m args below meth c D cA A ρ0 n0 V ρ H locs ls hag hn0 hP hD hS hL
  have hn' : xpc (xcd k) (i + 1) = pc + 3 := hn
  simp only [hn'] at K
  exact K
theorem xs_icmp_gt {off : Int} {pc a b d : Nat} {v x y : Int32} (hk : k < xN) (hi : xnth (xcd k) i = some (pc, .if_icmp .gt off, a, b, d, v)) (kt : y < x → xOK k sc E (a, L, st) w nc ns) (kf : ¬ y < x → xOK k sc E (i + 1, L, st) w nc ns) : xOK k sc E (i, L, .int y :: .int x :: st) w nc ns := by
  obtain ⟨h1, -, h3⟩ := xdec hk hi
  have hn := xnx hk hi rfl
  intro p l e s m args below meth c D cA A ρ0 n0 V ρ H locs ls hag hn0 hP hD hS hL
  rw [xpc_eq hi]
  refine lv_icmp_gt V.2.1 V.2.2.1 h1 (show (pc : Int) + off = (xpc (xcd k) a : Int) from of_decide_eq_true h3) (fun q => kt q p l e s m args below meth c D cA A ρ0 n0 V ρ H locs ls hag hn0 hP hD hS hL) (fun q => ?_)
  have K := kf q p l e s m args below meth c D cA A ρ0 n0 V ρ H locs ls hag hn0 hP hD hS hL
  have hn' : xpc (xcd k) (i + 1) = pc + 3 := hn
  simp only [hn'] at K
  exact K
theorem xs_if_le {off : Int} {pc a b d : Nat} {v x : Int32} (hk : k < xN) (hi : xnth (xcd k) i = some (pc, .ifCond .le off, a, b, d, v)) (kt : x ≤ 0 → xOK k sc E (a, L, st) w nc ns) (kf : ¬ x ≤ 0 → xOK k sc E (i + 1, L, st) w nc ns) : xOK k sc E (i, L, .int x :: st) w nc ns := by
  obtain ⟨h1, -, h3⟩ := xdec hk hi
  have hn := xnx hk hi rfl
  intro p l e s m args below meth c D cA A ρ0 n0 V ρ H locs ls hag hn0 hP hD hS hL
  rw [xpc_eq hi]
  refine lv_if_le V.2.1 V.2.2.1 h1 (show (pc : Int) + off = (xpc (xcd k) a : Int) from of_decide_eq_true h3) (fun q => kt q p l e s m args below meth c D cA A ρ0 n0 V ρ H locs ls hag hn0 hP hD hS hL) (fun q => ?_)
  have K := kf q p l e s m args below meth c D cA A ρ0 n0 V ρ H locs ls hag hn0 hP hD hS hL
  have hn' : xpc (xcd k) (i + 1) = pc + 3 := hn
  simp only [hn'] at K
  exact K
theorem xs_icmp_le {off : Int} {pc a b d : Nat} {v x y : Int32} (hk : k < xN) (hi : xnth (xcd k) i = some (pc, .if_icmp .le off, a, b, d, v)) (kt : x ≤ y → xOK k sc E (a, L, st) w nc ns) (kf : ¬ x ≤ y → xOK k sc E (i + 1, L, st) w nc ns) : xOK k sc E (i, L, .int y :: .int x :: st) w nc ns := by
  obtain ⟨h1, -, h3⟩ := xdec hk hi
  have hn := xnx hk hi rfl
  intro p l e s m args below meth c D cA A ρ0 n0 V ρ H locs ls hag hn0 hP hD hS hL
  rw [xpc_eq hi]
  refine lv_icmp_le V.2.1 V.2.2.1 h1 (show (pc : Int) + off = (xpc (xcd k) a : Int) from of_decide_eq_true h3) (fun q => kt q p l e s m args below meth c D cA A ρ0 n0 V ρ H locs ls hag hn0 hP hD hS hL) (fun q => ?_)
  have K := kf q p l e s m args below meth c D cA A ρ0 n0 V ρ H locs ls hag hn0 hP hD hS hL
  have hn' : xpc (xcd k) (i + 1) = pc + 3 := hn
  simp only [hn'] at K
  exact K
theorem xOK_step1 {en : xE} {fr' : xF} {w' : xW} {ob : Bool} (hk : k < xN) (hi : xnth (xcd k) i = some en) (h : xstep sc en i L st w = some (fr', w', ob)) (ho : ob = true) (kk : xOK k sc E fr' w' nc ns) : xOK k sc E (i, L, st) w nc ns := by
  obtain ⟨pc, ins, a, b, d, v⟩ := en
  cases ins
  case iconst n =>
    have h : xpush (.int v) i L st w = some (fr', w', ob) := h
    unfold xpush at h
    cases h
    exact xs_iconst hk hi kk
  case bipush n =>
    have h : xpush (.int v) i L st w = some (fr', w', ob) := h
    unfold xpush at h
    cases h
    exact xs_bipush hk hi kk
  case sipush n =>
    have h : xpush (.int v) i L st w = some (fr', w', ob) := h
    unfold xpush at h
    cases h
    exact xs_sipush hk hi kk
  case ldc n =>
    have h : xpush (.int v) i L st w = some (fr', w', ob) := h
    unfold xpush at h
    cases h
    exact xs_ldc hk hi kk
  case iload_n n =>
    have h : xldi n.val i L st w = some (fr', w', ob) := h
    unfold xldi at h
    split at h
    · next x hx => cases h; exact xs_iload_n hk hi hx kk
    · cases h
  case iload n =>
    have h : xldi n i L st w = some (fr', w', ob) := h
    unfold xldi at h
    split at h
    · next x hx => cases h; exact xs_iload hk hi hx kk
    · cases h
  case aload_n n =>
    have h : xlda n.val i L st w = some (fr', w', ob) := h
    unfold xlda at h
    split at h
    · next x hx => cases h; exact xs_aload_n hk hi hx kk
    · cases h
  case aload n =>
    have h : xlda n i L st w = some (fr', w', ob) := h
    unfold xlda at h
    split at h
    · next x hx => cases h; exact xs_aload hk hi hx kk
    · cases h
  case istore_n n =>
    have h : xsti n.val i L w st = some (fr', w', ob) := h
    unfold xsti at h
    split at h
    · cases h; exact xs_istore_n hk hi kk
    · cases h
  case istore n =>
    have h : xsti n i L w st = some (fr', w', ob) := h
    unfold xsti at h
    split at h
    · cases h; exact xs_istore hk hi kk
    · cases h
  case astore_n n =>
    have h : xsta n.val i L w st = some (fr', w', ob) := h
    unfold xsta at h
    split at h
    · cases h; exact xs_astore_n hk hi kk
    · cases h
  case iinc n z =>
    have h : xinc n v i L st w = some (fr', w', ob) := h
    unfold xinc at h
    split at h
    · next x hx => cases h; exact xs_iinc hk hi hx kk
    · cases h
  case iadd =>
    have h : xbin (fun x y => x + y) i L w st = some (fr', w', ob) := h
    unfold xbin at h
    split at h
    · cases h; exact xs_iadd hk hi kk
    · cases h
  case isub =>
    have h : xbin (fun x y => x - y) i L w st = some (fr', w', ob) := h
    unfold xbin at h
    split at h
    · cases h; exact xs_isub hk hi kk
    · cases h
  case imul =>
    have h : xbin (fun x y => x * y) i L w st = some (fr', w', ob) := h
    unfold xbin at h
    split at h
    · cases h; exact xs_imul hk hi kk
    · cases h
  case iand =>
    have h : xbin (fun x y => x &&& y) i L w st = some (fr', w', ob) := h
    unfold xbin at h
    split at h
    · cases h; exact xs_iand hk hi kk
    · cases h
  case ior =>
    have h : xbin (fun x y => x ||| y) i L w st = some (fr', w', ob) := h
    unfold xbin at h
    split at h
    · cases h; exact xs_ior hk hi kk
    · cases h
  case ixor =>
    have h : xbin (fun x y => x ^^^ y) i L w st = some (fr', w', ob) := h
    unfold xbin at h
    split at h
    · cases h; exact xs_ixor hk hi kk
    · cases h
  case ishl =>
    have h : xbin (fun x y => x <<< (y &&& 31)) i L w st = some (fr', w', ob) := h
    unfold xbin at h
    split at h
    · cases h; exact xs_ishl hk hi kk
    · cases h
  case ishr =>
    have h : xbin (fun x y => x >>> (y &&& 31)) i L w st = some (fr', w', ob) := h
    unfold xbin at h
    split at h
    · cases h; exact xs_ishr hk hi kk
    · cases h
  case idiv =>
    have h : xdiv (fun x y => x / y) i L w st = some (fr', w', ob) := h
    unfold xdiv at h
    split at h
    · next y x r => cases h; exact xs_idiv hk hi (by intro q; subst q; simp at ho) kk
    · cases h
  case irem =>
    have h : xdiv xrem i L w st = some (fr', w', ob) := h
    unfold xdiv at h
    split at h
    · next y x r => cases h; exact xs_irem hk hi (by intro q; subst q; simp at ho) kk
    · cases h
  case ineg =>
    have h : xun (fun x => -x) i L w st = some (fr', w', ob) := h
    unfold xun at h
    split at h
    · cases h; exact xs_ineg hk hi kk
    · cases h
  case i2b =>
    have h : xun (fun x => x.toInt8.toInt32) i L w st = some (fr', w', ob) := h
    unfold xun at h
    split at h
    · cases h; exact xs_i2b hk hi kk
    · cases h
  case dup =>
    have h : xdup i L w st = some (fr', w', ob) := h
    unfold xdup at h
    split at h
    · cases h; exact xs_dup hk hi rfl kk
    · cases h; exact xs_dup hk hi rfl kk
    · cases h
  case dup2 =>
    have h : xdup2 i L w st = some (fr', w', ob) := h
    unfold xdup2 at h
    split at h
    · cases h; exact xs_dup2 hk hi rfl rfl kk
    · cases h
  case pop =>
    have h : xpop i L w st = some (fr', w', ob) := h
    unfold xpop at h
    split at h
    · cases h; exact xs_pop hk hi rfl kk
    · cases h
  case goto n =>
    have h : some ((a, L, st), w, true) = some (fr', w', ob) := h
    cases h
    exact xs_goto hk hi kk
  case getfield n =>
    have h : xgetf a b i L w st = some (fr', w', ob) := h
    unfold xgetf at h
    split at h
    · next q r =>
      split at h
      · next cj fs hq =>
        split at h
        · next hc =>
          have hc := Nat.eq_of_beq_eq_true hc
          subst hc
          split at h
          · next y hf => cases h; exact xs_getfield hk hi hq hf kk
          · cases h
        · cases h
      · cases h
    · cases h
  case putfield n =>
    match d, hi, h with
    | 0, hi, h =>
      have h : xputf a b i false L w st = some (fr', w', ob) := h
      unfold xputf at h
      split at h
      · next x q r =>
        split at h
        · next cj fs hq =>
          split at h
          · next hc =>
            have hc := Nat.eq_of_beq_eq_true hc
            subst hc
            split at h
            · next y0 hf => cases h; exact xs_putfield hk hi hq hf rfl kk
            · cases h
          · cases h
        · cases h
      · cases h
    | 1, hi, h =>
      have h : xputf a b i true L w st = some (fr', w', ob) := h
      unfold xputf at h
      split at h
      · next x q r =>
        split at h
        · next cj fs hq =>
          split at h
          · next hc =>
            have hc := Nat.eq_of_beq_eq_true hc
            subst hc
            split at h
            · next y0 hf => cases h; exact xs_putfield hk hi hq hf ho kk
            · cases h
          · cases h
        · cases h
      · cases h
    | 2, hi, h =>
      have h : xputa a b i L w st = some (fr', w', ob) := h
      unfold xputa at h
      split at h
      · next x q r =>
        split at h
        · next cj fs hq =>
          split at h
          · next hc =>
            have hc := Nat.eq_of_beq_eq_true hc
            subst hc
            split at h
            · next y0 hf => cases h; exact xs_putfield hk hi hq hf rfl kk
            · cases h
          · cases h
        · cases h
      · cases h
    | (d + 3), hi, h => cases h
  case iaload =>
    have h : xald sc i L w st = some (fr', w', ob) := h
    unfold xald at h
    split at h
    · next j q r =>
      split at h
      · next n f hq => cases h; exact xs_iaload hk hi hq ho kk
      · cases h
      · split at h
        · next hc =>
          have hc := Nat.eq_of_beq_eq_true hc
          subst hc
          split at h
          · next n f hs => cases h; exact xs_ialoadS hk hi rfl ho kk
          · cases h
        · cases h
    · cases h
  case iastore =>
    have h : xast i L w st = some (fr', w', ob) := h
    unfold xast at h
    split at h
    · next x j q r =>
      split at h
      · next n f hq => cases h; exact xs_iastore hk hi hq ho kk
      · cases h
    · cases h
  case arraylength =>
    have h : xlen sc i L w st = some (fr', w', ob) := h
    unfold xlen at h
    split at h
    · next q r =>
      split at h
      · next n f hq => cases h; exact xs_arraylength hk hi hq kk
      · cases h
      · split at h
        · next hc =>
          have hc := Nat.eq_of_beq_eq_true hc
          subst hc
          split at h
          · next n f => cases h; exact xs_arraylengthS hk hi rfl kk
          · cases h
        · cases h
    · cases h
  all_goals exact absurd (show none = some (fr', w', ob) from h) (by simp)
theorem xOK_steps {cd : List xE} (hc : xcd k = cd) (hk : k < xN) : ∀ (n : Nat) {fr fr' : xF} {w w' : xW} {ob : Bool}, xsteps sc cd n fr w = some (fr', w', ob) → ob = true → xOK k sc E fr' w' nc ns → xOK k sc E fr w nc ns := by
  subst hc
  intro n
  induction n with
  | zero =>
    intro fr fr' w w' ob h ho kk
    cases h
    exact kk
  | succ n ih =>
    intro fr fr' w w' ob h ho kk
    unfold xsteps at h
    split at h
    · cases h
    · next en hi =>
      split at h
      · cases h
      · next q hq =>
        split at h
        · cases h
        · next z hz =>
          cases h
          rw [Bool.and_eq_true] at ho
          exact xOK_step1 hk hi hq ho.1 (ih hz ho.2 kk)
end XST
