-- contracts of methods in these words
def xQ (k : Nat) (D : va_G) (cA : ClassId) (A : Nat → Prop) (ρ0 : Nat → Nat) (n0 : Nat) (r : Option Int32) (wE : xW) : Array Value → State → Outcome → State → Prop := match r with
  | none => va_Qv (fun (ρ : Nat → Nat) => xag (xmc k) n0 ρ0 ρ) (fun ρ t => va_P D xcl (xwd cA ρ wE) t.heap ∧ va_K D xcl [(cA, .int)] t ∧ va_D A (xwd cA ρ wE)) A
  | some v => va_Qi (fun (x : Int32) (ρ : Nat → Nat) => x = v ∧ xag (xmc k) n0 ρ0 ρ) (fun ρ t => va_P D xcl (xwd cA ρ wE) t.heap ∧ va_K D xcl [(cA, .int)] t ∧ va_D A (xwd cA ρ wE)) A
def xPre (D : va_G) (cA : ClassId) (ρ : Nat → Nat) (sz : Nat) (w : xW) (U : State) : Prop := U.heap.size = sz ∧ va_P D xcl (xwd cA ρ w) U.heap ∧ va_K D xcl [(cA, .int)] U ∧ va_D (fun _ => True) (xwd cA ρ w) ∧ xNW U
def xMet (k : Nat) (av : List Value) (w : xW) (r : Option Int32) (wE : xW) : Prop :=
  w.length ≤ wE.length ∧ ∀ (l : Launch) (D : va_G) (cA : ClassId) (ρ : Nat → Nat) (sz : Nat),
    Met l (xy k) (xws k) (xrm k) (va_Pc (av.map (xr ρ)) (xPre D cA ρ sz w)) (xQ k D cA (va_A (xwd cA ρ w) sz) ρ w.length r wE) (xmc k) (xms k) (va_A (xwd cA ρ w) sz)
def xEnd (k : Nat) (r : Option Int32) (wE : xW) : xT := fun s args below D cA A ρ0 n0 => MQ below (xQ k D cA A ρ0 n0 r wE) args s (xmc k) (xms k) A
def xpr : Option Int32 → List Value
  | none => []
  | some x => [.int x]
def xroom (st : List Value) : Bool := Nat.ble ((st.map fun v => v.category).sum) 8
def xent (k : Nat) (av : List Value) : List (Option Value) := av.map some ++ List.replicate (xnl k - av.length) none
theorem xblind {av : List Value} {D : va_G} {cA : ClassId} {ρ : Nat → Nat} {sz : Nat} {w : xW} : FrameBlind (va_Pc av (xPre D cA ρ sz w)) := by
  intro a U g mk q
  obtain ⟨q0, q1, qP, qK, qD, qN⟩ := q
  exact ⟨q0, q1, qP, va_K.moved (u := U) (U := U.calling g mk a) (Vm.Alike.refl U.vm) qK, qD, fun x hx => va_Nw.same rfl rfl (qN x hx)⟩
theorem xr_map_cat (ρ : Nat → Nat) (st : List Value) : ((st.map (xr ρ)).map fun v => v.category).sum = (st.map fun v => v.category).sum := by
  rw [List.map_map]
  congr 1
  exact List.map_congr_left fun v _ => xr_cat ρ v
theorem xfv_eq {n : Nat} {ρ ρ' : Nat → Nat} (h : ∀ j, (j < n ∨ j = xscr) → ρ' j = ρ j) {v : Value} (hv : xfv n v = true) : xr ρ' v = xr ρ v := by
  cases v with
  | ref j =>
    show Value.ref (ρ' j) = Value.ref (ρ j)
    rw [h j]
    have hv : (Nat.blt j n || Nat.beq j xscr) = true := hv
    rw [Bool.or_eq_true] at hv
    rcases hv with q | q
    · exact Or.inl (Nat.blt_eq.mp q)
    · exact Or.inr (Nat.eq_of_beq_eq_true q)
  | _ => rfl
theorem xfit_eq {n mc : Nat} {ρ ρ' : Nat → Nat} {L : List (Option Value)} {st : List Value} {w : xW} (hg : xag mc w.length ρ ρ') (hf : (Nat.beq mc 0 || xfit L st w) = true) : (∀ v ∈ st, xr ρ' v = xr ρ v) ∧ ∀ (j : Nat) (v : Value), L[j]? = some (some v) → xr ρ' v = xr ρ v := by
  rw [Bool.or_eq_true] at hf
  rcases hf with q | q
  · have hz := hg.1 (Nat.eq_of_beq_eq_true q)
    subst hz
    exact ⟨fun _ _ => rfl, fun _ _ _ => rfl⟩
  · unfold xfit at q
    simp only [Bool.and_eq_true] at q
    obtain ⟨q1, q2, -⟩ := q
    refine ⟨fun v hv => xfv_eq hg.2 (List.all_eq_true.mp q2 v hv), fun j v hj => ?_⟩
    exact xfv_eq hg.2 (List.all_eq_true.mp q1 (some v) (List.mem_of_getElem? hj))
section XCL
variable {p : Program} {l : Launch} {e : Env} {s : State} {m : MethodId} {args : Array Value} {below : List Frame} {meth : Method} {c : Code} {D : va_G} {cA : ClassId} {A : Nat → Prop} {ρ0 ρ : Nat → Nat} {n0 : Nat} {H : Heap} {locs : List Loc} {ls : Array Slot}
variable {k : Nat} {sc : Option (Nat × (Nat → Int32))} {E : xT} {i : Nat} {L : List (Option Value)} {st : List Value} {w w1 : xW} {nc ns a : Nat} {r : Option Int32}
theorem xGood {ws : List Cond} (h : ∀ x ∈ ws, x ∈ xall) : GoodIn xall ws := fun x hx => ⟨h x hx, xgood x (h x hx)⟩
theorem xws_all (ha : a < xM) : ∀ x ∈ xws a, x ∈ xall := by
  intro x hx
  rcases List.mem_cons.mp hx with h | h
  · rw [h]; exact xcode_in ha
  · exact h
/-- behind a call -/
theorem xbehind {pc : Nat} {st0 : List Value} {aa : Array Value} (V : xEnv k sc p s m args meth c D cA A ρ0) (hag : xag nc n0 ρ0 ρ) (hn0 : n0 ≤ w.length) (hP : va_P D xcl (xwd cA ρ w) H) (hD : va_D A (xwd cA ρ w)) (hS : va_S A s.heap H locs) (hL : xLoc ls (xnl k) ρ L)
    (hw : w.length ≤ w1.length) (hf : (Nat.beq (xmc a) 0 || xfit L st w) = true) (hn : xpc (xcd k) (i + 1) = pc + 3)
    (hr : va_Run p l e (xrm k) s m args below meth c H locs nc ns (xmc a) (xms a) (F0 m pc ls st0) (st.map (xr ρ)) (xQ a D cA (va_A (xwd cA ρ w) H.size) ρ w.length r w1 aa) (va_A (xwd cA ρ w) H.size))
    (kk : xOK k sc E (i + 1, L, xpr r ++ st) w1 (nc + xmc a) (ns + xms a)) : W p l e (xrm k) s m args below meth c H locs nc ns (E s args below D cA A ρ0 n0) (F0 m pc ls st0) := by
  have hA := V.2.2.2.2.2.2.2.2.2.2.1
  have hFc : ∀ q, va_A (xwd cA ρ w) H.size q → A q := by
    intro q h
    rcases h with ⟨k', e', h⟩ | h
    · exact hD.2 k' _ h
    · exact hA q (Nat.le_trans hS.1 h)
  have go : ∀ (ρ' : Nat → Nat) (t : State) (H1 : Heap) (locs1 : List Loc), t.heap = H1 → xag (xmc a) w.length ρ ρ' → (va_P D xcl (xwd cA ρ' w1) t.heap ∧ va_K D xcl [(cA, .int)] t ∧ va_D (va_A (xwd cA ρ w) H.size) (xwd cA ρ' w1)) → va_S A s.heap H1 locs1 →
      W p l e (xrm k) s m args below meth c H1 locs1 (nc + xmc a) (ns + xms a) (E s args below D cA A ρ0 n0) (F0 m (pc + 3) ls (xpr r ++ st.map (xr ρ))) := by
    intro ρ' t H1 locs1 ht hg hB hS1
    obtain ⟨hP1, -, hD1⟩ := hB
    rw [ht] at hP1
    obtain ⟨f1, f2⟩ := xfit_eq (n := 0) hg hf
    have hag' : xag (nc + xmc a) n0 ρ0 ρ' := by
      refine ⟨fun h0 => ?_, fun j hj => ?_⟩
      · rw [hg.1 (by omega)]; exact hag.1 (by omega)
      · rw [hg.2 j (by rcases hj with h | h; exact Or.inl (by omega); exact Or.inr h)]; exact hag.2 j hj
    have hL' : xLoc ls (xnl k) ρ' L := by
      obtain ⟨lv, g1, g2⟩ := hL
      exact ⟨lv, g1, fun j v hj => ⟨by rw [f2 j v hj]; exact (g2 j v hj).1, (g2 j v hj).2⟩⟩
    have K := kk p l e s m args below meth c D cA A ρ0 n0 V ρ' H1 locs1 ls hag' (Nat.le_trans hn0 hw) hP1 (hD1.weaken (fun _ q _ h => hFc q.1 h)) hS1 hL'
    have hst : (xpr r ++ st).map (xr ρ') = xpr r ++ st.map (xr ρ) := by
      rw [List.map_append, List.map_congr_left f1]
      congr 1
      cases r <;> rfl
    have K : W p l e (xrm k) s m args below meth c H1 locs1 (nc + xmc a) (ns + xms a) (E s args below D cA A ρ0 n0) (F0 m (xpc (xcd k) (i + 1)) ls ((xpr r ++ st).map (xr ρ'))) := K
    rw [hst, hn] at K
    exact K
  cases r with
  | none => exact va_callv (a := aa) hr hS (fun q _ h => hFc q h) hFc (fun ρ' t H1 locs1 ht hvm hw hB hz1 hk1 hS1 => go ρ' t H1 locs1 ht hw hB hS1)
  | some x =>
    refine va_calli (a := aa) hr hS (fun q _ h => hFc q h) hFc (fun y ρ' t H1 locs1 ht hvm hw hB hz1 hk1 hS1 => ?_)
    obtain ⟨e1, e2⟩ := hw
    subst e1
    exact go ρ' t H1 locs1 ht e2 hB hS1
theorem xPcs {q : List Value} (V : xEnv k sc p s m args meth c D cA A ρ0) (hP : va_P D xcl (xwd cA ρ w) H) (hD : va_D A (xwd cA ρ w)) : ∀ U : State, U.heap = H → s.WarmedH U.vm → va_Pc q (xPre D cA ρ H.size w) q.toArray U := by
  intro U hU hW
  exact ⟨rfl, by rw [hU], by rw [hU]; exact hP, va_K.moved hW.alike V.2.2.2.2.2.2.2.2.2.1, hD.weaken (fun _ _ _ _ => trivial), fun x hx => va_Nw.warmM hW (V.2.2.2.2.2.2.2.2.1 x hx)⟩
/-- a call of an instance method -/
theorem xOK_callv {pc idx b d q : Nat} {v : Int32} {fs av stk : List Value} (hk : k < xN) (hi : xnth (xcd k) i = some (pc, .invokevirtual idx, a, b, d, v)) (hM : xMet a (.ref q :: av) w r w1) (hq : xnth w q = some (.inr (b, fs))) (hs : stk = av.reverse ++ .ref q :: st)
    (hn : Nat.beq av.length (xnp a) = true) (hr : xroom st = true) (hc : (Nat.ble (nc + xmc a) (xmc k) && Nat.ble (ns + xms a) (xms k)) = true) (hf : (Nat.beq (xmc a) 0 || xfit L st w) = true)
    (kk : xOK k sc E (i + 1, L, xpr r ++ st) w1 (nc + xmc a) (ns + xms a)) : xOK k sc E (i, L, stk) w nc ns := by
  subst hs
  obtain ⟨h1, -, h3⟩ := xdec hk hi
  have hnx := xnx hk hi rfl
  obtain ⟨haN, hroom, hcls⟩ := xcall_ok h3
  have hd := xdesc_ok (xlt haN)
  have hn := Nat.eq_of_beq_eq_true hn
  rw [Bool.and_eq_true] at hc
  intro p l e s m args below meth c D cA A ρ0 n0 V ρ H locs ls hag hn0 hP hD hS hL
  rw [xpc_eq hi]
  obtain ⟨rc, hrc, hrn⟩ := hcls
  have hrecv := va_recv V.2.2.2.2.2.2.2.2.2.1 hP hrc (xwd_get hq)
  rw [hrn] at hrecv
  refine xbehind V hag hn0 hP hD hS hL hM.1 hf hnx (va_runV (C := (xy a).cls) (As := av.map (xr ρ)) (b := ρ q) (n := xnp a) ⟨V.2.1, V.2.2.1, V.2.2.2.1, V.2.2.2.2.2.2.1, V.2.2.2.2.2.2.2.1⟩ (hM.2 l D cA ρ H.size) (cwV (xnp a) V.2.2.2.2.2.2.2.1 (xGood ?_) rfl rfl rfl ⟨rfl, hd⟩ hroom) ⟨xblind, hrecv, xPcs V hP hD⟩ rfl (by simpa using hn) (by obtain ⟨lv, g1, -⟩ := hL; exact g1.1) (by simp [xr]) (lv_room (by rw [xr_map_cat]; exact Nat.le_of_ble_eq_true hr)) h1 ⟨Nat.le_of_ble_eq_true hc.1, Nat.le_of_ble_eq_true hc.2⟩) kk
  intro x hx
  unfold wsV at hx
  rcases List.mem_append.mp hx with h | h
  · exact xword_in hk hi x h
  · exact xws_all haN x h
/-- a call of a static method -/
theorem xOK_calls {pc idx b d : Nat} {v : Int32} {av stk : List Value} (hk : k < xN) (hi : xnth (xcd k) i = some (pc, .invokestatic idx, a, b, d, v)) (hd0 : Nat.beq d 0 = true) (hM : xMet a av w r w1) (hs : stk = av.reverse ++ st)
    (hn : Nat.beq av.length (xnp a) = true) (hr : xroom st = true) (hc : (Nat.ble (nc + xmc a) (xmc k) && Nat.ble (ns + xms a) (xms k)) = true) (hf : (Nat.beq (xmc a) 0 || xfit L st w) = true)
    (kk : xOK k sc E (i + 1, L, xpr r ++ st) w1 (nc + xmc a) (ns + xms a)) : xOK k sc E (i, L, stk) w nc ns := by
  subst hs
  have hd0 := Nat.eq_of_beq_eq_true hd0
  subst hd0
  obtain ⟨h1, -, h3⟩ := xdec hk hi
  have hnx := xnx hk hi rfl
  obtain ⟨haN, hroom⟩ := xcallS_ok h3
  have hd := xdesc_ok (xlt haN)
  have hn := Nat.eq_of_beq_eq_true hn
  rw [Bool.and_eq_true] at hc
  intro p l e s m args below meth c D cA A ρ0 n0 V ρ H locs ls hag hn0 hP hD hS hL
  rw [xpc_eq hi]
  refine xbehind V hag hn0 hP hD hS hL hM.1 hf hnx (va_runS (As := av.map (xr ρ)) (n := xnp a) ⟨V.2.1, V.2.2.1, V.2.2.2.1, V.2.2.2.2.2.2.1, V.2.2.2.2.2.2.2.1⟩ (hM.2 l D cA ρ H.size) (va_cwS (xnp a) V.2.2.2.2.2.2.2.1 (xGood ?_) rfl rfl rfl hd hroom) ⟨xblind, xPcs V hP hD⟩ rfl (by simpa using hn) (by obtain ⟨lv, g1, -⟩ := hL; exact g1.1) (by simp) (lv_room (by rw [xr_map_cat]; exact Nat.le_of_ble_eq_true hr)) h1 ⟨Nat.le_of_ble_eq_true hc.1, Nat.le_of_ble_eq_true hc.2⟩) kk
  intro x hx
  unfold va_wsS at hx
  rcases List.mem_append.mp hx with h | h
  · exact xword_in hk hi x h
  · exact xws_all haN x h
end XCL
section XRB
variable {k : Nat} {sc : Option (Nat × (Nat → Int32))} {E : xT} {i : Nat} {L : List (Option Value)} {st : List Value} {w w1 : xW} {nc ns a : Nat} {r : Option Int32}
/-- a constructor's call -/
theorem xOK_calli {pc idx b d q : Nat} {v : Int32} {av stk : List Value} (hk : k < xN) (hi : xnth (xcd k) i = some (pc, .invokespecial idx, a, b, d, v)) (hd0 : Nat.blt d 2 = true) (hM : xMet a (.ref q :: av) w none w1) (hs : stk = av.reverse ++ .ref q :: st)
    (hn : Nat.beq av.length (xnp a) = true) (hr : xroom st = true) (hc : (Nat.ble (nc + xmc a) (xmc k) && Nat.ble (ns + xms a) (xms k)) = true) (hf : (Nat.beq (xmc a) 0 || xfit L st w) = true)
    (kk : xOK k sc E (i + 1, L, st) w1 (nc + xmc a) (ns + xms a)) : xOK k sc E (i, L, stk) w nc ns := by
  subst hs
  obtain ⟨h1, -, h3⟩ := xdec hk hi
  have hnx := xnx hk hi rfl
  obtain ⟨haN, hroom, hrt, hnm, hnest⟩ := xcallI_ok (Nat.blt_eq.mp hd0) h3
  have hd := xdesc_ok (xlt haN)
  have hn := Nat.eq_of_beq_eq_true hn
  rw [Bool.and_eq_true] at hc
  have hm2 : Cond.instanceMethod (xy a) ∈ xword k (pc, .invokespecial idx, a, b, d, v) ∧ Cond.initialized (xy a).cls ∈ xword k (pc, .invokespecial idx, a, b, d, v) := by
    have hd0 := Nat.blt_eq.mp hd0
    rcases (show d = 0 ∨ d = 1 by omega) with h | h <;> subst h <;> simp [xword]
  intro p l e s m args below meth c D cA A ρ0 n0 V ρ H locs ls hag hn0 hP hD hS hL
  rw [xpc_eq hi]
  have hts := V.2.2.2.2.2.2.2.1
  have hw0 : xws a = Cond.code (xy a) (xby a) (xnl a) none :: xall := by unfold xws; rw [hrt]
  rcases hnest with hz | hz
  · have hl : Cond.methodLink (xy k).cls idx (xy a) ∈ xword k (pc, .invokespecial idx, a, b, d, v) := by subst hz; simp [xword]
    exact xbehind (r := none) V hag hn0 hP hD hS hL hM.1 hf hnx (va_runI (As := av.map (xr ρ)) (b := ρ q) (n := xnp a) ⟨V.2.1, V.2.2.1, V.2.2.2.1, V.2.2.2.2.2.2.1, hts⟩ (hM.2 l D cA ρ H.size) (cwI (xnp a) hts (xGood (xws_all haN)) hw0 rfl rfl (hts _ (xall_in _ (xword_in hk hi _ hm2.2))) (hts _ (xall_in _ (xword_in hk hi _ hl))) (hts _ (xall_in _ (xword_in hk hi _ hm2.1))) hnm hd hroom) ⟨xblind, xPcs V hP hD⟩ rfl (by simpa using hn) (by obtain ⟨lv, g1, -⟩ := hL; exact g1.1) (by simp [xr]) (lv_room (by rw [xr_map_cat]; exact Nat.le_of_ble_eq_true hr)) h1 ⟨Nat.le_of_ble_eq_true hc.1, Nat.le_of_ble_eq_true hc.2⟩) kk
  · exact xbehind (r := none) V hag hn0 hP hD hS hL hM.1 hf hnx (va_runIN (host := xhost) (As := av.map (xr ρ)) (b := ρ q) (n := xnp a) ⟨V.2.1, V.2.2.1, V.2.2.2.1, V.2.2.2.2.2.2.1, hts⟩ (hM.2 l D cA ρ H.size) ⟨va_cnB (xnp a) hts (xGood (xws_all haN)) hw0 rfl rfl (V.2.2.2.2.2.2.2.2.1 _ hz) (hts _ (xall_in _ (xword_in hk hi _ hm2.2))) hd hroom, hnm, hts _ (xall_in _ (xword_in hk hi _ hm2.1))⟩ ⟨xblind, xPcs V hP hD⟩ rfl (by simpa using hn) (by obtain ⟨lv, g1, -⟩ := hL; exact g1.1) (by simp [xr]) (lv_room (by rw [xr_map_cat]; exact Nat.le_of_ble_eq_true hr)) h1 ⟨Nat.le_of_ble_eq_true hc.1, Nat.le_of_ble_eq_true hc.2⟩) kk
/-- Object() -/
theorem xOK_obj {pc idx b q : Nat} {v : Int32} (hk : k < xN) (hi : xnth (xcd k) i = some (pc, .invokespecial idx, a, b, 2, v)) (hr : xroom st = true) (kk : xOK k sc E (i + 1, L, st) w nc ns) : xOK k sc E (i, L, .ref q :: st) w nc ns := by
  obtain ⟨h1, -, h3⟩ := xdec hk hi
  have hnx := xnx hk hi rfl
  have h3 : (Nat.ble 1 (xrm k).frames && Nat.ble 40 (xrm k).locals) = true := h3
  rw [Bool.and_eq_true] at h3
  have hr := Nat.le_of_ble_eq_true hr
  have h5 := Nat.le_of_ble_eq_true h3.2
  refine xOK_pure hi kk fun p l e s m args below meth c D cA A ρ0 ρ n0 H locs ls Q V hag hP hD hS hL K => ?_
  have hts := V.2.2.2.2.2.2.2.1
  have K := K ls hL
  rw [hnx] at K
  refine W.objInit V.2.1 V.2.2.1 V.2.2.2.2.2.2.1 (hts _ (xall_in _ (xword_in hk hi (.methodLink (xy k).cls idx objectInit) (by simp [xword])))) (hts _ (xall_in _ (xword_in hk hi (.instanceMethod objectInit) (by simp [xword])))) (hts _ (xall_in _ (xword_in hk hi (.code objectInit ⟨#[0xb1]⟩ 1 none) (by simp [xword])))) rfl ?_ (rest := st.map (xr ρ)) rfl h1 (Nat.le_of_ble_eq_true h3.1) ?_ K
  · obtain ⟨lv, g1, -⟩ := hL
    exact g1.1.trans V.2.2.2.1.symm
  · have := xr_map_cat ρ st
    show 2 * 0 + ((st.map (xr ρ)).map fun v => v.category).sum + 12 ≤ _
    omega
theorem xwd_ext {cA : ClassId} {ρ : Nat → Nat} {q : Nat} {x : xC} (hf : xfit L st w = true) : xwd cA (fun j => if j = w.length then q else ρ j) (w ++ [x]) = xwd cA ρ w ++ [(q, xcell cA (fun j => if j = w.length then q else ρ j) x)] := by
  unfold xfit at hf
  simp only [Bool.and_eq_true] at hf
  obtain ⟨-, -, hw, hs⟩ := hf
  have hs := Nat.blt_eq.mp hs
  have hag : ∀ j, (j < w.length ∨ j = xscr) → (if j = w.length then q else ρ j) = ρ j := fun j hj => if_neg (by omega)
  unfold xwd
  rw [List.mapIdx_concat]
  congr 1
  · apply List.ext_getElem?
    intro j
    rw [List.getElem?_mapIdx, List.getElem?_mapIdx]
    cases hj : w[j]? with
    | none => rfl
    | some y =>
      have hl := (List.getElem?_eq_some_iff.mp hj).1
      have hy := List.all_eq_true.mp hw y (List.mem_of_getElem? hj)
      have e1 : (if j = w.length then q else ρ j) = ρ j := if_neg (by omega)
      have e2 : xcell cA (fun j => if j = w.length then q else ρ j) y = xcell cA ρ y := by
        cases y with
        | inl z => rfl
        | inr z =>
          show Sum.inr (z.1, z.2.map _) = Sum.inr (z.1, z.2.map _)
          rw [List.map_congr_left fun u hu => xfv_eq hag (List.all_eq_true.mp hy u hu)]
      exact congrArg some (Prod.ext e1 e2)
  · simp
theorem xag_ext {n0 q : Nat} {ρ0 ρ : Nat → Nat} (hn0 : n0 ≤ w.length) (hf : xfit L st w = true) (h : xag nc n0 ρ0 ρ) : xag (nc + 1) n0 ρ0 (fun j => if j = w.length then q else ρ j) := by
  unfold xfit at hf
  simp only [Bool.and_eq_true] at hf
  have hs := Nat.blt_eq.mp hf.2.2.2
  refine ⟨fun h => by omega, fun j hj => ?_⟩
  show (if j = w.length then q else ρ j) = ρ0 j
  rw [if_neg (by omega)]
  exact h.2 j hj
theorem xnew_go {p : Program} {l : Launch} {e : Env} {s : State} {m : MethodId} {args : Array Value} {below : List Frame} {meth : Method} {c : Code} {D : va_G} {cA : ClassId} {A : Nat → Prop} {ρ0 ρ : Nat → Nat} {n0 q N pc' : Nat} {H1 : Heap} {locs : List Loc} {ls : Array Slot} {x : xC} (V : xEnv k sc p s m args meth c D cA A ρ0) (hag : xag nc n0 ρ0 ρ) (hn0 : n0 ≤ w.length) (hL : xLoc ls (xnl k) ρ L) (hf : xfit L st w = true) (hn : xpc (xcd k) (i + 1) = pc')
    (hP : va_P D xcl (xwd cA ρ w ++ [(q, xcell cA (fun j => if j = w.length then q else ρ j) x)]) H1) (hD : va_D A (xwd cA ρ w ++ [(q, xcell cA (fun j => if j = w.length then q else ρ j) x)])) (hS : va_S A s.heap H1 locs) (kk : xOK k sc E (i + 1, L, .ref w.length :: st) (w ++ [x]) (nc + 1) (ns + N)) :
    W p l e (xrm k) s m args below meth c H1 locs (nc + 1) (ns + N) (E s args below D cA A ρ0 n0) (F0 m pc' ls (.ref q :: st.map (xr ρ))) := by
  have hg : xag 1 w.length ρ (fun j => if j = w.length then q else ρ j) := by
    have := xag_ext (n0 := w.length) (q := q) (nc := 0) (ρ := ρ) (Nat.le_refl _) hf ⟨fun _ => rfl, fun _ _ => rfl⟩
    exact this
  obtain ⟨f1, f2⟩ := xfit_eq (n := 0) hg (by rw [hf]; rfl)
  rw [← xwd_ext hf] at hP hD
  have hL' : xLoc ls (xnl k) (fun j => if j = w.length then q else ρ j) L := by
    obtain ⟨lv, g1, g2⟩ := hL
    exact ⟨lv, g1, fun j v hj => ⟨by rw [f2 j v hj]; exact (g2 j v hj).1, (g2 j v hj).2⟩⟩
  have K := kk p l e s m args below meth c D cA A ρ0 n0 V _ H1 locs ls (xag_ext hn0 hf hag) (by rw [List.length_append]; omega) hP hD hS hL'
  have K : W p l e (xrm k) s m args below meth c H1 locs (nc + 1) (ns + N) (E s args below D cA A ρ0 n0) (F0 m (xpc (xcd k) (i + 1)) ls (.ref (if w.length = w.length then q else ρ w.length) :: st.map (xr (fun j => if j = w.length then q else ρ j)))) := K
  rw [List.map_congr_left f1, if_pos rfl, hn] at K
  exact K
/-- a new object -/
theorem xOK_new {pc idx b d : Nat} {v : Int32} (hk : k < xN) (hi : xnth (xcd k) i = some (pc, .new idx, a, b, d, v)) (hf : xfit L st w = true) (hc : (Nat.ble (nc + 1) (xmc k) && Nat.ble (ns + b) (xms k)) = true) (kk : xOK k sc E (i + 1, L, .ref w.length :: st) (w ++ [.inr (a, xdf a)]) (nc + 1) (ns + b)) : xOK k sc E (i, L, st) w nc ns := by
  obtain ⟨h1, -, h3⟩ := xdec hk hi
  have hnx := xnx hk hi rfl
  obtain ⟨⟨C, T, N⟩, hcl, hN⟩ := xnew_ok h3
  have hN : N = b := hN
  subst hN
  rw [Bool.and_eq_true] at hc
  have hty := xty_ok hcl
  obtain ⟨hdf, hdm⟩ := xdf_ok hcl
  intro p l e s m args below meth c D cA A ρ0 n0 V ρ H locs ls hag hn0 hP hD hS hL
  rw [xpc_eq hi]
  have hts := V.2.2.2.2.2.2.2.1
  have hwd : ∀ x ∈ ([.classLink (xy k).cls idx C, .instantiable C N, .initialized C] : List Cond), x.before args s = true := fun x hx => hts x (xall_in _ (xword_in hk hi x (by unfold xword; simp only [hcl]; exact hx)))
  refine va_new (ci := a) (fs := xdf a) (C := C) (T := T) (N := N) V.2.1 V.2.2.1 hts (xlay_in hcl) (xty a) hty V.2.2.2.2.2.2.1 (hwd _ (by simp)) (hwd _ (by simp)) (hwd _ (by simp)) V.2.2.2.2.2.2.2.2.2.1 hP hD hS V.2.2.2.2.2.2.2.2.2.2.1 hcl hdf (Nat.le_of_ble_eq_true hc.1) (Nat.le_of_ble_eq_true hc.2) h1 (fun q H1 hP1 hD1 hS1 => ?_)
  have hx : xcell cA (fun j => if j = w.length then q else ρ j) (.inr (a, xdf a)) = .inr (a, xdf a) := by
    show Sum.inr (a, (xdf a).map _) = _
    rw [hdm]
  exact xnew_go V hag hn0 hL hf hnx (by rw [hx]; exact hP1) (by rw [hx]; exact hD1) hS1 kk
/-- a new array -/
theorem xOK_newa {pc b d n : Nat} {v x : Int32} (hk : k < xN) (hi : xnth (xcd k) i = some (pc, .newarray .int, a, b, d, v)) (hf : xfit L st w = true) (hx : (!(decide (x < 0)) && Nat.beq x.toNatClampNeg n && Nat.ble n 1000) = true) (hc : (Nat.ble (nc + 1) (xmc k) && Nat.ble (ns + n) (xms k)) = true) (kk : xOK k sc E (i + 1, L, .ref w.length :: st) (w ++ [.inl (n, fun _ => 0)]) (nc + 1) (ns + n)) : xOK k sc E (i, L, .int x :: st) w nc ns := by
  obtain ⟨h1, -, -⟩ := xdec hk hi
  have hnx := xnx hk hi rfl
  simp only [Bool.and_eq_true] at hc hx
  have hx1 : ¬ x < 0 := by simpa using hx.1.1
  have hx2 := Nat.eq_of_beq_eq_true hx.1.2
  have hx3 := Nat.le_of_ble_eq_true hx.2
  intro p l e s m args below meth c D cA A ρ0 n0 V ρ H locs ls hag hn0 hP hD hS hL
  rw [xpc_eq hi]
  have hts := V.2.2.2.2.2.2.2.1
  have hK := V.2.2.2.2.2.2.2.2.2.1
  refine va_newa (atype := .int) (ty := .int) (a0 := (n, .inl (fun _ => 0))) (N' := n) V.2.1 V.2.2.1 (hts _ (xall_in _ (xword_in hk hi (.arrayClass .int) (by simp [xword])))) rfl hK hP hD hS V.2.2.2.2.2.2.2.2.2.2.1 (fun _ => rfl) hx1 hx2 (by show n * 4 ≤ _; omega) (Nat.le_of_ble_eq_true hc.1) (Nat.le_of_ble_eq_true hc.2) h1 (fun q cA' H1 hK1 hP1 hD1 hS1 => ?_)
  have e1 : s.vm.findClass ("[" ++ (FieldType.int).toString) = some cA := (hK.2 0 (cA, .int) rfl).2
  have e2 : s.vm.findClass ("[" ++ (FieldType.int).toString) = some cA' := (hK1.2 1 (cA', .int) rfl).2
  have e3 : cA = cA' := Option.some.inj (e1.symm.trans e2)
  subst e3
  exact xnew_go (x := .inl (n, fun _ => 0)) V hag hn0 hL hf hnx hP1 hD1 hS1 kk
/-- Math.max -/
theorem xOK_max {pc idx b : Nat} {v x y : Int32} (hk : k < xN) (hi : xnth (xcd k) i = some (pc, .invokestatic idx, a, b, 2, v)) (hr : xroom st = true) (hc : (Nat.ble nc (xmc k) && Nat.ble ns (xms k)) = true) (kk : xOK k sc E (i + 1, L, .int (if x < y then y else x) :: st) w nc ns) : xOK k sc E (i, L, .int y :: .int x :: st) w nc ns := by
  obtain ⟨h1, -, h3⟩ := xdec hk hi
  have hnx := xnx hk hi rfl
  have h3 : (Nat.ble 1 (xrm k).frames && Nat.ble 40 (xrm k).locals) = true := h3
  rw [Bool.and_eq_true] at h3 hc
  have hr := Nat.le_of_ble_eq_true hr
  have h5 := Nat.le_of_ble_eq_true h3.2
  refine xOK_pure hi kk fun p l e s m args below meth c D cA A ρ0 ρ n0 H locs ls Q V hag hP hD hS hL K => ?_
  have hts := V.2.2.2.2.2.2.2.1
  have K := K ls hL
  rw [hnx] at K
  have hwd : ∀ x ∈ ([.methodLink (xy k).cls idx Lib.Math.max.name, .static Lib.Math.max.name, .initialized "java/lang/Math", .code Lib.Math.max.name Lib.Math.max.code 2 (some .int)] : List Cond), x.before args s = true := fun x hx => hts x (xall_in _ (xword_in hk hi x hx))
  refine va_mmax V.2.1 V.2.2.1 ?_ V.2.2.2.2.2.2.1 (hwd _ (by simp)) (hwd _ (by simp)) (hwd _ (by simp)) (hwd _ (by simp)) (Nat.le_of_ble_eq_true h3.1) ?_ (Nat.le_of_ble_eq_true hc.1) (Nat.le_of_ble_eq_true hc.2) h1 K
  · obtain ⟨lv, g1, -⟩ := hL
    exact V.2.2.2.1.trans g1.1.symm
  · have := xr_map_cat ρ st
    omega
/-- System.arraycopy of whole beginnings -/
theorem xOK_copy {pc idx b q0 q1 n0' n1' n : Nat} {v x : Int32} {f g : Nat → Int32} (hk : k < xN) (hi : xnth (xcd k) i = some (pc, .invokestatic idx, a, b, 3, v)) (hr : xroom st = true) (hq0 : xnth w q0 = some (.inl (n0', f))) (hq1 : xnth w q1 = some (.inl (n1', g))) (hx : (!(decide (x < 0)) && Nat.beq x.toNatClampNeg n && Nat.ble n n0' && Nat.ble n n1') = true)
    (kk : xOK k sc E (i + 1, L, st) (w.set q1 (.inl (n1', va_cpy f g 0 0 n))) nc ns) : xOK k sc E (i, L, .int x :: .int 0 :: .ref q1 :: .int 0 :: .ref q0 :: st) w nc ns := by
  obtain ⟨h1, -, h3⟩ := xdec hk hi
  have hnx := xnx hk hi rfl
  have h3 : (Nat.ble 1 (xrm k).frames && Nat.ble 40 (xrm k).locals) = true := h3
  rw [Bool.and_eq_true] at h3
  have hr := Nat.le_of_ble_eq_true hr
  have h5 := Nat.le_of_ble_eq_true h3.2
  simp only [Bool.and_eq_true] at hx
  have hx1 : ¬ x < 0 := by simpa using hx.1.1.1
  have hx2 := Nat.eq_of_beq_eq_true hx.1.1.2
  have hx3 := Nat.le_of_ble_eq_true hx.1.2
  have hx4 := Nat.le_of_ble_eq_true hx.2
  subst hx2
  refine xOK_cell hi (by simp) kk fun p l e s m args below meth c D cA A ρ0 ρ n0 H locs ls Q V hag hP hD hS hL K => ?_
  have hts := V.2.2.2.2.2.2.2.1
  have hwd : ∀ x ∈ ([.methodLink (xy k).cls idx arraycopyName, .native arraycopyName, .static arraycopyName, .initialized "java/lang/System"] : List Cond), x.before args s = true := fun x hx => hts x (xall_in _ (xword_in hk hi x hx))
  refine va_copyi V.2.1 V.2.2.1 ?_ V.2.2.2.2.2.2.1 (hwd _ (by simp)) (hwd _ (by simp)) (hwd _ (by simp)) (hwd _ (by simp)) V.2.2.2.2.2.2.2.2.2.1 hP hD hS q0 q1 0 0 (xwd_get hq0) (xwd_get hq1) rfl rfl rfl (by decide) (by decide) hx1 (by show 0 + _ ≤ _; omega) (by show 0 + _ ≤ _; omega) (fun _ _ => rfl) (Nat.le_of_ble_eq_true h3.1) ?_ h1 (fun H' locs' hP' hD' hS' => ?_)
  · obtain ⟨lv, g1, -⟩ := hL
    exact V.2.2.2.1.trans g1.1.symm
  · have := xr_map_cat ρ st
    show _ + (7 + 11) ≤ _
    omega
  · have K := K H' locs' hL (by rw [xwd_set]; exact hP') (by rw [xwd_set]; exact hD') hS'
    rw [hnx] at K
    exact K
/-- a switch -/
theorem xOK_tswIn {pc b d t : Nat} {v x : Int32} {df lo hh off : Int} {offs : Array Int} (hk : k < xN) (hi : xnth (xcd k) i = some (pc, .tableswitch df lo hh offs, a, b, d, v)) (h1 : ¬ x.toInt < lo) (h2 : ¬ hh < x.toInt) (ho : offs[(x.toInt - lo).toNat]? = some off) (ht : (pc : Int) + off = (xpc (xcd k) t : Int)) (kk : xOK k sc E (t, L, st) w nc ns) : xOK k sc E (i, L, .int x :: st) w nc ns := by
  obtain ⟨hd, -, -⟩ := xdec hk hi
  refine xOK_pure hi kk fun p l e s m args below meth c D cA A ρ0 ρ n0 H locs ls Q V hag hP hD hS hL K => ?_
  exact lv_tableIn V.2.1 V.2.2.1 hd h1 h2 ho ht (K ls hL)
theorem xOK_tswOut {pc b d t : Nat} {v x : Int32} {df lo hh : Int} {offs : Array Int} (hk : k < xN) (hi : xnth (xcd k) i = some (pc, .tableswitch df lo hh offs, a, b, d, v)) (h1 : x.toInt < lo ∨ hh < x.toInt) (ht : (pc : Int) + df = (xpc (xcd k) t : Int)) (kk : xOK k sc E (t, L, st) w nc ns) : xOK k sc E (i, L, .int x :: st) w nc ns := by
  obtain ⟨hd, -, -⟩ := xdec hk hi
  refine xOK_pure hi kk fun p l e s m args below meth c D cA A ρ0 ρ n0 H locs ls Q V hag hP hD hS hL K => ?_
  exact lv_tableOut V.2.1 V.2.2.1 hd h1 ht (K ls hL)
/-- fewer known locals -/
def xfg : List Nat → List (Option Value) → List (Option Value)
  | [], L => L
  | j :: js, L => xfg js (L.set j none)
theorem xfg_sub : ∀ (js : List Nat) (L : List (Option Value)) (j : Nat) (v : Value), (xfg js L)[j]? = some (some v) → L[j]? = some (some v)
  | [], L, j, v, h => h
  | a :: js, L, j, v, h => by
    have h := xfg_sub js (L.set a none) j v h
    rw [List.getElem?_set] at h
    split at h
    · split at h
      · cases h
      · cases h
    · exact h
theorem xOK_fg (js : List Nat) (kk : xOK k sc E (i, xfg js L, st) w nc ns) : xOK k sc E (i, L, st) w nc ns := by
  intro p l e s m args below meth c D cA A ρ0 n0 V ρ H locs ls hag hn0 hP hD hS hL
  refine kk p l e s m args below meth c D cA A ρ0 n0 V ρ H locs ls hag hn0 hP hD hS ?_
  obtain ⟨lv, g1, g2⟩ := hL
  exact ⟨lv, g1, fun j v hj => g2 j v (xfg_sub js L j v hj)⟩
/-- the ends -/
theorem xOK_vret {pc b d : Nat} {v : Int32} (hk : k < xN) (hi : xnth (xcd k) i = some (pc, .return_, a, b, d, v)) (hc : (Nat.ble nc (xmc k) && Nat.ble ns (xms k)) = true) : xOK k sc (xEnd k none w) (i, L, []) w nc ns := by
  obtain ⟨h1, -, h3⟩ := xdec hk hi
  rw [Bool.and_eq_true] at hc
  intro p l e s m args below meth c D cA A ρ0 n0 V ρ H locs ls hag hn0 hP hD hS hL
  rw [xpc_eq hi]
  have hc1 := Nat.le_of_ble_eq_true hc.1
  refine W.widen hc1 (Nat.le_of_ble_eq_true hc.2) ?_
  have hag' : xag (xmc k) n0 ρ0 ρ := ⟨fun h => hag.1 (by omega), hag.2⟩
  refine W.vret (Qc := xQ k D cA A ρ0 n0 none w) V.2.1 V.2.2.1 (V.2.2.2.2.1.trans (of_decide_eq_true h3)) (fun t ht hW => ?_) hS.2.2 h1 V.2.2.2.2.2.1
  exact ⟨⟨ρ, rfl, hag', by rw [ht]; exact hP, va_K.moved hW.alike V.2.2.2.2.2.2.2.2.2.1, hD⟩, hS.F ht⟩
theorem xOK_iret {pc b d : Nat} {v x : Int32} (hk : k < xN) (hi : xnth (xcd k) i = some (pc, .ireturn, a, b, d, v)) (hb : xrb k x = true) (hc : (Nat.ble nc (xmc k) && Nat.ble ns (xms k)) = true) : xOK k sc (xEnd k (some x) w) (i, L, [.int x]) w nc ns := by
  obtain ⟨h1, -, h3⟩ := xdec hk hi
  rw [Bool.and_eq_true] at hc
  obtain ⟨ty, e1, e2⟩ := xrb_ok h3 hb
  intro p l e s m args below meth c D cA A ρ0 n0 V ρ H locs ls hag hn0 hP hD hS hL
  rw [xpc_eq hi]
  have hc1 := Nat.le_of_ble_eq_true hc.1
  refine W.widen hc1 (Nat.le_of_ble_eq_true hc.2) ?_
  have hag' : xag (xmc k) n0 ρ0 ρ := ⟨fun h => hag.1 (by omega), hag.2⟩
  refine W.zret (Qc := xQ k D cA A ρ0 n0 (some x) w) V.2.1 V.2.2.1 (V.2.2.2.2.1.trans e1) e2 (fun t ht hW => ?_) hS.2.2 h1 V.2.2.2.2.2.1
  exact ⟨⟨x, ρ, rfl, ⟨rfl, hag'⟩, by rw [ht]; exact hP, va_K.moved hW.alike V.2.2.2.2.2.2.2.2.2.1, hD⟩, hS.F ht⟩
end XRB
theorem xargs_in : ∀ (vs : List Value) (i : Nat), (∀ v ∈ vs, v.category = 1) → ∀ (j : Nat) (v : Value), vs[j]? = some v → (i + j, v) ∈ lv_args i vs
  | [], i, _, j, v, h => by simp at h
  | u :: vs, i, hc, 0, v, h => by
    simp at h
    subst h
    exact List.mem_cons_self
  | u :: vs, i, hc, j + 1, v, h => by
    have hu := hc u List.mem_cons_self
    have ih := xargs_in vs (i + 1) (fun v hv => hc v (List.mem_cons_of_mem _ hv)) j v (by simpa using h)
    show (i + (j + 1), v) ∈ (i, u) :: lv_args (if u.category = 2 then i + 2 else i + 1) vs
    rw [if_neg (by rw [hu]; decide)]
    rw [show i + (j + 1) = i + 1 + j by omega]
    exact List.mem_cons_of_mem _ ih
theorem xsl_len : ∀ (vs : List Value), (∀ v ∈ vs, v.category = 1) → (lg_sl vs).length = vs.length
  | [], _ => rfl
  | u :: vs, hc => by
    have hu := hc u List.mem_cons_self
    have ih := xsl_len vs (fun v hv => hc v (List.mem_cons_of_mem _ hv))
    unfold lg_sl at ih ⊢
    rw [List.flatMap_cons, List.length_append, ih, if_neg (by rw [hu]; decide)]
    simp; omega
theorem xent_get {k j : Nat} {av : List Value} {v : Value} (h : (xent k av)[j]? = some (some v)) : av[j]? = some v := by
  unfold xent at h
  rw [List.getElem?_append] at h
  split at h
  · rw [List.getElem?_map] at h
    cases hj : av[j]? with
    | none => rw [hj] at h; cases h
    | some u => rw [hj] at h; cases h; rfl
  · rw [List.getElem?_replicate] at h
    split at h
    · cases h
    · cases h
/-- a method's contract out of its walk -/
theorem xMet_of {k : Nat} {av : List Value} {w wE : xW} {r : Option Int32} (hk : k < xN) (hl : Nat.ble av.length (xnl k) = true) (hc : av.all (fun v => Nat.beq v.category 1) = true) (hw : Nat.ble w.length wE.length = true) (h : xOK k none (xEnd k r wE) (0, xent k av, []) w 0 0) : xMet k av w r wE := by
  refine ⟨Nat.le_of_ble_eq_true hw, fun l D cA ρ sz => ?_⟩
  have hcv : ∀ v ∈ av, v.category = 1 := fun v hv => Nat.eq_of_beq_eq_true (List.all_eq_true.mp hc v hv)
  have hcr : ∀ v ∈ av.map (xr ρ), v.category = 1 := by
    intro v hv
    obtain ⟨u, hu, rfl⟩ := List.mem_map.mp hv
    rw [xr_cat]; exact hcv u hu
  refine Met.ofW (cc := xby k) (maxL := xnl k) (ret := xrt k) (xplain hk) rfl ?_
  intro p e s m args below meth c s₁ B hml hv
  obtain ⟨rfl, hsz, hP, hK, hD0, hN⟩ := hv
  subst hsz
  have hD := hD0.self (sz := s.heap.size)
  have hlen : (lg_sl (av.map (xr ρ))).length ≤ xnl k := by
    rw [xsl_len _ hcr, List.length_map]; exact Nat.le_of_ble_eq_true hl
  have hle := lv_entry (av.map (xr ρ)) (n := xnl k) hlen
  rw [lg_entry_eq]
  generalize (lg_sl (av.map (xr ρ)) ++ List.replicate (xnl k - (lg_sl (av.map (xr ρ))).length) Slot.unset).toArray = ls at hle ⊢
  have hLoc : xLoc ls (xnl k) ρ (xent k av) := by
    refine ⟨_, hle, fun j v hj => ?_⟩
    have hj := xent_get hj
    refine ⟨?_, hcv v (List.mem_of_getElem? hj)⟩
    have := xargs_in (av.map (xr ρ)) 0 hcr j (xr ρ v) (by rw [List.getElem?_map, hj]; rfl)
    rw [Nat.zero_add] at this
    exact this
  have V : xEnv k none p s m (av.map (xr ρ)).toArray meth c D cA (va_A (xwd cA ρ w) s.heap.size) ρ :=
    ⟨hk, B.exec, B.bytes, hml, B.returns, B.notSynchronized, findClass_of_methodNamed B.named, fun w hw => atoms_spec (ws := xws k) B.pre w (List.mem_cons_of_mem _ hw), hN, hK, fun q h => Or.inr h, fun hi => (name_of_methodNamed B.named B.method).1.trans hi, fun n f h => by cases h⟩
  have K := h p l e s m _ below meth c D cA _ ρ w.length V ρ s.heap [] ls ⟨fun _ => rfl, fun _ _ => rfl⟩ (Nat.le_refl _) hP hD va_S.rf hLoc
  have K : W p l e (xrm k) s m (av.map (xr ρ)).toArray below meth c s.heap [] 0 0 _ (F0 m (xpc (xcd k) 0) ls []) := K
  rw [xpc0 hk] at K
  exact K
