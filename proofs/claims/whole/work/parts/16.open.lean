theorem xK_start {s : State} {args : Array Value} (hts : ∀ w ∈ lw_tbl, w.before args s = true) : ∃ (D : va_G) (cA : ClassId), va_K D xcl [(cA, .int)] s := by
  have hcls : ∀ ci : Nat, ∃ q : ClassId × (Nat → Nat), ∀ r : vw_C, xcl[ci]? = some r → u_Kn s r.1 r.2.1 r.2.2 q.1 q.2 := by
    intro ci
    cases h : xcl[ci]? with
    | none => exact ⟨(0, fun _ => 0), fun r hr => by cases hr⟩
    | some r =>
      have hin := xcl_chk r (List.mem_of_getElem? h)
      obtain ⟨cC, iS, hk⟩ := u_known (C := r.1) (T := r.2.1) (N := r.2.2) hts (fun w hw => xall_tbl w (xlay_in h w hw)) (hts _ hin)
      exact ⟨(cC, iS), fun r' hr => by cases hr; exact hk⟩
  obtain ⟨cA, kA, comp, h1, h2, h3⟩ := Cond.arrayClass_spec (hts _ xar_chk)
  refine ⟨(fun ci => (Classical.choose (hcls ci)).1, fun ci => (Classical.choose (hcls ci)).2), cA, fun ci r hr => Classical.choose_spec (hcls ci) r hr, fun j q hj => ?_⟩
  have hz : j < 1 := (List.getElem?_eq_some_iff.mp hj).1
  rw [show j = 0 by omega] at hj
  cases hj
  exact ⟨fun n z => ⟨fun k h => (by cases h), kA, h2, comp, h3⟩, h1⟩
/-- whole_start out of the pure statement -/
theorem whole_open (hmain : ∀ (n0 : Nat) (f0 : Nat → Int32), n0 ≤ 1536 → f_L_law_18 n0 f0 1000 0 xs0 xt0 = some 1) {p : Program} {e : Env} {s : State} {m : MethodId} {below : List Frame} {meth : Method} {c : Code} (l : Launch) {b L : Nat} {xs : Nat → Int32} (hL : L ≤ 1536) (C0 : lw_At p s m meth c b L xs) : W p l e room_1 s m #[Value.ref b] below meth c s.heap [] 0 0 (lw_Z below #[Value.ref b] s) (entryFrame m ([Value.ref b] : List Value).toArray 4) := by
  obtain ⟨hx, hb, hr, hml, hown, hts, hX, hbl, hlk, -⟩ := C0
  obtain ⟨D, cA, hK⟩ := xK_start hts
  have hle := lv_entry ([Value.ref b]) (n := 4) (Nat.le_of_ble_eq_true rfl)
  rw [lg_entry_eq]
  generalize (lg_sl ([Value.ref b]) ++ List.replicate (4 - (lg_sl ([Value.ref b])).length) Slot.unset).toArray = ls at hle ⊢
  have V : xEnv 148 (some (L, xs)) p s m #[Value.ref b] meth c D cA (fun z => s.heap.size ≤ z) (fun _ => b) := by
    refine ⟨hk_148, hx, hb, hml, hr, hlk, hown, fun w hw => hts w (xall_tbl w hw), fun x hx => ?_, hK, fun q h => h, fun h => absurd h (by decide), fun n f h => ?_⟩
    · exact va_Nw.of rfl (hts _ (xnw_chk x hx))
    · cases h
      exact ⟨hX, hbl, by show ¬ s.heap.size ≤ b; omega⟩
  have K := k_L_start L xs 1 (t_L_law_18 L xs 1 1000 0 xs0 xt0 (hmain L xs hL)) p l e s m #[Value.ref b] below meth c D cA (fun z => s.heap.size ≤ z) (fun _ => b) 0 V (fun _ => b) s.heap [] ls ⟨fun _ => rfl, fun _ _ => rfl⟩ (Nat.le_refl _)
    (fun k q h => by simp [xwd] at h) ⟨fun i j p q h => by simp [xwd] at h, fun k q h => by simp [xwd] at h⟩ va_S.rf ⟨_, hle, fun j v hj => ?_⟩
  · intro T hT X
    obtain ⟨t, a1, b1⟩ := K T hT X
    exact ⟨t, a1, b1 ⟨rfl, ⟨b, rfl⟩, rfl⟩⟩
  · have hj : ([some (.ref 1000000), none, none, none] : List (Option Value))[j]? = some (some v) := hj
    match j, hj with
    | 0, hj =>
      cases hj
      exact ⟨List.mem_cons_self, rfl⟩
    | 1, hj => cases hj
    | 2, hj => cases hj
    | 3, hj => cases hj
    | j + 4, hj => cases hj
