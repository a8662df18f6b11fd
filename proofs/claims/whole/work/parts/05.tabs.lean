theorem xty_all : (List.range xcl.length).all (fun ci => match xcl[ci]? with
    | some r => (List.range r.2.2).all (fun k => decide (parseFieldDescriptor (r.2.1 k).2.2.1 = some (xty ci k)) && ((List.range r.2.2).all (fun j => decide (k = j) || !decide ((r.2.1 k).2.1 = (r.2.1 j).2.1)) && decide (vp_V (xdf ci) k = defaultValue (xty ci k)))) && (xdf ci).all (fun v => match v with
      | .ref _ => false
      | _ => true)
    | none => false) = true := by decide +kernel
theorem xty_at {ci : Nat} {r : vw_C} (h : xcl[ci]? = some r) : (List.range r.2.2).all (fun k => decide (parseFieldDescriptor (r.2.1 k).2.2.1 = some (xty ci k)) && ((List.range r.2.2).all (fun j => decide (k = j) || !decide ((r.2.1 k).2.1 = (r.2.1 j).2.1)) && decide (vp_V (xdf ci) k = defaultValue (xty ci k)))) = true ∧ (xdf ci).all (fun v => match v with
      | .ref _ => false
      | _ => true) = true := by
  have hl := (List.getElem?_eq_some_iff.mp h).1
  have h1 := List.all_eq_true.mp xty_all ci (List.mem_range.mpr hl)
  simp only [h, Bool.and_eq_true] at h1
  exact h1
theorem xty_ok {ci : Nat} {C : String} {T : u_T} {N : Nat} (h : xcl[ci]? = some (C, T, N)) : ∀ k, k < N → parseFieldDescriptor (T k).2.2.1 = some (xty ci k) := by
  intro k hk
  have h1 := List.all_eq_true.mp (xty_at h).1 k (List.mem_range.mpr hk)
  simp only [Bool.and_eq_true, decide_eq_true_eq] at h1
  exact h1.1
theorem xnm_ok {ci : Nat} {C : String} {T : u_T} {N : Nat} (h : xcl[ci]? = some (C, T, N)) : ∀ a, a < N → ∀ b, b < N → a ≠ b → (T a).2.1 ≠ (T b).2.1 := by
  intro a ha b hb hab
  have h1 := List.all_eq_true.mp (xty_at h).1 a (List.mem_range.mpr ha)
  simp only [Bool.and_eq_true] at h1
  have h2 := List.all_eq_true.mp h1.2.1 b (List.mem_range.mpr hb)
  simp only [Bool.or_eq_true, decide_eq_true_eq, Bool.not_eq_true', decide_eq_false_iff_not] at h2
  rcases h2 with q | q
  · exact absurd q hab
  · exact q
theorem xdf_ok {ci : Nat} {C : String} {T : u_T} {N : Nat} (h : xcl[ci]? = some (C, T, N)) : (∀ j, j < N → defaultValue (xty ci j) = vp_V (xdf ci) j) ∧ ∀ ρ : Nat → Nat, (xdf ci).map (xr ρ) = xdf ci := by
  refine ⟨fun j hj => ?_, fun ρ => ?_⟩
  · have h1 := List.all_eq_true.mp (xty_at h).1 j (List.mem_range.mpr hj)
    simp only [Bool.and_eq_true, decide_eq_true_eq] at h1
    exact h1.2.2.symm
  · have h2 := (xty_at h).2
    have : ∀ v ∈ xdf ci, xr ρ v = v := by
      intro v hv
      have h3 := List.all_eq_true.mp h2 v hv
      cases v with
      | ref j => cases h3
      | _ => rfl
    rw [List.map_congr_left this]
    simp
theorem xdesc_all : (List.range xN).all (fun k => !decide ((xy k).cls = "java/lang/invoke/MethodHandle") && (!decide ((xy k).cls = "java/lang/invoke/VarHandle") && (decide ((parseMethodDescriptor (xy k).desc).map (fun d => d.parameters.length) = some (xnp k)) && (plainName (xy k).cls && decide (xpc (xcd k) 0 = 0))))) = true := by decide +kernel
theorem xdesc_at {k : Nat} (hk : k < xN) : ¬ (xy k).cls = "java/lang/invoke/MethodHandle" ∧ ¬ (xy k).cls = "java/lang/invoke/VarHandle" ∧ (parseMethodDescriptor (xy k).desc).map (fun d => d.parameters.length) = some (xnp k) ∧ plainName (xy k).cls = true ∧ xpc (xcd k) 0 = 0 := by
  have h := List.all_eq_true.mp xdesc_all k (List.mem_range.mpr hk)
  simp only [Bool.and_eq_true, decide_eq_true_eq, Bool.not_eq_true', decide_eq_false_iff_not] at h
  exact h
theorem xdesc_ok {k : Nat} (hk : k < xN) : (xy k).cls ≠ "java/lang/invoke/MethodHandle" ∧ (xy k).cls ≠ "java/lang/invoke/VarHandle" ∧ (parseMethodDescriptor (xy k).desc).map (fun d => d.parameters.length) = some (xnp k) := ⟨(xdesc_at hk).1, (xdesc_at hk).2.1, (xdesc_at hk).2.2.1⟩
theorem xplain {k : Nat} (hk : k < xN) : plainName (xy k).cls = true := (xdesc_at hk).2.2.2.1
theorem xpc0 {k : Nat} (hk : k < xN) : xpc (xcd k) 0 = 0 := (xdesc_at hk).2.2.2.2
theorem xgood_all : xall.all (fun w => (w.onTables && w.keeps) || (match w with
    | .arrayClass _ => true
    | _ => false)) = true := by decide +kernel
theorem xgood : ∀ w ∈ xall, (w.onTables && w.keeps) = true ∨ ∃ ty, w = .arrayClass ty := by
  intro w hw
  have h := List.all_eq_true.mp xgood_all w hw
  rw [Bool.or_eq_true] at h
  rcases h with q | q
  · exact Or.inl q
  · cases w <;> first | exact Or.inr ⟨_, rfl⟩ | cases q
