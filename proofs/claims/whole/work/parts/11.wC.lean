set_option maxRecDepth 100000 in
set_option maxHeartbeats 4000000 in
theorem t_C_load_14 (t : xS) (q : (Int32 × xS)) (s : xS) (h : f_C_load_14  s = some q) : xOK 1 none (xEnd 1 (some q.1) (mk q.2 t)) (6, [none, none, none], []) (mk s t) 0 0 := by
  unfold f_C_load_14 at h
  refine xOK_steps (fr' := (7, [none, none, none], [.int (0 : Int32)])) (w' := (mk s t)) (ob := true) e_1 hk_1 1 rfl rfl ?_
  cases h
  exact xu_iret e_1 hk_1 rfl rfl rfl
set_option maxRecDepth 100000 in
set_option maxHeartbeats 4000000 in
theorem m_C_load (x1 x2 : Int32) (s t : xS) (q : (Int32 × xS)) (h : f_C_load x1 x2 s = some q) : xMet 1 [.ref 0, .int x1, .int x2] (mk s t) (some q.1) (mk q.2 t) := by
  refine xMet_of hk_1 rfl rfl rfl ?_
  refine xOK_eq (fr := (0, [some (.ref 0), some (.int x1), some (.int x2)], [])) rfl ?_
  unfold f_C_load at h
  refine xOK_steps (fr' := (2, [some (.ref 0), some (.int x1), some (.int x2)], [.int (s.1 0)])) (w' := (mk s t)) (ob := true) e_1 hk_1 2 rfl rfl ?_
  refine xu_if_ne e_1 hk_1 rfl (fun c1 => ?_) (fun c1 => ?_)
  · have h := xif_neg c1 h
    refine xOK_fg [0, 1, 2] ?_
    exact t_C_load_14 t q  _ h
  · have h := xif_pos c1 h
    refine xOK_steps (fr' := (4, [some (.ref 0), some (.int x1), some (.int x2)], [.int x1])) (w' := (mk s t)) (ob := true) e_1 hk_1 1 rfl rfl ?_
    obtain ⟨q2, e3, h⟩ := Option.bind_eq_some_iff.mp h
    refine xu_calls (r := (some q2)) (av := [.int x1]) (st := []) (w1 := (mk s t)) e_1 hk_1 rfl rfl (m_C_isFramWord _ _ _ _ e3) rfl rfl rfl rfl ?_
    refine xu_if_ne e_1 hk_1 rfl (fun c4 => ?_) (fun c4 => ?_)
    · have h := xif_neg c4 h
      by_cases o5 : xin x1 128 = true
      case neg => have h := xif_neg o5 h; cases h
      have h := xif_pos o5 h
      refine xOK_steps (fr' := (17, [some (.ref 0), some (.int x1), some (.int x2)], [.int (1 : Int32)])) (w' := (mk (xsa s 1 (x1).toNatClampNeg (x2 &&& (65535 : Int32))) t)) (ob := xin x1 128 && (true)) e_1 hk_1 9 rfl (xand o5 rfl) ?_
      cases h
      exact xu_iret e_1 hk_1 rfl rfl rfl
    · have h := xif_pos c4 h
      refine xOK_fg [0, 1, 2] ?_
      exact t_C_load_14 t q  _ h
set_option maxRecDepth 100000 in
set_option maxHeartbeats 4000000 in
theorem m_Keeper_keepVolatile (s t : xS) (q : xS) (h : f_Keeper_keepVolatile  s = some q) : xMet 89 [.ref 19] (mk s t) none (mk q t) := by
  refine xMet_of hk_89 rfl rfl rfl ?_
  refine xOK_eq (fr := (0, [some (.ref 19)], [])) rfl ?_
  unfold f_Keeper_keepVolatile at h
  refine xOK_steps (fr' := (8, [some (.ref 19)], [.int (16 : Int32), .int (0 : Int32), .ref 21, .int (0 : Int32), .ref 18])) (w' := (mk s t)) (ob := true) e_89 hk_89 8 rfl rfl ?_
  refine xu_copy (n := 16) (q0 := 18) (q1 := 21) (w1 := (mk (xsf s 11 (va_cpy (s.2 10) (s.2 11) 0 0 16)) t)) e_89 hk_89 rfl rfl rfl rfl rfl rfl ?_
  refine xOK_steps (fr' := (17, [some (.ref 19)], [.int (16 : Int32), .int (0 : Int32), .ref 22, .int (0 : Int32), .ref 16])) (w' := (mk (xsf s 11 (va_cpy (s.2 10) (s.2 11) 0 0 16)) t)) (ob := true) e_89 hk_89 8 rfl rfl ?_
  refine xu_copy (n := 16) (q0 := 16) (q1 := 22) (w1 := (mk (xsf (xsf s 11 (va_cpy (s.2 10) (s.2 11) 0 0 16)) 12 (va_cpy (s.2 9) (s.2 12) 0 0 16)) t)) e_89 hk_89 rfl rfl rfl rfl rfl rfl ?_
  cases h
  exact xu_vret e_89 hk_89 rfl rfl
set_option maxRecDepth 100000 in
set_option maxHeartbeats 4000000 in
theorem m_C_start (x1 : Int32) (s t : xS) (q : (Int32 × xS)) (h : f_C_start x1 s = some q) : xMet 2 [.ref 0, .int x1] (mk s t) (some q.1) (mk q.2 t) := by
  refine xMet_of hk_2 rfl rfl rfl ?_
  refine xOK_eq (fr := (0, [some (.ref 0), some (.int x1)], [])) rfl ?_
  unfold f_C_start at h
  refine xOK_steps (fr' := (2, [some (.ref 0), some (.int x1)], [.int (s.1 0)])) (w' := (mk s t)) (ob := true) e_2 hk_2 2 rfl rfl ?_
  refine xu_if_eq e_2 hk_2 rfl (fun c1 => ?_) (fun c1 => ?_)
  · have h := xif_pos c1 h
    refine xOK_steps (fr' := (15, [some (.ref 0), some (.int x1)], [.ref 19])) (w' := (mk (xsa s 10 0 (x1 &&& (65534 : Int32))) t)) (ob := true) e_2 hk_2 10 rfl rfl ?_
    obtain ⟨q2, e3, h⟩ := Option.bind_eq_some_iff.mp h
    refine xu_callv (q := 19) (r := none) (av := []) (st := []) (w1 := (mk q2 t)) e_2 hk_2 rfl (m_Keeper_keepVolatile  _ _ _ e3) rfl rfl rfl rfl rfl ?_
    refine xOK_steps (fr' := (24, [some (.ref 0), some (.int x1)], [.int (1 : Int32)])) (w' := (mk (xsc (xsc q2 1 (1 : Int32)) 0 (1 : Int32)) t)) (ob := true) e_2 hk_2 8 rfl rfl ?_
    cases h
    exact xu_iret e_2 hk_2 rfl rfl rfl
  · have h := xif_neg c1 h
    refine xOK_steps (fr' := (4, [some (.ref 0), some (.int x1)], [.int (0 : Int32)])) (w' := (mk s t)) (ob := true) e_2 hk_2 1 rfl rfl ?_
    cases h
    exact xu_iret e_2 hk_2 rfl rfl rfl
set_option maxRecDepth 100000 in
set_option maxHeartbeats 4000000 in
theorem m_Samples_append (x1 : Int32) (s t : xS) (q : (Int32 × xS)) (h : f_Samples_append x1 s = some q) : xMet 32 [.ref 7, .int x1] (mk s t) (some q.1) (mk q.2 t) := by
  refine xMet_of hk_32 rfl rfl rfl ?_
  refine xOK_eq (fr := (0, [some (.ref 7), some (.int x1)], [])) rfl ?_
  unfold f_Samples_append at h
  refine xOK_steps (fr' := (3, [some (.ref 7), some (.int x1)], [.int (16 : Int32), .int (s.1 6)])) (w' := (mk s t)) (ob := true) e_32 hk_32 3 rfl rfl ?_
  refine xu_icmp_lt e_32 hk_32 rfl (fun c1 => ?_) (fun c1 => ?_)
  · have h := xif_pos c1 h
    by_cases o2 : xin (xrem ((s.1 5) + (s.1 6)) (16 : Int32)) 16 = true
    case neg => have h := xif_neg o2 h; cases h
    have h := xif_pos o2 h
    refine xOK_steps (fr' := (24, [some (.ref 7), some (.int x1)], [.int (1 : Int32)])) (w' := (mk (xsc (xsa s 4 (xrem ((s.1 5) + (s.1 6)) (16 : Int32)).toNatClampNeg x1) 6 ((s.1 6) + (1 : Int32))) t)) (ob := xin (xrem ((s.1 5) + (s.1 6)) (16 : Int32)) 16 && (true)) e_32 hk_32 18 rfl (xand o2 rfl) ?_
    cases h
    exact xu_iret e_32 hk_32 rfl rfl rfl
  · have h := xif_neg c1 h
    refine xOK_steps (fr' := (5, [some (.ref 7), some (.int x1)], [.int (0 : Int32)])) (w' := (mk s t)) (ob := true) e_32 hk_32 1 rfl rfl ?_
    cases h
    exact xu_iret e_32 hk_32 rfl rfl rfl
set_option maxRecDepth 100000 in
set_option maxHeartbeats 4000000 in
theorem m_C_sample (x1 : Int32) (s t : xS) (q : (Int32 × xS)) (h : f_C_sample x1 s = some q) : xMet 3 [.ref 0, .int x1] (mk s t) (some q.1) (mk q.2 t) := by
  refine xMet_of hk_3 rfl rfl rfl ?_
  refine xOK_eq (fr := (0, [some (.ref 0), some (.int x1)], [])) rfl ?_
  unfold f_C_sample at h
  refine xOK_steps (fr' := (5, [some (.ref 0), some (.int x1)], [.int (x1 &&& (65535 : Int32)), .ref 7])) (w' := (mk s t)) (ob := true) e_3 hk_3 5 rfl rfl ?_
  obtain ⟨q1, e2, h⟩ := Option.bind_eq_some_iff.mp h
  refine xu_callv (q := 7) (r := (some q1.1)) (av := [.int (x1 &&& (65535 : Int32))]) (st := []) (w1 := (mk q1.2 t)) e_3 hk_3 rfl (m_Samples_append _ _ _ _ e2) rfl rfl rfl rfl rfl ?_
  by_cases o3 : xbl q1.1 = true
  case neg => have h := xif_neg o3 h; cases h
  have h := xif_pos o3 h
  cases h
  exact xu_iret e_3 hk_3 rfl o3 rfl
set_option maxRecDepth 100000 in
set_option maxHeartbeats 4000000 in
theorem t_Power_tell_11 (t : xS) (q : (Int32 × xS)) (s : xS) (h : f_Power_tell_11  s = some q) : xOK 23 none (xEnd 23 (some q.1) (mk q.2 t)) (5, [none, none, none], []) (mk s t) 0 0 := by
  unfold f_Power_tell_11 at h
  refine xOK_steps (fr' := (6, [none, none, none], [.int (0 : Int32)])) (w' := (mk s t)) (ob := true) e_23 hk_23 1 rfl rfl ?_
  cases h
  exact xu_iret e_23 hk_23 rfl rfl rfl
set_option maxRecDepth 100000 in
set_option maxHeartbeats 4000000 in
theorem m_Power_tell (x1 x2 : Int32) (s t : xS) (q : (Int32 × xS)) (h : f_Power_tell x1 x2 s = some q) : xMet 23 [.ref 1, .int x1, .int x2] (mk s t) (some q.1) (mk q.2 t) := by
  refine xMet_of hk_23 rfl rfl rfl ?_
  refine xOK_eq (fr := (0, [some (.ref 1), some (.int x1), some (.int x2)], [])) rfl ?_
  unfold f_Power_tell at h
  refine xOK_steps (fr' := (1, [some (.ref 1), some (.int x1), some (.int x2)], [.int x2])) (w' := (mk s t)) (ob := true) e_23 hk_23 1 rfl rfl ?_
  refine xu_if_lt e_23 hk_23 rfl (fun c1 => ?_) (fun c1 => ?_)
  · have h := xif_pos c1 h
    refine xOK_fg [0, 1, 2] ?_
    exact t_Power_tell_11 t q  _ h
  · have h := xif_neg c1 h
    refine xOK_steps (fr' := (4, [some (.ref 1), some (.int x1), some (.int x2)], [.int (1000 : Int32), .int x2])) (w' := (mk s t)) (ob := true) e_23 hk_23 2 rfl rfl ?_
    refine xu_icmp_le e_23 hk_23 rfl (fun c2 => ?_) (fun c2 => ?_)
    · have h := xif_pos c2 h
      by_cases o3 : xin x1 2 = true
      case neg => have h := xif_neg o3 h; cases h
      have h := xif_pos o3 h
      refine xOK_steps (fr' := (13, [some (.ref 1), some (.int x1), some (.int x2)], [.int (1 : Int32)])) (w' := (mk (xsa s 0 (x1).toNatClampNeg x2) t)) (ob := xin x1 2 && (true)) e_23 hk_23 6 rfl (xand o3 rfl) ?_
      cases h
      exact xu_iret e_23 hk_23 rfl rfl rfl
    · have h := xif_neg c2 h
      refine xOK_fg [0, 1, 2] ?_
      exact t_Power_tell_11 t q  _ h
set_option maxRecDepth 100000 in
set_option maxHeartbeats 4000000 in
theorem m_C_failWrite (x1 : Int32) (s t : xS) (q : (Int32 × xS)) (h : f_C_failWrite x1 s = some q) : xMet 4 [.ref 0, .int x1] (mk s t) (some q.1) (mk q.2 t) := by
  refine xMet_of hk_4 rfl rfl rfl ?_
  refine xOK_eq (fr := (0, [some (.ref 0), some (.int x1)], [])) rfl ?_
  unfold f_C_failWrite at h
  refine xOK_steps (fr' := (4, [some (.ref 0), some (.int x1)], [.int x1, .int (0 : Int32), .ref 1])) (w' := (mk s t)) (ob := true) e_4 hk_4 4 rfl rfl ?_
  obtain ⟨q1, e2, h⟩ := Option.bind_eq_some_iff.mp h
  refine xu_callv (q := 1) (r := (some q1.1)) (av := [.int (0 : Int32), .int x1]) (st := []) (w1 := (mk q1.2 t)) e_4 hk_4 rfl (m_Power_tell _ _ _ _ _ e2) rfl rfl rfl rfl rfl ?_
  by_cases o3 : xbl q1.1 = true
  case neg => have h := xif_neg o3 h; cases h
  have h := xif_pos o3 h
  cases h
  exact xu_iret e_4 hk_4 rfl o3 rfl
set_option maxRecDepth 100000 in
set_option maxHeartbeats 4000000 in
theorem m_C_failStep (x1 : Int32) (s t : xS) (q : (Int32 × xS)) (h : f_C_failStep x1 s = some q) : xMet 5 [.ref 0, .int x1] (mk s t) (some q.1) (mk q.2 t) := by
  refine xMet_of hk_5 rfl rfl rfl ?_
  refine xOK_eq (fr := (0, [some (.ref 0), some (.int x1)], [])) rfl ?_
  unfold f_C_failStep at h
  refine xOK_steps (fr' := (4, [some (.ref 0), some (.int x1)], [.int x1, .int (1 : Int32), .ref 1])) (w' := (mk s t)) (ob := true) e_5 hk_5 4 rfl rfl ?_
  obtain ⟨q1, e2, h⟩ := Option.bind_eq_some_iff.mp h
  refine xu_callv (q := 1) (r := (some q1.1)) (av := [.int (1 : Int32), .int x1]) (st := []) (w1 := (mk q1.2 t)) e_5 hk_5 rfl (m_Power_tell _ _ _ _ _ e2) rfl rfl rfl rfl rfl ?_
  by_cases o3 : xbl q1.1 = true
  case neg => have h := xif_neg o3 h; cases h
  have h := xif_pos o3 h
  cases h
  exact xu_iret e_5 hk_5 rfl o3 rfl
set_option maxRecDepth 100000 in
set_option maxHeartbeats 4000000 in
theorem t_J_fill_5 (t : xS) (q : xS) : ∀ (n : Nat), ∀ (x1 x2 x3 : Int32) (s : xS), f_J_fill_5 n x1 x2 x3 s = some q → xOK 147 none (xEnd 147 none (mk q t)) (5, [some (.ref 18), some (.int x1), some (.int x2), some (.int x3)], []) (mk s t) 0 0 := by
  intro n
  induction n with
  | zero => intro x1 x2 x3 s h; cases h
  | succ n ih =>
    intro x1 x2 x3 s h
    unfold f_J_fill_5 at h
    refine xOK_steps (fr' := (7, [some (.ref 18), some (.int x1), some (.int x2), some (.int x3)], [.int x3, .int x2])) (w' := (mk s t)) (ob := true) e_147 hk_147 2 rfl rfl ?_
    refine xu_icmp_ge e_147 hk_147 rfl (fun c1 => ?_) (fun c1 => ?_)
    · have h := xif_pos c1 h
      cases h
      exact xu_vret e_147 hk_147 rfl rfl
    · have h := xif_neg c1 h
      by_cases o2 : xin x2 16 = true
      case neg => have h := xif_neg o2 h; cases h
      have h := xif_pos o2 h
      refine xOK_steps (fr' := (5, [some (.ref 18), some (.int x1), some (.int (x2 + (1 : Int32))), some (.int x3)], [])) (w' := (mk (xsa s 10 (x2).toNatClampNeg x1) t)) (ob := xin x2 16 && (true)) e_147 hk_147 6 rfl (xand o2 rfl) ?_
      exact ih _ _ _ _ h
set_option maxRecDepth 100000 in
set_option maxHeartbeats 4000000 in
theorem m_J_fill (x1 : Int32) (s t : xS) (q : xS) (h : f_J_fill x1 s = some q) : xMet 147 [.ref 18, .int x1] (mk s t) none (mk q t) := by
  refine xMet_of hk_147 rfl rfl rfl ?_
  refine xOK_eq (fr := (0, [some (.ref 18), some (.int x1), none, none], [])) rfl ?_
  unfold f_J_fill at h
  refine xOK_steps (fr' := (5, [some (.ref 18), some (.int x1), some (.int (0 : Int32)), some (.int (16 : Int32))], [])) (w' := (mk s t)) (ob := true) e_147 hk_147 5 rfl rfl ?_
  exact t_J_fill_5 t q _ _ _ _ _ h
set_option maxRecDepth 100000 in
set_option maxHeartbeats 4000000 in
theorem t_J_fill_1_5 (t : xS) (q : xS) : ∀ (n : Nat), ∀ (x1 x2 x3 : Int32) (s : xS), f_J_fill_1_5 n x1 x2 x3 s = some q → xOK 147 none (xEnd 147 none (mk q t)) (5, [some (.ref 16), some (.int x1), some (.int x2), some (.int x3)], []) (mk s t) 0 0 := by
  intro n
  induction n with
  | zero => intro x1 x2 x3 s h; cases h
  | succ n ih =>
    intro x1 x2 x3 s h
    unfold f_J_fill_1_5 at h
    refine xOK_steps (fr' := (7, [some (.ref 16), some (.int x1), some (.int x2), some (.int x3)], [.int x3, .int x2])) (w' := (mk s t)) (ob := true) e_147 hk_147 2 rfl rfl ?_
    refine xu_icmp_ge e_147 hk_147 rfl (fun c1 => ?_) (fun c1 => ?_)
    · have h := xif_pos c1 h
      cases h
      exact xu_vret e_147 hk_147 rfl rfl
    · have h := xif_neg c1 h
      by_cases o2 : xin x2 16 = true
      case neg => have h := xif_neg o2 h; cases h
      have h := xif_pos o2 h
      refine xOK_steps (fr' := (5, [some (.ref 16), some (.int x1), some (.int (x2 + (1 : Int32))), some (.int x3)], [])) (w' := (mk (xsa s 9 (x2).toNatClampNeg x1) t)) (ob := xin x2 16 && (true)) e_147 hk_147 6 rfl (xand o2 rfl) ?_
      exact ih _ _ _ _ h
set_option maxRecDepth 100000 in
set_option maxHeartbeats 4000000 in
theorem m_J_fill_1 (x1 : Int32) (s t : xS) (q : xS) (h : f_J_fill_1 x1 s = some q) : xMet 147 [.ref 16, .int x1] (mk s t) none (mk q t) := by
  refine xMet_of hk_147 rfl rfl rfl ?_
  refine xOK_eq (fr := (0, [some (.ref 16), some (.int x1), none, none], [])) rfl ?_
  unfold f_J_fill_1 at h
  refine xOK_steps (fr' := (5, [some (.ref 16), some (.int x1), some (.int (0 : Int32)), some (.int (16 : Int32))], [])) (w' := (mk s t)) (ob := true) e_147 hk_147 5 rfl rfl ?_
  exact t_J_fill_1_5 t q _ _ _ _ _ h
set_option maxRecDepth 100000 in
set_option maxHeartbeats 4000000 in
theorem t_J_fill_2_5 (t : xS) (q : xS) : ∀ (n : Nat), ∀ (x1 x2 x3 : Int32) (s : xS), f_J_fill_2_5 n x1 x2 x3 s = some q → xOK 147 none (xEnd 147 none (mk q t)) (5, [some (.ref 10), some (.int x1), some (.int x2), some (.int x3)], []) (mk s t) 0 0 := by
  intro n
  induction n with
  | zero => intro x1 x2 x3 s h; cases h
  | succ n ih =>
    intro x1 x2 x3 s h
    unfold f_J_fill_2_5 at h
    refine xOK_steps (fr' := (7, [some (.ref 10), some (.int x1), some (.int x2), some (.int x3)], [.int x3, .int x2])) (w' := (mk s t)) (ob := true) e_147 hk_147 2 rfl rfl ?_
    refine xu_icmp_ge e_147 hk_147 rfl (fun c1 => ?_) (fun c1 => ?_)
    · have h := xif_pos c1 h
      cases h
      exact xu_vret e_147 hk_147 rfl rfl
    · have h := xif_neg c1 h
      by_cases o2 : xin x2 128 = true
      case neg => have h := xif_neg o2 h; cases h
      have h := xif_pos o2 h
      refine xOK_steps (fr' := (5, [some (.ref 10), some (.int x1), some (.int (x2 + (1 : Int32))), some (.int x3)], [])) (w' := (mk (xsa s 5 (x2).toNatClampNeg x1) t)) (ob := xin x2 128 && (true)) e_147 hk_147 6 rfl (xand o2 rfl) ?_
      exact ih _ _ _ _ h
set_option maxRecDepth 100000 in
set_option maxHeartbeats 4000000 in
theorem m_J_fill_2 (x1 : Int32) (s t : xS) (q : xS) (h : f_J_fill_2 x1 s = some q) : xMet 147 [.ref 10, .int x1] (mk s t) none (mk q t) := by
  refine xMet_of hk_147 rfl rfl rfl ?_
  refine xOK_eq (fr := (0, [some (.ref 10), some (.int x1), none, none], [])) rfl ?_
  unfold f_J_fill_2 at h
  refine xOK_steps (fr' := (5, [some (.ref 10), some (.int x1), some (.int (0 : Int32)), some (.int (128 : Int32))], [])) (w' := (mk s t)) (ob := true) e_147 hk_147 5 rfl rfl ?_
  exact t_J_fill_2_5 t q _ _ _ _ _ h
set_option maxRecDepth 100000 in
set_option maxHeartbeats 4000000 in
theorem m_Held_clear (s t : xS) (q : xS) (h : f_Held_clear  s = some q) : xMet 35 [.ref 11] (mk s t) none (mk q t) := by
  refine xMet_of hk_35 rfl rfl rfl ?_
  refine xOK_eq (fr := (0, [some (.ref 11)], [])) rfl ?_
  unfold f_Held_clear at h
  refine xOK_steps (fr' := (6, [some (.ref 11)], [])) (w' := (mk (xsc (xsc s 10 (0 : Int32)) 11 (0 : Int32)) t)) (ob := true) e_35 hk_35 6 rfl rfl ?_
  cases h
  exact xu_vret e_35 hk_35 rfl rfl
set_option maxRecDepth 100000 in
set_option maxHeartbeats 4000000 in
theorem m_Section_begin (s t : xS) (q : xS) (h : f_Section_begin  s = some q) : xMet 41 [.ref 9] (mk s t) none (mk q t) := by
  refine xMet_of hk_41 rfl rfl rfl ?_
  refine xOK_eq (fr := (0, [some (.ref 9)], [])) rfl ?_
  unfold f_Section_begin at h
  refine xOK_steps (fr' := (3, [some (.ref 9)], [.int (0 : Int32), .ref 10])) (w' := (mk s t)) (ob := true) e_41 hk_41 3 rfl rfl ?_
  obtain ⟨q1, e2, h⟩ := Option.bind_eq_some_iff.mp h
  refine xu_calls (r := none) (av := [.ref 10, .int (0 : Int32)]) (st := []) (w1 := (mk q1 t)) e_41 hk_41 rfl rfl (m_J_fill_2 _ _ _ _ e2) rfl rfl rfl rfl ?_
  refine xOK_steps (fr' := (6, [some (.ref 9)], [.ref 11])) (w' := (mk q1 t)) (ob := true) e_41 hk_41 2 rfl rfl ?_
  obtain ⟨q3, e4, h⟩ := Option.bind_eq_some_iff.mp h
  refine xu_callv (q := 11) (r := none) (av := []) (st := []) (w1 := (mk q3 t)) e_41 hk_41 rfl (m_Held_clear  _ _ _ e4) rfl rfl rfl rfl rfl ?_
  refine xOK_steps (fr' := (16, [some (.ref 9)], [])) (w' := (mk (xsc (xsc (xsc q3 7 (0 : Int32)) 8 (0 : Int32)) 9 (0 : Int32)) t)) (ob := true) e_41 hk_41 9 rfl rfl ?_
  cases h
  exact xu_vret e_41 hk_41 rfl rfl
set_option maxRecDepth 100000 in
set_option maxHeartbeats 4000000 in
theorem m_C_forget (s t : xS) (q : xS) (h : f_C_forget  s = some q) : xMet 21 [.ref 0] (mk s t) none (mk q t) := by
  refine xMet_of hk_21 rfl rfl rfl ?_
  refine xOK_eq (fr := (0, [some (.ref 0)], [])) rfl ?_
  unfold f_C_forget at h
  refine xOK_steps (fr' := (4, [some (.ref 0)], [.int (0 : Int32), .ref 18])) (w' := (mk s t)) (ob := true) e_21 hk_21 4 rfl rfl ?_
  obtain ⟨q1, e2, h⟩ := Option.bind_eq_some_iff.mp h
  refine xu_calls (r := none) (av := [.ref 18, .int (0 : Int32)]) (st := []) (w1 := (mk q1 t)) e_21 hk_21 rfl rfl (m_J_fill _ _ _ _ e2) rfl rfl rfl rfl ?_
  refine xOK_steps (fr' := (9, [some (.ref 0)], [.int (0 : Int32), .ref 16])) (w' := (mk q1 t)) (ob := true) e_21 hk_21 4 rfl rfl ?_
  obtain ⟨q3, e4, h⟩ := Option.bind_eq_some_iff.mp h
  refine xu_calls (r := none) (av := [.ref 16, .int (0 : Int32)]) (st := []) (w1 := (mk q3 t)) e_21 hk_21 rfl rfl (m_J_fill_1 _ _ _ _ e4) rfl rfl rfl rfl ?_
  refine xOK_steps (fr' := (12, [some (.ref 0)], [.ref 9])) (w' := (mk q3 t)) (ob := true) e_21 hk_21 2 rfl rfl ?_
  obtain ⟨q5, e6, h⟩ := Option.bind_eq_some_iff.mp h
  refine xu_callv (q := 9) (r := none) (av := []) (st := []) (w1 := (mk q5 t)) e_21 hk_21 rfl (m_Section_begin  _ _ _ e6) rfl rfl rfl rfl rfl ?_
  refine xOK_steps (fr' := (16, [some (.ref 0)], [])) (w' := (mk (xsc q5 0 (2 : Int32)) t)) (ob := true) e_21 hk_21 3 rfl rfl ?_
  cases h
  exact xu_vret e_21 hk_21 rfl rfl
set_option maxRecDepth 100000 in
set_option maxHeartbeats 4000000 in
theorem m_Bus_takeHalt (s t : xS) (q : (Int32 × xS)) (h : f_Bus_takeHalt  s = some q) : xMet 46 [.ref 15] (mk s t) (some q.1) (mk q.2 t) := by
  refine xMet_of hk_46 rfl rfl rfl ?_
  refine xOK_eq (fr := (0, [some (.ref 15), none], [])) rfl ?_
  unfold f_Bus_takeHalt at h
  refine xOK_steps (fr' := (7, [some (.ref 15), some (.int (s.1 12))], [.int (s.1 12)])) (w' := (mk (xsc s 12 (0 : Int32)) t)) (ob := true) e_46 hk_46 7 rfl rfl ?_
  by_cases o1 : xbl (s.1 12) = true
  case neg => have h := xif_neg o1 h; cases h
  have h := xif_pos o1 h
  cases h
  exact xu_iret e_46 hk_46 rfl o1 rfl
set_option maxRecDepth 100000 in
set_option maxHeartbeats 4000000 in
theorem t_Power_allows_78 (t : xS) (q : (Int32 × xS)) (s : xS) (h : f_Power_allows_78  s = some q) : xOK 24 none (xEnd 24 (some q.1) (mk q.2 t)) (48, [none, none], []) (mk s t) 0 0 := by
  unfold f_Power_allows_78 at h
  refine xOK_steps (fr' := (49, [none, none], [.int (1 : Int32)])) (w' := (mk s t)) (ob := true) e_24 hk_24 1 rfl rfl ?_
  cases h
  exact xu_iret e_24 hk_24 rfl rfl rfl
set_option maxRecDepth 100000 in
set_option maxHeartbeats 4000000 in
theorem t_Power_allows_64 (t : xS) (q : (Int32 × xS)) (x1 : Int32) (s : xS) (h : f_Power_allows_64 x1 s = some q) : xOK 24 none (xEnd 24 (some q.1) (mk q.2 t)) (40, [some (.ref 1), some (.int x1)], []) (mk s t) 0 0 := by
  unfold f_Power_allows_64 at h
  refine xOK_steps (fr' := (41, [some (.ref 1), some (.int x1)], [.int x1])) (w' := (mk s t)) (ob := true) e_24 hk_24 1 rfl rfl ?_
  refine xu_if_ne e_24 hk_24 rfl (fun c1 => ?_) (fun c1 => ?_)
  · have h := xif_neg c1 h
    refine xOK_fg [0, 1] ?_
    exact t_Power_allows_78 t q  _ h
  · have h := xif_pos c1 h
    refine xOK_steps (fr' := (48, [some (.ref 1), some (.int x1)], [])) (w' := (mk (xsc s 2 ((s.1 2) + (1 : Int32))) t)) (ob := true) e_24 hk_24 6 rfl rfl ?_
    refine xOK_fg [0, 1] ?_
    exact t_Power_allows_78 t q  _ h
set_option maxRecDepth 100000 in
set_option maxHeartbeats 4000000 in
theorem t_Power_allows_36 (t : xS) (q : (Int32 × xS)) (x1 : Int32) (s : xS) (h : f_Power_allows_36 x1 s = some q) : xOK 24 none (xEnd 24 (some q.1) (mk q.2 t)) (22, [some (.ref 1), some (.int x1)], []) (mk s t) 0 0 := by
  unfold f_Power_allows_36 at h
  refine xOK_steps (fr' := (24, [some (.ref 1), some (.int x1)], [.int (s.1 1)])) (w' := (mk s t)) (ob := true) e_24 hk_24 2 rfl rfl ?_
  refine xu_if_ne e_24 hk_24 rfl (fun c2 => ?_) (fun c2 => ?_)
  · have h := xif_neg c2 h
    by_cases o3 : xin x1 2 = true
    case neg => have h := xif_neg o3 h; cases h
    have h := xif_pos o3 h
    refine xOK_steps (fr' := (31, [some (.ref 1), some (.int x1)], [.int ((s.2 0) (x1).toNatClampNeg)])) (w' := (mk s t)) (ob := xin x1 2 && (true)) e_24 hk_24 4 rfl (xand o3 rfl) ?_
    refine xu_if_le e_24 hk_24 rfl (fun c4 => ?_) (fun c4 => ?_)
    · have h := xif_pos c4 h
      exact t_Power_allows_64 t q _ _ h
    · have h := xif_neg c4 h
      by_cases o5 : xin x1 2 = true
      case neg => have h := xif_neg o5 h; cases h
      have h := xif_pos o5 h
      by_cases o6 : xin x1 2 = true
      case neg => have h := xif_neg o6 h; cases h
      have h := xif_pos o6 h
      refine xOK_steps (fr' := (40, [some (.ref 1), some (.int x1)], [])) (w' := (mk (xsa s 0 (x1).toNatClampNeg (((s.2 0) (x1).toNatClampNeg) - (1 : Int32))) t)) (ob := xin x1 2 && (xin x1 2 && (true))) e_24 hk_24 8 rfl (xand o5 (xand o6 rfl)) ?_
      exact t_Power_allows_64 t q _ _ h
  · have h := xif_pos c2 h
    refine xOK_steps (fr' := (26, [some (.ref 1), some (.int x1)], [.int (0 : Int32)])) (w' := (mk s t)) (ob := true) e_24 hk_24 1 rfl rfl ?_
    cases h
    exact xu_iret e_24 hk_24 rfl rfl rfl
set_option maxRecDepth 100000 in
set_option maxHeartbeats 4000000 in
theorem m_Power_allows (x1 : Int32) (s t : xS) (q : (Int32 × xS)) (h : f_Power_allows x1 s = some q) : xMet 24 [.ref 1, .int x1] (mk s t) (some q.1) (mk q.2 t) := by
  refine xMet_of hk_24 rfl rfl rfl ?_
  refine xOK_eq (fr := (0, [some (.ref 1), some (.int x1)], [])) rfl ?_
  unfold f_Power_allows at h
  refine xOK_steps (fr' := (2, [some (.ref 1), some (.int x1)], [.int (s.1 1)])) (w' := (mk s t)) (ob := true) e_24 hk_24 2 rfl rfl ?_
  refine xu_if_eq e_24 hk_24 rfl (fun c7 => ?_) (fun c7 => ?_)
  · have h := xif_pos c7 h
    exact t_Power_allows_36 t q _ _ h
  · have h := xif_neg c7 h
    by_cases o8 : xin x1 2 = true
    case neg => have h := xif_neg o8 h; cases h
    have h := xif_pos o8 h
    refine xOK_steps (fr' := (8, [some (.ref 1), some (.int x1)], [.int (1 : Int32), .int ((s.2 0) (x1).toNatClampNeg)])) (w' := (mk s t)) (ob := xin x1 2 && (true)) e_24 hk_24 5 rfl (xand o8 rfl) ?_
    refine xu_icmp_ne e_24 hk_24 rfl (fun c9 => ?_) (fun c9 => ?_)
    · have h := xif_neg c9 h
      exact t_Power_allows_36 t q _ _ h
    · have h := xif_pos c9 h
      refine xOK_steps (fr' := (22, [some (.ref 1), some (.int x1)], [])) (w' := (mk (xsa (xsa (xsc s 1 (0 : Int32)) 0 0 (0 : Int32)) 0 1 (0 : Int32)) t)) (ob := true) e_24 hk_24 13 rfl rfl ?_
      exact t_Power_allows_36 t q _ _ h
set_option maxRecDepth 100000 in
set_option maxHeartbeats 4000000 in
theorem m_Held_copyFrom (s t : xS) (q : xS) (h : f_Held_copyFrom  s = some q) : xMet 36 [.ref 23, .ref 11] (mk s t) none (mk q t) := by
  refine xMet_of hk_36 rfl rfl rfl ?_
  refine xOK_eq (fr := (0, [some (.ref 23), some (.ref 11)], [])) rfl ?_
  unfold f_Held_copyFrom at h
  refine xOK_steps (fr' := (7, [some (.ref 23), some (.ref 11)], [.int (4 : Int32), .int (0 : Int32), .ref 24, .int (0 : Int32), .ref 12])) (w' := (mk s t)) (ob := true) e_36 hk_36 7 rfl rfl ?_
  refine xu_copy (n := 4) (q0 := 12) (q1 := 24) (w1 := (mk (xsf s 13 (va_cpy (s.2 6) (s.2 13) 0 0 4)) t)) e_36 hk_36 rfl rfl rfl rfl rfl rfl ?_
  refine xOK_steps (fr' := (15, [some (.ref 23), some (.ref 11)], [.int (4 : Int32), .int (0 : Int32), .ref 25, .int (0 : Int32), .ref 13])) (w' := (mk (xsf s 13 (va_cpy (s.2 6) (s.2 13) 0 0 4)) t)) (ob := true) e_36 hk_36 7 rfl rfl ?_
  refine xu_copy (n := 4) (q0 := 13) (q1 := 25) (w1 := (mk (xsf (xsf s 13 (va_cpy (s.2 6) (s.2 13) 0 0 4)) 14 (va_cpy (s.2 7) (s.2 14) 0 0 4)) t)) e_36 hk_36 rfl rfl rfl rfl rfl rfl ?_
  refine xOK_steps (fr' := (23, [some (.ref 23), some (.ref 11)], [.int (4 : Int32), .int (0 : Int32), .ref 26, .int (0 : Int32), .ref 14])) (w' := (mk (xsf (xsf s 13 (va_cpy (s.2 6) (s.2 13) 0 0 4)) 14 (va_cpy (s.2 7) (s.2 14) 0 0 4)) t)) (ob := true) e_36 hk_36 7 rfl rfl ?_
  refine xu_copy (n := 4) (q0 := 14) (q1 := 26) (w1 := (mk (xsf (xsf (xsf s 13 (va_cpy (s.2 6) (s.2 13) 0 0 4)) 14 (va_cpy (s.2 7) (s.2 14) 0 0 4)) 15 (va_cpy (s.2 8) (s.2 15) 0 0 4)) t)) e_36 hk_36 rfl rfl rfl rfl rfl rfl ?_
  refine xOK_steps (fr' := (32, [some (.ref 23), some (.ref 11)], [])) (w' := (mk (xsc (xsc (xsf (xsf (xsf s 13 (va_cpy (s.2 6) (s.2 13) 0 0 4)) 14 (va_cpy (s.2 7) (s.2 14) 0 0 4)) 15 (va_cpy (s.2 8) (s.2 15) 0 0 4)) 23 (s.1 10)) 24 (s.1 11)) t)) (ob := true) e_36 hk_36 8 rfl rfl ?_
  cases h
  exact xu_vret e_36 hk_36 rfl rfl
set_option maxRecDepth 100000 in
set_option maxHeartbeats 4000000 in
theorem m_Keeper_flip (x1 : Int32) (s t : xS) (q : xS) (h : f_Keeper_flip x1 s = some q) : xMet 92 [.ref 19, .int x1] (mk s t) none (mk q t) := by
  refine xMet_of hk_92 rfl rfl rfl ?_
  refine xOK_eq (fr := (0, [some (.ref 19), some (.int x1)], [])) rfl ?_
  unfold f_Keeper_flip at h
  refine xOK_steps (fr' := (1, [some (.ref 19), some (.int x1)], [.ref 19])) (w' := (mk s t)) (ob := true) e_92 hk_92 1 rfl rfl ?_
  obtain ⟨q1, e2, h⟩ := Option.bind_eq_some_iff.mp h
  refine xu_callv (q := 19) (r := none) (av := []) (st := []) (w1 := (mk q1 t)) e_92 hk_92 rfl (m_Keeper_keepVolatile  _ _ _ e2) rfl rfl rfl rfl rfl ?_
  refine xOK_steps (fr' := (8, [some (.ref 19), some (.int x1)], [.ref 11, .ref 23])) (w' := (mk q1 t)) (ob := true) e_92 hk_92 6 rfl rfl ?_
  obtain ⟨q3, e4, h⟩ := Option.bind_eq_some_iff.mp h
  refine xu_callv (q := 23) (r := none) (av := [.ref 11]) (st := []) (w1 := (mk q3 t)) e_92 hk_92 rfl (m_Held_copyFrom  _ _ _ e4) rfl rfl rfl rfl rfl ?_
  by_cases o5 : xbl x1 = true
  case neg => have h := xif_neg o5 h; cases h
  have h := xif_pos o5 h
  refine xOK_steps (fr' := (36, [some (.ref 19), some (.int x1)], [])) (w' := (mk (xsc (xsc (xsc (xsc (xsc q3 19 ((q3.1 19) + (q3.1 9))) 20 (0 : Int32)) 21 x1) 22 (0 : Int32)) 18 ((q3.1 18) + (1 : Int32))) t)) (ob := xbl x1 && (true)) e_92 hk_92 27 rfl (xand o5 rfl) ?_
  cases h
  exact xu_vret e_92 hk_92 rfl rfl
set_option maxRecDepth 100000 in
set_option maxHeartbeats 4000000 in
theorem t_Keeper_writeHeldWords_2 (t : xS) (q : (Int32 × xS)) : ∀ (n : Nat), ∀ (x1 : Int32) (s : xS), f_Keeper_writeHeldWords_2 n x1 s = some q → xOK 94 none (xEnd 94 (some q.1) (mk q.2 t)) (2, [some (.ref 19), some (.int x1)], []) (mk s t) 0 0 := by
  intro n
  induction n with
  | zero => intro x1 s h; cases h
  | succ n ih =>
    intro x1 s h
    unfold f_Keeper_writeHeldWords_2 at h
    refine xOK_steps (fr' := (7, [some (.ref 19), some (.int x1)], [.int (s.1 23), .int x1])) (w' := (mk s t)) (ob := true) e_94 hk_94 5 rfl rfl ?_
    refine xu_icmp_ge e_94 hk_94 rfl (fun c1 => ?_) (fun c1 => ?_)
    · have h := xif_pos c1 h
      refine xOK_steps (fr' := (34, [some (.ref 19), some (.int x1)], [.int (1 : Int32)])) (w' := (mk s t)) (ob := true) e_94 hk_94 1 rfl rfl ?_
      cases h
      exact xu_iret e_94 hk_94 rfl rfl rfl
    · have h := xif_neg c1 h
      refine xOK_steps (fr' := (11, [some (.ref 19), some (.int x1)], [.int (0 : Int32), .ref 1])) (w' := (mk s t)) (ob := true) e_94 hk_94 3 rfl rfl ?_
      obtain ⟨q2, e3, h⟩ := Option.bind_eq_some_iff.mp h
      refine xu_callv (q := 1) (r := (some q2.1)) (av := [.int (0 : Int32)]) (st := []) (w1 := (mk q2.2 t)) e_94 hk_94 rfl (m_Power_allows _ _ _ _ e3) rfl rfl rfl rfl rfl ?_
      refine xu_if_ne e_94 hk_94 rfl (fun c4 => ?_) (fun c4 => ?_)
      · have h := xif_neg c4 h
        by_cases o5 : xin x1 4 = true
        case neg => have h := xif_neg o5 h; cases h
        have h := xif_pos o5 h
        by_cases o6 : xin x1 4 = true
        case neg => have h := xif_neg o6 h; cases h
        have h := xif_pos o6 h
        by_cases o7 : xin ((q2.2.2 13) (x1).toNatClampNeg) 128 = true
        case neg => have h := xif_neg o7 h; cases h
        have h := xif_pos o7 h
        refine xOK_steps (fr' := (2, [some (.ref 19), some (.int (x1 + (1 : Int32)))], [])) (w' := (mk (xsa q2.2 1 ((q2.2.2 13) (x1).toNatClampNeg).toNatClampNeg ((q2.2.2 14) (x1).toNatClampNeg)) t)) (ob := xin x1 4 && (xin x1 4 && (xin ((q2.2.2 13) (x1).toNatClampNeg) 128 && (true)))) e_94 hk_94 18 rfl (xand o5 (xand o6 (xand o7 rfl))) ?_
        exact ih _ _ h
      · have h := xif_pos c4 h
        refine xOK_steps (fr' := (14, [some (.ref 19), some (.int x1)], [.int (0 : Int32)])) (w' := (mk q2.2 t)) (ob := true) e_94 hk_94 1 rfl rfl ?_
        cases h
        exact xu_iret e_94 hk_94 rfl rfl rfl
set_option maxRecDepth 100000 in
set_option maxHeartbeats 4000000 in
theorem m_Keeper_writeHeldWords (s t : xS) (q : (Int32 × xS)) (h : f_Keeper_writeHeldWords  s = some q) : xMet 94 [.ref 19] (mk s t) (some q.1) (mk q.2 t) := by
  refine xMet_of hk_94 rfl rfl rfl ?_
  refine xOK_eq (fr := (0, [some (.ref 19), none], [])) rfl ?_
  unfold f_Keeper_writeHeldWords at h
  refine xOK_steps (fr' := (2, [some (.ref 19), some (.int (0 : Int32))], [])) (w' := (mk s t)) (ob := true) e_94 hk_94 2 rfl rfl ?_
  exact t_Keeper_writeHeldWords_2 t q _ _ _ h
set_option maxRecDepth 100000 in
set_option maxHeartbeats 4000000 in
theorem t_Lasting_placeRecord_20 (t : xS) (q : xS) (s : xS) (h : f_Lasting_placeRecord_20  s = some q) : xOK 29 none (xEnd 29 none (mk q t)) (10, [none, none], []) (mk s t) 0 0 := by
  unfold f_Lasting_placeRecord_20 at h
  cases h
  exact xu_vret e_29 hk_29 rfl rfl
set_option maxRecDepth 100000 in
set_option maxHeartbeats 4000000 in
theorem m_Lasting_placeRecord (x1 : Int32) (s t : xS) (q : xS) (h : f_Lasting_placeRecord x1 s = some q) : xMet 29 [.ref 3, .int x1] (mk s t) none (mk q t) := by
  refine xMet_of hk_29 rfl rfl rfl ?_
  refine xOK_eq (fr := (0, [some (.ref 3), some (.int x1)], [])) rfl ?_
  unfold f_Lasting_placeRecord at h
  refine xOK_steps (fr' := (3, [some (.ref 3), some (.int x1)], [.int (200 : Int32), .int (s.1 4)])) (w' := (mk s t)) (ob := true) e_29 hk_29 3 rfl rfl ?_
  refine xu_icmp_ge e_29 hk_29 rfl (fun c1 => ?_) (fun c1 => ?_)
  · have h := xif_pos c1 h
    refine xOK_fg [0, 1] ?_
    exact t_Lasting_placeRecord_20 t q  _ h
  · have h := xif_neg c1 h
    by_cases o2 : xin (s.1 4) 200 = true
    case neg => have h := xif_neg o2 h; cases h
    have h := xif_pos o2 h
    refine xOK_steps (fr' := (10, [some (.ref 3), some (.int x1)], [])) (w' := (mk (xsa s 3 (s.1 4).toNatClampNeg x1) t)) (ob := xin (s.1 4) 200 && (true)) e_29 hk_29 6 rfl (xand o2 rfl) ?_
    refine xOK_fg [0, 1] ?_
    exact t_Lasting_placeRecord_20 t q  _ h
set_option maxRecDepth 100000 in
set_option maxHeartbeats 4000000 in
theorem t_Lasting_countRecord_20 (t : xS) (q : xS) (s : xS) (h : f_Lasting_countRecord_20  s = some q) : xOK 30 none (xEnd 30 none (mk q t)) (10, [none], []) (mk s t) 0 0 := by
  unfold f_Lasting_countRecord_20 at h
  cases h
  exact xu_vret e_30 hk_30 rfl rfl
set_option maxRecDepth 100000 in
set_option maxHeartbeats 4000000 in
theorem m_Lasting_countRecord (s t : xS) (q : xS) (h : f_Lasting_countRecord  s = some q) : xMet 30 [.ref 3] (mk s t) none (mk q t) := by
  refine xMet_of hk_30 rfl rfl rfl ?_
  refine xOK_eq (fr := (0, [some (.ref 3)], [])) rfl ?_
  unfold f_Lasting_countRecord at h
  refine xOK_steps (fr' := (3, [some (.ref 3)], [.int (200 : Int32), .int (s.1 4)])) (w' := (mk s t)) (ob := true) e_30 hk_30 3 rfl rfl ?_
  refine xu_icmp_ge e_30 hk_30 rfl (fun c1 => ?_) (fun c1 => ?_)
  · have h := xif_pos c1 h
    refine xOK_fg [0] ?_
    exact t_Lasting_countRecord_20 t q  _ h
  · have h := xif_neg c1 h
    refine xOK_steps (fr' := (10, [some (.ref 3)], [])) (w' := (mk (xsc s 4 ((s.1 4) + (1 : Int32))) t)) (ob := true) e_30 hk_30 6 rfl rfl ?_
    refine xOK_fg [0] ?_
    exact t_Lasting_countRecord_20 t q  _ h
set_option maxRecDepth 100000 in
set_option maxHeartbeats 4000000 in
theorem t_Keeper_sendHeldRecords_8 (t : xS) (q : (Int32 × xS)) : ∀ (n : Nat), ∀ (x1 : Int32) (s : xS), f_Keeper_sendHeldRecords_8 n x1 s = some q → xOK 95 none (xEnd 95 (some q.1) (mk q.2 t)) (4, [some (.ref 19), some (.int x1)], []) (mk s t) 0 0 := by
  intro n
  induction n with
  | zero => intro x1 s h; cases h
  | succ n ih =>
    intro x1 s h
    unfold f_Keeper_sendHeldRecords_8 at h
    refine xOK_steps (fr' := (9, [some (.ref 19), some (.int x1)], [.int (s.1 24), .int x1])) (w' := (mk s t)) (ob := true) e_95 hk_95 5 rfl rfl ?_
    refine xu_icmp_ge e_95 hk_95 rfl (fun c1 => ?_) (fun c1 => ?_)
    · have h := xif_pos c1 h
      refine xOK_steps (fr' := (46, [some (.ref 19), some (.int x1)], [.int (1 : Int32)])) (w' := (mk s t)) (ob := true) e_95 hk_95 1 rfl rfl ?_
      cases h
      exact xu_iret e_95 hk_95 rfl rfl rfl
    · have h := xif_neg c1 h
      refine xOK_steps (fr' := (13, [some (.ref 19), some (.int x1)], [.int (0 : Int32), .ref 1])) (w' := (mk s t)) (ob := true) e_95 hk_95 3 rfl rfl ?_
      obtain ⟨q2, e3, h⟩ := Option.bind_eq_some_iff.mp h
      refine xu_callv (q := 1) (r := (some q2.1)) (av := [.int (0 : Int32)]) (st := []) (w1 := (mk q2.2 t)) e_95 hk_95 rfl (m_Power_allows _ _ _ _ e3) rfl rfl rfl rfl rfl ?_
      refine xu_if_ne e_95 hk_95 rfl (fun c4 => ?_) (fun c4 => ?_)
      · have h := xif_neg c4 h
        by_cases o5 : xin x1 4 = true
        case neg => have h := xif_neg o5 h; cases h
        have h := xif_pos o5 h
        refine xOK_steps (fr' := (25, [some (.ref 19), some (.int x1)], [.int ((q2.2.2 15) (x1).toNatClampNeg), .ref 3])) (w' := (mk q2.2 t)) (ob := xin x1 4 && (true)) e_95 hk_95 8 rfl (xand o5 rfl) ?_
        obtain ⟨q6, e7, h⟩ := Option.bind_eq_some_iff.mp h
        refine xu_callv (q := 3) (r := none) (av := [.int ((q2.2.2 15) (x1).toNatClampNeg)]) (st := []) (w1 := (mk q6 t)) e_95 hk_95 rfl (m_Lasting_placeRecord _ _ _ _ e7) rfl rfl rfl rfl rfl ?_
        refine xOK_steps (fr' := (29, [some (.ref 19), some (.int x1)], [.int (0 : Int32), .ref 1])) (w' := (mk q6 t)) (ob := true) e_95 hk_95 3 rfl rfl ?_
        obtain ⟨q8, e9, h⟩ := Option.bind_eq_some_iff.mp h
        refine xu_callv (q := 1) (r := (some q8.1)) (av := [.int (0 : Int32)]) (st := []) (w1 := (mk q8.2 t)) e_95 hk_95 rfl (m_Power_allows _ _ _ _ e9) rfl rfl rfl rfl rfl ?_
        refine xu_if_ne e_95 hk_95 rfl (fun c10 => ?_) (fun c10 => ?_)
        · have h := xif_neg c10 h
          refine xOK_steps (fr' := (35, [some (.ref 19), some (.int x1)], [.ref 3])) (w' := (mk q8.2 t)) (ob := true) e_95 hk_95 2 rfl rfl ?_
          obtain ⟨q11, e12, h⟩ := Option.bind_eq_some_iff.mp h
          refine xu_callv (q := 3) (r := none) (av := []) (st := []) (w1 := (mk q11 t)) e_95 hk_95 rfl (m_Lasting_countRecord  _ _ _ e12) rfl rfl rfl rfl rfl ?_
          refine xOK_steps (fr' := (4, [some (.ref 19), some (.int (x1 + (1 : Int32)))], [])) (w' := (mk (xsc q11 20 ((q11.1 20) + (1 : Int32))) t)) (ob := true) e_95 hk_95 9 rfl rfl ?_
          exact ih _ _ h
        · have h := xif_pos c10 h
          refine xOK_steps (fr' := (32, [some (.ref 19), some (.int x1)], [.int (0 : Int32)])) (w' := (mk q8.2 t)) (ob := true) e_95 hk_95 1 rfl rfl ?_
          cases h
          exact xu_iret e_95 hk_95 rfl rfl rfl
      · have h := xif_pos c4 h
        refine xOK_steps (fr' := (16, [some (.ref 19), some (.int x1)], [.int (0 : Int32)])) (w' := (mk q2.2 t)) (ob := true) e_95 hk_95 1 rfl rfl ?_
        cases h
        exact xu_iret e_95 hk_95 rfl rfl rfl
set_option maxRecDepth 100000 in
set_option maxHeartbeats 4000000 in
theorem m_Keeper_sendHeldRecords (s t : xS) (q : (Int32 × xS)) (h : f_Keeper_sendHeldRecords  s = some q) : xMet 95 [.ref 19] (mk s t) (some q.1) (mk q.2 t) := by
  refine xMet_of hk_95 rfl rfl rfl ?_
  refine xOK_eq (fr := (0, [some (.ref 19), none], [])) rfl ?_
  unfold f_Keeper_sendHeldRecords at h
  refine xOK_steps (fr' := (4, [some (.ref 19), some (.int (s.1 20))], [])) (w' := (mk s t)) (ob := true) e_95 hk_95 4 rfl rfl ?_
  exact t_Keeper_sendHeldRecords_8 t q _ _ _ h
set_option maxRecDepth 100000 in
set_option maxHeartbeats 4000000 in
theorem m_Keeper_close (s t : xS) (q : (Int32 × xS)) (h : f_Keeper_close  s = some q) : xMet 96 [.ref 19] (mk s t) (some q.1) (mk q.2 t) := by
  refine xMet_of hk_96 rfl rfl rfl ?_
  refine xOK_eq (fr := (0, [some (.ref 19)], [])) rfl ?_
  unfold f_Keeper_close at h
  refine xOK_steps (fr' := (3, [some (.ref 19)], [.int (0 : Int32), .ref 1])) (w' := (mk s t)) (ob := true) e_96 hk_96 3 rfl rfl ?_
  obtain ⟨q1, e2, h⟩ := Option.bind_eq_some_iff.mp h
  refine xu_callv (q := 1) (r := (some q1.1)) (av := [.int (0 : Int32)]) (st := []) (w1 := (mk q1.2 t)) e_96 hk_96 rfl (m_Power_allows _ _ _ _ e2) rfl rfl rfl rfl rfl ?_
  refine xu_if_ne e_96 hk_96 rfl (fun c3 => ?_) (fun c3 => ?_)
  · have h := xif_neg c3 h
    refine xOK_steps (fr' := (14, [some (.ref 19)], [.int (0 : Int32), .ref 1])) (w' := (mk (xsc q1.2 3 (0 : Int32)) t)) (ob := true) e_96 hk_96 7 rfl rfl ?_
    obtain ⟨q4, e5, h⟩ := Option.bind_eq_some_iff.mp h
    refine xu_callv (q := 1) (r := (some q4.1)) (av := [.int (0 : Int32)]) (st := []) (w1 := (mk q4.2 t)) e_96 hk_96 rfl (m_Power_allows _ _ _ _ e5) rfl rfl rfl rfl rfl ?_
    refine xu_if_ne e_96 hk_96 rfl (fun c6 => ?_) (fun c6 => ?_)
    · have h := xif_neg c6 h
      refine xOK_steps (fr' := (23, [some (.ref 19)], [.int (1 : Int32)])) (w' := (mk (xsc q4.2 22 (1 : Int32)) t)) (ob := true) e_96 hk_96 5 rfl rfl ?_
      cases h
      exact xu_iret e_96 hk_96 rfl rfl rfl
    · have h := xif_pos c6 h
      refine xOK_steps (fr' := (17, [some (.ref 19)], [.int (0 : Int32)])) (w' := (mk q4.2 t)) (ob := true) e_96 hk_96 1 rfl rfl ?_
      cases h
      exact xu_iret e_96 hk_96 rfl rfl rfl
  · have h := xif_pos c3 h
    refine xOK_steps (fr' := (6, [some (.ref 19)], [.int (0 : Int32)])) (w' := (mk q1.2 t)) (ob := true) e_96 hk_96 1 rfl rfl ?_
    cases h
    exact xu_iret e_96 hk_96 rfl rfl rfl
set_option maxRecDepth 100000 in
set_option maxHeartbeats 4000000 in
theorem t_Keeper_finish_26 (t : xS) (q : (Int32 × xS)) (y0 : Int32) (s : xS) (h : f_Keeper_finish_26 y0 s = some q) : xOK 93 none (xEnd 93 (some q.1) (mk q.2 t)) (12, [none], [.int y0]) (mk s t) 0 0 := by
  unfold f_Keeper_finish_26 at h
  by_cases o1 : xbl y0 = true
  case neg => have h := xif_neg o1 h; cases h
  have h := xif_pos o1 h
  cases h
  exact xu_iret e_93 hk_93 rfl o1 rfl
set_option maxRecDepth 100000 in
set_option maxHeartbeats 4000000 in
theorem t_Keeper_finish_25 (t : xS) (q : (Int32 × xS)) (s : xS) (h : f_Keeper_finish_25  s = some q) : xOK 93 none (xEnd 93 (some q.1) (mk q.2 t)) (11, [none], []) (mk s t) 0 0 := by
  unfold f_Keeper_finish_25 at h
  refine xOK_steps (fr' := (12, [none], [.int (0 : Int32)])) (w' := (mk s t)) (ob := true) e_93 hk_93 1 rfl rfl ?_
  exact t_Keeper_finish_26 t q _ _ h
set_option maxRecDepth 100000 in
set_option maxHeartbeats 4000000 in
theorem m_Keeper_finish (s t : xS) (q : (Int32 × xS)) (h : f_Keeper_finish  s = some q) : xMet 93 [.ref 19] (mk s t) (some q.1) (mk q.2 t) := by
  refine xMet_of hk_93 rfl rfl rfl ?_
  refine xOK_eq (fr := (0, [some (.ref 19)], [])) rfl ?_
  unfold f_Keeper_finish at h
  refine xOK_steps (fr' := (1, [some (.ref 19)], [.ref 19])) (w' := (mk s t)) (ob := true) e_93 hk_93 1 rfl rfl ?_
  obtain ⟨q2, e3, h⟩ := Option.bind_eq_some_iff.mp h
  refine xu_callv (q := 19) (r := (some q2.1)) (av := []) (st := []) (w1 := (mk q2.2 t)) e_93 hk_93 rfl (m_Keeper_writeHeldWords  _ _ _ e3) rfl rfl rfl rfl rfl ?_
  refine xu_if_eq e_93 hk_93 rfl (fun c4 => ?_) (fun c4 => ?_)
  · have h := xif_pos c4 h
    refine xOK_fg [0] ?_
    exact t_Keeper_finish_25 t q  _ h
  · have h := xif_neg c4 h
    refine xOK_steps (fr' := (4, [some (.ref 19)], [.ref 19])) (w' := (mk q2.2 t)) (ob := true) e_93 hk_93 1 rfl rfl ?_
    obtain ⟨q5, e6, h⟩ := Option.bind_eq_some_iff.mp h
    refine xu_callv (q := 19) (r := (some q5.1)) (av := []) (st := []) (w1 := (mk q5.2 t)) e_93 hk_93 rfl (m_Keeper_sendHeldRecords  _ _ _ e6) rfl rfl rfl rfl rfl ?_
    refine xu_if_eq e_93 hk_93 rfl (fun c7 => ?_) (fun c7 => ?_)
    · have h := xif_pos c7 h
      refine xOK_fg [0] ?_
      exact t_Keeper_finish_25 t q  _ h
    · have h := xif_neg c7 h
      refine xOK_steps (fr' := (7, [some (.ref 19)], [.ref 19])) (w' := (mk q5.2 t)) (ob := true) e_93 hk_93 1 rfl rfl ?_
      obtain ⟨q8, e9, h⟩ := Option.bind_eq_some_iff.mp h
      refine xu_callv (q := 19) (r := (some q8.1)) (av := []) (st := []) (w1 := (mk q8.2 t)) e_93 hk_93 rfl (m_Keeper_close  _ _ _ e9) rfl rfl rfl rfl rfl ?_
      refine xu_if_eq e_93 hk_93 rfl (fun c10 => ?_) (fun c10 => ?_)
      · have h := xif_pos c10 h
        refine xOK_fg [0] ?_
        exact t_Keeper_finish_25 t q  _ h
      · have h := xif_neg c10 h
        refine xOK_steps (fr' := (12, [some (.ref 19)], [.int (1 : Int32)])) (w' := (mk q8.2 t)) (ob := true) e_93 hk_93 2 rfl rfl ?_
        refine xOK_fg [0] ?_
        exact t_Keeper_finish_26 t q _ _ h
set_option maxRecDepth 100000 in
set_option maxHeartbeats 4000000 in
theorem t_Keeper_checkpoint_29 (t : xS) (q : (Int32 × xS)) : ∀ (n : Nat), ∀ (x1 x2 x3 : Int32) (s : xS), f_Keeper_checkpoint_29 n x1 x2 x3 s = some q → xOK 90 none (xEnd 90 (some q.1) (mk q.2 t)) (16, [some (.ref 19), some (.int x1), some (.int x2), some (.int x3)], []) (mk s t) 0 0 := by
  intro n
  induction n with
  | zero => intro x1 x2 x3 s h; cases h
  | succ n ih =>
    intro x1 x2 x3 s h
    unfold f_Keeper_checkpoint_29 at h
    refine xOK_steps (fr' := (18, [some (.ref 19), some (.int x1), some (.int x2), some (.int x3)], [.int x2, .int x3])) (w' := (mk s t)) (ob := true) e_90 hk_90 2 rfl rfl ?_
    refine xu_icmp_ge e_90 hk_90 rfl (fun c1 => ?_) (fun c1 => ?_)
    · have h := xif_pos c1 h
      refine xOK_steps (fr' := (31, [some (.ref 19), some (.int x1), some (.int x2), some (.int x3)], [.int (0 : Int32), .ref 1])) (w' := (mk s t)) (ob := true) e_90 hk_90 3 rfl rfl ?_
      obtain ⟨q2, e3, h⟩ := Option.bind_eq_some_iff.mp h
      refine xu_callv (q := 1) (r := (some q2.1)) (av := [.int (0 : Int32)]) (st := []) (w1 := (mk q2.2 t)) e_90 hk_90 rfl (m_Power_allows _ _ _ _ e3) rfl rfl rfl rfl rfl ?_
      refine xu_if_ne e_90 hk_90 rfl (fun c4 => ?_) (fun c4 => ?_)
      · have h := xif_neg c4 h
        refine xOK_steps (fr' := (37, [some (.ref 19), some (.int x1), some (.int x2), some (.int x3)], [.int x1, .ref 19])) (w' := (mk q2.2 t)) (ob := true) e_90 hk_90 2 rfl rfl ?_
        obtain ⟨q5, e6, h⟩ := Option.bind_eq_some_iff.mp h
        refine xu_callv (q := 19) (r := none) (av := [.int x1]) (st := []) (w1 := (mk q5 t)) e_90 hk_90 rfl (m_Keeper_flip _ _ _ _ e6) rfl rfl rfl rfl rfl ?_
        refine xOK_steps (fr' := (39, [some (.ref 19), some (.int x1), some (.int x2), some (.int x3)], [.ref 19])) (w' := (mk q5 t)) (ob := true) e_90 hk_90 1 rfl rfl ?_
        obtain ⟨q7, e8, h⟩ := Option.bind_eq_some_iff.mp h
        refine xu_callv (q := 19) (r := (some q7.1)) (av := []) (st := []) (w1 := (mk q7.2 t)) e_90 hk_90 rfl (m_Keeper_finish  _ _ _ e8) rfl rfl rfl rfl rfl ?_
        refine xu_if_ne e_90 hk_90 rfl (fun c9 => ?_) (fun c9 => ?_)
        · have h := xif_neg c9 h
          refine xOK_steps (fr' := (45, [some (.ref 19), some (.int x1), some (.int x2), some (.int x3)], [.ref 9])) (w' := (mk q7.2 t)) (ob := true) e_90 hk_90 2 rfl rfl ?_
          obtain ⟨q10, e11, h⟩ := Option.bind_eq_some_iff.mp h
          refine xu_callv (q := 9) (r := none) (av := []) (st := []) (w1 := (mk q10 t)) e_90 hk_90 rfl (m_Section_begin  _ _ _ e11) rfl rfl rfl rfl rfl ?_
          refine xOK_steps (fr' := (47, [some (.ref 19), some (.int x1), some (.int x2), some (.int x3)], [.int (1 : Int32)])) (w' := (mk q10 t)) (ob := true) e_90 hk_90 1 rfl rfl ?_
          cases h
          exact xu_iret e_90 hk_90 rfl rfl rfl
        · have h := xif_pos c9 h
          refine xOK_steps (fr' := (42, [some (.ref 19), some (.int x1), some (.int x2), some (.int x3)], [.int (0 : Int32)])) (w' := (mk q7.2 t)) (ob := true) e_90 hk_90 1 rfl rfl ?_
          cases h
          exact xu_iret e_90 hk_90 rfl rfl rfl
      · have h := xif_pos c4 h
        refine xOK_steps (fr' := (34, [some (.ref 19), some (.int x1), some (.int x2), some (.int x3)], [.int (0 : Int32)])) (w' := (mk q2.2 t)) (ob := true) e_90 hk_90 1 rfl rfl ?_
        cases h
        exact xu_iret e_90 hk_90 rfl rfl rfl
    · have h := xif_neg c1 h
      refine xOK_steps (fr' := (22, [some (.ref 19), some (.int x1), some (.int x2), some (.int x3)], [.int (0 : Int32), .ref 1])) (w' := (mk s t)) (ob := true) e_90 hk_90 3 rfl rfl ?_
      obtain ⟨q12, e13, h⟩ := Option.bind_eq_some_iff.mp h
      refine xu_callv (q := 1) (r := (some q12.1)) (av := [.int (0 : Int32)]) (st := []) (w1 := (mk q12.2 t)) e_90 hk_90 rfl (m_Power_allows _ _ _ _ e13) rfl rfl rfl rfl rfl ?_
      refine xu_if_ne e_90 hk_90 rfl (fun c14 => ?_) (fun c14 => ?_)
      · have h := xif_neg c14 h
        refine xOK_steps (fr' := (16, [some (.ref 19), some (.int x1), some (.int x2), some (.int (x3 + (1 : Int32)))], [])) (w' := (mk q12.2 t)) (ob := true) e_90 hk_90 2 rfl rfl ?_
        exact ih _ _ _ _ h
      · have h := xif_pos c14 h
        refine xOK_steps (fr' := (25, [some (.ref 19), some (.int x1), some (.int x2), some (.int x3)], [.int (0 : Int32)])) (w' := (mk q12.2 t)) (ob := true) e_90 hk_90 1 rfl rfl ?_
        cases h
        exact xu_iret e_90 hk_90 rfl rfl rfl
set_option maxRecDepth 100000 in
set_option maxHeartbeats 4000000 in
theorem m_Keeper_checkpoint (x1 : Int32) (s t : xS) (q : (Int32 × xS)) (h : f_Keeper_checkpoint x1 s = some q) : xMet 90 [.ref 19, .int x1] (mk s t) (some q.1) (mk q.2 t) := by
  refine xMet_of hk_90 rfl rfl rfl ?_
  refine xOK_eq (fr := (0, [some (.ref 19), some (.int x1), none, none], [])) rfl ?_
  unfold f_Keeper_checkpoint at h
  refine xOK_steps (fr' := (16, [some (.ref 19), some (.int x1), some (.int (((36 : Int32) + ((2 : Int32) * (s.1 10))) + (s.1 11))), some (.int (0 : Int32))], [])) (w' := (mk s t)) (ob := true) e_90 hk_90 16 rfl rfl ?_
  exact t_Keeper_checkpoint_29 t q _ _ _ _ _ h
set_option maxRecDepth 100000 in
set_option maxHeartbeats 4000000 in
theorem t_C_endStep_65 (t : xS) (q : (Int32 × xS)) (s : xS) (h : f_C_endStep_65  s = some q) : xOK 20 none (xEnd 20 (some q.1) (mk q.2 t)) (31, [some (.ref 0), none], []) (mk s t) 0 0 := by
  unfold f_C_endStep_65 at h
  refine xOK_steps (fr' := (34, [some (.ref 0), none], [.int (s.1 1)])) (w' := (mk s t)) (ob := true) e_20 hk_20 3 rfl rfl ?_
  by_cases o1 : xbl (s.1 1) = true
  case neg => have h := xif_neg o1 h; cases h
  have h := xif_pos o1 h
  cases h
  exact xu_iret e_20 hk_20 rfl o1 rfl
set_option maxRecDepth 100000 in
set_option maxHeartbeats 4000000 in
theorem t_C_endStep_51 (t : xS) (q : (Int32 × xS)) (s : xS) (h : f_C_endStep_51  s = some q) : xOK 20 none (xEnd 20 (some q.1) (mk q.2 t)) (25, [some (.ref 0), none], []) (mk s t) 0 0 := by
  unfold f_C_endStep_51 at h
  refine xOK_steps (fr' := (28, [some (.ref 0), none], [.int (s.1 1)])) (w' := (mk s t)) (ob := true) e_20 hk_20 3 rfl rfl ?_
  refine xu_if_ne e_20 hk_20 rfl (fun c2 => ?_) (fun c2 => ?_)
  · have h := xif_neg c2 h
    exact t_C_endStep_65 t q  _ h
  · have h := xif_pos c2 h
    refine xOK_steps (fr' := (30, [some (.ref 0), none], [.ref 0])) (w' := (mk s t)) (ob := true) e_20 hk_20 1 rfl rfl ?_
    obtain ⟨q3, e4, h⟩ := Option.bind_eq_some_iff.mp h
    refine xu_callv (q := 0) (r := none) (av := []) (st := []) (w1 := (mk q3 t)) e_20 hk_20 rfl (m_C_forget  _ _ _ e4) rfl rfl rfl rfl rfl ?_
    exact t_C_endStep_65 t q  _ h
set_option maxRecDepth 100000 in
set_option maxHeartbeats 4000000 in
theorem m_C_endStep (s t : xS) (q : (Int32 × xS)) (h : f_C_endStep  s = some q) : xMet 20 [.ref 0] (mk s t) (some q.1) (mk q.2 t) := by
  refine xMet_of hk_20 rfl rfl rfl ?_
  refine xOK_eq (fr := (0, [some (.ref 0), none], [])) rfl ?_
  unfold f_C_endStep at h
  refine xOK_steps (fr' := (2, [some (.ref 0), none], [.ref 15])) (w' := (mk s t)) (ob := true) e_20 hk_20 2 rfl rfl ?_
  obtain ⟨q5, e6, h⟩ := Option.bind_eq_some_iff.mp h
  refine xu_callv (q := 15) (r := (some q5.1)) (av := []) (st := []) (w1 := (mk q5.2 t)) e_20 hk_20 rfl (m_Bus_takeHalt  _ _ _ e6) rfl rfl rfl rfl rfl ?_
  refine xOK_steps (fr' := (7, [some (.ref 0), some (.int q5.1)], [.int (q5.2.1 1)])) (w' := (mk q5.2 t)) (ob := true) e_20 hk_20 4 rfl rfl ?_
  refine xu_if_eq e_20 hk_20 rfl (fun c7 => ?_) (fun c7 => ?_)
  · have h := xif_pos c7 h
    refine xOK_fg [1] ?_
    exact t_C_endStep_51 t q  _ h
  · have h := xif_neg c7 h
    refine xOK_steps (fr' := (16, [some (.ref 0), some (.int q5.1)], [.int q5.1])) (w' := (mk (xsc q5.2 9 ((q5.2.1 9) + (1 : Int32))) t)) (ob := true) e_20 hk_20 8 rfl rfl ?_
    refine xu_if_eq e_20 hk_20 rfl (fun c8 => ?_) (fun c8 => ?_)
    · have h := xif_pos c8 h
      refine xOK_fg [1] ?_
      exact t_C_endStep_51 t q  _ h
    · have h := xif_neg c8 h
      refine xOK_steps (fr' := (20, [some (.ref 0), some (.int q5.1)], [.int (1 : Int32), .ref 19])) (w' := (mk (xsc q5.2 9 ((q5.2.1 9) + (1 : Int32))) t)) (ob := true) e_20 hk_20 3 rfl rfl ?_
      obtain ⟨q9, e10, h⟩ := Option.bind_eq_some_iff.mp h
      refine xu_callv (q := 19) (r := (some q9.1)) (av := [.int (1 : Int32)]) (st := []) (w1 := (mk q9.2 t)) e_20 hk_20 rfl (m_Keeper_checkpoint _ _ _ _ e10) rfl rfl rfl rfl rfl ?_
      refine xu_if_eq e_20 hk_20 rfl (fun c11 => ?_) (fun c11 => ?_)
      · have h := xif_pos c11 h
        refine xOK_fg [1] ?_
        exact t_C_endStep_51 t q  _ h
      · have h := xif_neg c11 h
        refine xOK_steps (fr' := (25, [some (.ref 0), some (.int q5.1)], [])) (w' := (mk (xsc q9.2 0 (3 : Int32)) t)) (ob := true) e_20 hk_20 3 rfl rfl ?_
        refine xOK_fg [1] ?_
        exact t_C_endStep_51 t q  _ h
set_option maxRecDepth 100000 in
set_option maxHeartbeats 4000000 in
theorem t_Section_isFull_44 (t : xS) (q : (Int32 × xS)) (y0 : Int32) (s : xS) (h : f_Section_isFull_44 y0 s = some q) : xOK 42 none (xEnd 42 (some q.1) (mk q.2 t)) (21, [none], [.int y0]) (mk s t) 0 0 := by
  unfold f_Section_isFull_44 at h
  by_cases o1 : xbl y0 = true
  case neg => have h := xif_neg o1 h; cases h
  have h := xif_pos o1 h
  cases h
  exact xu_iret e_42 hk_42 rfl o1 rfl
set_option maxRecDepth 100000 in
set_option maxHeartbeats 4000000 in
theorem t_Section_isFull_39 (t : xS) (q : (Int32 × xS)) (s : xS) (h : f_Section_isFull_39  s = some q) : xOK 42 none (xEnd 42 (some q.1) (mk q.2 t)) (18, [none], []) (mk s t) 0 0 := by
  unfold f_Section_isFull_39 at h
  refine xOK_steps (fr' := (21, [none], [.int (1 : Int32)])) (w' := (mk s t)) (ob := true) e_42 hk_42 2 rfl rfl ?_
  exact t_Section_isFull_44 t q _ _ h
set_option maxRecDepth 100000 in
set_option maxHeartbeats 4000000 in
theorem m_Section_isFull (s t : xS) (q : (Int32 × xS)) (h : f_Section_isFull  s = some q) : xMet 42 [.ref 9] (mk s t) (some q.1) (mk q.2 t) := by
  refine xMet_of hk_42 rfl rfl rfl ?_
  refine xOK_eq (fr := (0, [some (.ref 9)], [])) rfl ?_
  unfold f_Section_isFull at h
  refine xOK_steps (fr' := (3, [some (.ref 9)], [.int (11 : Int32), .int (s.1 7)])) (w' := (mk s t)) (ob := true) e_42 hk_42 3 rfl rfl ?_
  refine xu_icmp_gt e_42 hk_42 rfl (fun c2 => ?_) (fun c2 => ?_)
  · have h := xif_pos c2 h
    refine xOK_fg [0] ?_
    exact t_Section_isFull_39 t q  _ h
  · have h := xif_neg c2 h
    refine xOK_steps (fr' := (8, [some (.ref 9)], [.int (4 : Int32), .int (s.1 10)])) (w' := (mk s t)) (ob := true) e_42 hk_42 4 rfl rfl ?_
    refine xu_icmp_ge e_42 hk_42 rfl (fun c3 => ?_) (fun c3 => ?_)
    · have h := xif_pos c3 h
      refine xOK_fg [0] ?_
      exact t_Section_isFull_39 t q  _ h
    · have h := xif_neg c3 h
      refine xOK_steps (fr' := (13, [some (.ref 9)], [.int (4 : Int32), .int (s.1 11)])) (w' := (mk s t)) (ob := true) e_42 hk_42 4 rfl rfl ?_
      refine xu_icmp_ge e_42 hk_42 rfl (fun c4 => ?_) (fun c4 => ?_)
      · have h := xif_pos c4 h
        refine xOK_fg [0] ?_
        exact t_Section_isFull_39 t q  _ h
      · have h := xif_neg c4 h
        refine xOK_steps (fr' := (17, [some (.ref 9)], [.int (3 : Int32), .int (s.1 8)])) (w' := (mk s t)) (ob := true) e_42 hk_42 3 rfl rfl ?_
        refine xu_icmp_lt e_42 hk_42 rfl (fun c5 => ?_) (fun c5 => ?_)
        · have h := xif_pos c5 h
          refine xOK_steps (fr' := (21, [some (.ref 9)], [.int (0 : Int32)])) (w' := (mk s t)) (ob := true) e_42 hk_42 1 rfl rfl ?_
          refine xOK_fg [0] ?_
          exact t_Section_isFull_44 t q _ _ h
        · have h := xif_neg c5 h
          refine xOK_fg [0] ?_
          exact t_Section_isFull_39 t q  _ h
set_option maxRecDepth 100000 in
set_option maxHeartbeats 4000000 in
theorem t_C_beginStep_39 (t : xS) (q : (Int32 × xS)) (y0 : Int32) (s : xS) (h : f_C_beginStep_39 y0 s = some q) : xOK 19 none (xEnd 19 (some q.1) (mk q.2 t)) (19, [none], [.int y0]) (mk s t) 0 0 := by
  unfold f_C_beginStep_39 at h
  by_cases o1 : xbl y0 = true
  case neg => have h := xif_neg o1 h; cases h
  have h := xif_pos o1 h
  cases h
  exact xu_iret e_19 hk_19 rfl o1 rfl
set_option maxRecDepth 100000 in
set_option maxHeartbeats 4000000 in
theorem t_C_beginStep_34 (t : xS) (q : (Int32 × xS)) (s : xS) (h : f_C_beginStep_34  s = some q) : xOK 19 none (xEnd 19 (some q.1) (mk q.2 t)) (16, [none], []) (mk s t) 0 0 := by
  unfold f_C_beginStep_34 at h
  refine xOK_steps (fr' := (19, [none], [.int (1 : Int32)])) (w' := (mk s t)) (ob := true) e_19 hk_19 2 rfl rfl ?_
  exact t_C_beginStep_39 t q _ _ h
set_option maxRecDepth 100000 in
set_option maxHeartbeats 4000000 in
theorem m_C_beginStep (s t : xS) (q : (Int32 × xS)) (h : f_C_beginStep  s = some q) : xMet 19 [.ref 0] (mk s t) (some q.1) (mk q.2 t) := by
  refine xMet_of hk_19 rfl rfl rfl ?_
  refine xOK_eq (fr := (0, [some (.ref 0)], [])) rfl ?_
  unfold f_C_beginStep at h
  refine xOK_steps (fr' := (3, [some (.ref 0)], [.int (1 : Int32), .ref 1])) (w' := (mk s t)) (ob := true) e_19 hk_19 3 rfl rfl ?_
  obtain ⟨q2, e3, h⟩ := Option.bind_eq_some_iff.mp h
  refine xu_callv (q := 1) (r := (some q2.1)) (av := [.int (1 : Int32)]) (st := []) (w1 := (mk q2.2 t)) e_19 hk_19 rfl (m_Power_allows _ _ _ _ e3) rfl rfl rfl rfl rfl ?_
  refine xu_if_ne e_19 hk_19 rfl (fun c4 => ?_) (fun c4 => ?_)
  · have h := xif_neg c4 h
    refine xOK_steps (fr' := (9, [some (.ref 0)], [.ref 9])) (w' := (mk q2.2 t)) (ob := true) e_19 hk_19 2 rfl rfl ?_
    obtain ⟨q5, e6, h⟩ := Option.bind_eq_some_iff.mp h
    refine xu_callv (q := 9) (r := (some q5.1)) (av := []) (st := []) (w1 := (mk q5.2 t)) e_19 hk_19 rfl (m_Section_isFull  _ _ _ e6) rfl rfl rfl rfl rfl ?_
    refine xu_if_eq e_19 hk_19 rfl (fun c7 => ?_) (fun c7 => ?_)
    · have h := xif_pos c7 h
      refine xOK_fg [0] ?_
      exact t_C_beginStep_34 t q  _ h
    · have h := xif_neg c7 h
      refine xOK_steps (fr' := (14, [some (.ref 0)], [.int (0 : Int32), .ref 19])) (w' := (mk q5.2 t)) (ob := true) e_19 hk_19 3 rfl rfl ?_
      obtain ⟨q8, e9, h⟩ := Option.bind_eq_some_iff.mp h
      refine xu_callv (q := 19) (r := (some q8.1)) (av := [.int (0 : Int32)]) (st := []) (w1 := (mk q8.2 t)) e_19 hk_19 rfl (m_Keeper_checkpoint _ _ _ _ e9) rfl rfl rfl rfl rfl ?_
      refine xu_if_eq e_19 hk_19 rfl (fun c10 => ?_) (fun c10 => ?_)
      · have h := xif_pos c10 h
        refine xOK_steps (fr' := (19, [some (.ref 0)], [.int (0 : Int32)])) (w' := (mk q8.2 t)) (ob := true) e_19 hk_19 1 rfl rfl ?_
        refine xOK_fg [0] ?_
        exact t_C_beginStep_39 t q _ _ h
      · have h := xif_neg c10 h
        refine xOK_fg [0] ?_
        exact t_C_beginStep_34 t q  _ h
  · have h := xif_pos c4 h
    refine xOK_steps (fr' := (6, [some (.ref 0)], [.int (0 : Int32)])) (w' := (mk q2.2 t)) (ob := true) e_19 hk_19 1 rfl rfl ?_
    cases h
    exact xu_iret e_19 hk_19 rfl rfl rfl
set_option maxRecDepth 100000 in
set_option maxHeartbeats 4000000 in
theorem t_Section_noteLoad_26 (t : xS) (q : xS) (s : xS) (h : f_Section_noteLoad_26  s = some q) : xOK 43 none (xEnd 43 none (mk q t)) (16, [none, none], []) (mk s t) 0 0 := by
  unfold f_Section_noteLoad_26 at h
  cases h
  exact xu_vret e_43 hk_43 rfl rfl
set_option maxRecDepth 100000 in
set_option maxHeartbeats 4000000 in
theorem m_Section_noteLoad (x1 : Int32) (s t : xS) (q : xS) (h : f_Section_noteLoad x1 s = some q) : xMet 43 [.ref 9, .int x1] (mk s t) none (mk q t) := by
  refine xMet_of hk_43 rfl rfl rfl ?_
  refine xOK_eq (fr := (0, [some (.ref 9), some (.int x1)], [])) rfl ?_
  unfold f_Section_noteLoad at h
  by_cases o1 : xin x1 128 = true
  case neg => have h := xif_neg o1 h; cases h
  have h := xif_pos o1 h
  refine xOK_steps (fr' := (4, [some (.ref 9), some (.int x1)], [.int ((s.2 5) (x1).toNatClampNeg)])) (w' := (mk s t)) (ob := xin x1 128 && (true)) e_43 hk_43 4 rfl (xand o1 rfl) ?_
  refine xu_if_ne e_43 hk_43 rfl (fun c2 => ?_) (fun c2 => ?_)
  · have h := xif_neg c2 h
    refine xOK_fg [0, 1] ?_
    exact t_Section_noteLoad_26 t q  _ h
  · have h := xif_pos c2 h
    by_cases o3 : xin x1 128 = true
    case neg => have h := xif_neg o3 h; cases h
    have h := xif_pos o3 h
    refine xOK_steps (fr' := (16, [some (.ref 9), some (.int x1)], [])) (w' := (mk (xsc (xsa s 5 (x1).toNatClampNeg (1 : Int32)) 7 ((s.1 7) + (1 : Int32))) t)) (ob := xin x1 128 && (true)) e_43 hk_43 11 rfl (xand o3 rfl) ?_
    refine xOK_fg [0, 1] ?_
    exact t_Section_noteLoad_26 t q  _ h
set_option maxRecDepth 100000 in
set_option maxHeartbeats 4000000 in
theorem t_Held_valueOf_2 (t : xS) (q : (Int32 × xS)) : ∀ (n : Nat), ∀ (x1 x2 x3 : Int32) (s : xS), f_Held_valueOf_2 n x1 x2 x3 s = some q → xOK 37 none (xEnd 37 (some q.1) (mk q.2 t)) (2, [some (.ref 11), some (.int x1), some (.int x2), some (.int x3)], []) (mk s t) 0 0 := by
  intro n
  induction n with
  | zero => intro x1 x2 x3 s h; cases h
  | succ n ih =>
    intro x1 x2 x3 s h
    unfold f_Held_valueOf_2 at h
    refine xOK_steps (fr' := (5, [some (.ref 11), some (.int x1), some (.int x2), some (.int x3)], [.int (s.1 10), .int x3])) (w' := (mk s t)) (ob := true) e_37 hk_37 3 rfl rfl ?_
    refine xu_icmp_ge e_37 hk_37 rfl (fun c1 => ?_) (fun c1 => ?_)
    · have h := xif_pos c1 h
      refine xOK_steps (fr' := (20, [some (.ref 11), some (.int x1), some (.int x2), some (.int x3)], [.int x2])) (w' := (mk s t)) (ob := true) e_37 hk_37 1 rfl rfl ?_
      cases h
      exact xu_iret e_37 hk_37 rfl rfl rfl
    · have h := xif_neg c1 h
      by_cases o2 : xin x3 4 = true
      case neg => have h := xif_neg o2 h; cases h
      have h := xif_pos o2 h
      refine xOK_steps (fr' := (11, [some (.ref 11), some (.int x1), some (.int x2), some (.int x3)], [.int x1, .int ((s.2 6) (x3).toNatClampNeg)])) (w' := (mk s t)) (ob := xin x3 4 && (true)) e_37 hk_37 5 rfl (xand o2 rfl) ?_
      refine xu_icmp_ne e_37 hk_37 rfl (fun c3 => ?_) (fun c3 => ?_)
      · have h := xif_neg c3 h
        refine xOK_steps (fr' := (2, [some (.ref 11), some (.int x1), some (.int x2), some (.int (x3 + (1 : Int32)))], [])) (w' := (mk s t)) (ob := true) e_37 hk_37 2 rfl rfl ?_
        exact ih _ _ _ _ h
      · have h := xif_pos c3 h
        by_cases o4 : xin x3 4 = true
        case neg => have h := xif_neg o4 h; cases h
        have h := xif_pos o4 h
        refine xOK_steps (fr' := (16, [some (.ref 11), some (.int x1), some (.int x2), some (.int x3)], [.int ((s.2 7) (x3).toNatClampNeg)])) (w' := (mk s t)) (ob := xin x3 4 && (true)) e_37 hk_37 4 rfl (xand o4 rfl) ?_
        cases h
        exact xu_iret e_37 hk_37 rfl rfl rfl
set_option maxRecDepth 100000 in
set_option maxHeartbeats 4000000 in
theorem m_Held_valueOf (x1 x2 : Int32) (s t : xS) (q : (Int32 × xS)) (h : f_Held_valueOf x1 x2 s = some q) : xMet 37 [.ref 11, .int x1, .int x2] (mk s t) (some q.1) (mk q.2 t) := by
  refine xMet_of hk_37 rfl rfl rfl ?_
  refine xOK_eq (fr := (0, [some (.ref 11), some (.int x1), some (.int x2), none], [])) rfl ?_
  unfold f_Held_valueOf at h
  refine xOK_steps (fr' := (2, [some (.ref 11), some (.int x1), some (.int x2), some (.int (0 : Int32))], [])) (w' := (mk s t)) (ob := true) e_37 hk_37 2 rfl rfl ?_
  exact t_Held_valueOf_2 t q _ _ _ _ _ h
set_option maxRecDepth 100000 in
set_option maxHeartbeats 4000000 in
theorem t_Bus_fetchWord_27 (t : xS) (q : (Int32 × xS)) (y0 : Int32) (s : xS) (h : f_Bus_fetchWord_27 y0 s = some q) : xOK 47 none (xEnd 47 (some q.1) (mk q.2 t)) (13, [none, none, none], [.int y0]) (mk s t) 0 0 := by
  unfold f_Bus_fetchWord_27 at h
  cases h
  exact xu_iret e_47 hk_47 rfl rfl rfl
set_option maxRecDepth 100000 in
set_option maxHeartbeats 4000000 in
theorem m_Bus_fetchWord (x1 : Int32) (s t : xS) (q : (Int32 × xS)) (h : f_Bus_fetchWord x1 s = some q) : xMet 47 [.ref 15, .int x1] (mk s t) (some q.1) (mk q.2 t) := by
  refine xMet_of hk_47 rfl rfl rfl ?_
  refine xOK_eq (fr := (0, [some (.ref 15), some (.int x1), none], [])) rfl ?_
  unfold f_Bus_fetchWord at h
  refine xOK_steps (fr' := (1, [some (.ref 15), some (.int x1), none], [.int x1])) (w' := (mk s t)) (ob := true) e_47 hk_47 1 rfl rfl ?_
  obtain ⟨q1, e2, h⟩ := Option.bind_eq_some_iff.mp h
  refine xu_calls (r := (some q1)) (av := [.int x1]) (st := []) (w1 := (mk s t)) e_47 hk_47 rfl rfl (m_Bus_inFram _ _ _ _ e2) rfl rfl rfl rfl ?_
  refine xu_if_ne e_47 hk_47 rfl (fun c3 => ?_) (fun c3 => ?_)
  · have h := xif_neg c3 h
    refine xOK_steps (fr' := (15, [some (.ref 15), some (.int x1), none], [.int x1])) (w' := (mk s t)) (ob := true) e_47 hk_47 1 rfl rfl ?_
    obtain ⟨q4, e5, h⟩ := Option.bind_eq_some_iff.mp h
    refine xu_calls (r := (some q4)) (av := [.int x1]) (st := []) (w1 := (mk s t)) e_47 hk_47 rfl rfl (m_Bus_framWord _ _ _ _ e5) rfl rfl rfl rfl ?_
    refine xOK_steps (fr' := (20, [some (.ref 15), some (.int x1), some (.int q4)], [.int q4, .ref 9])) (w' := (mk s t)) (ob := true) e_47 hk_47 4 rfl rfl ?_
    obtain ⟨q6, e7, h⟩ := Option.bind_eq_some_iff.mp h
    refine xu_callv (q := 9) (r := none) (av := [.int q4]) (st := []) (w1 := (mk q6 t)) e_47 hk_47 rfl (m_Section_noteLoad _ _ _ _ e7) rfl rfl rfl rfl rfl ?_
    by_cases o8 : xin q4 128 = true
    case neg => have h := xif_neg o8 h; cases h
    have h := xif_pos o8 h
    refine xOK_steps (fr' := (30, [some (.ref 15), some (.int x1), some (.int q4)], [.int ((q6.2 1) (q4).toNatClampNeg), .int q4, .ref 11])) (w' := (mk q6 t)) (ob := xin q4 128 && (true)) e_47 hk_47 9 rfl (xand o8 rfl) ?_
    obtain ⟨q9, e10, h⟩ := Option.bind_eq_some_iff.mp h
    refine xu_callv (q := 11) (r := (some q9.1)) (av := [.int q4, .int ((q6.2 1) (q4).toNatClampNeg)]) (st := []) (w1 := (mk q9.2 t)) e_47 hk_47 rfl (m_Held_valueOf _ _ _ _ _ e10) rfl rfl rfl rfl rfl ?_
    cases h
    exact xu_iret e_47 hk_47 rfl rfl rfl
  · have h := xif_pos c3 h
    refine xOK_steps (fr' := (4, [some (.ref 15), some (.int x1), none], [.int x1])) (w' := (mk s t)) (ob := true) e_47 hk_47 1 rfl rfl ?_
    obtain ⟨q11, e12, h⟩ := Option.bind_eq_some_iff.mp h
    refine xu_calls (r := (some q11)) (av := [.int x1]) (st := []) (w1 := (mk s t)) e_47 hk_47 rfl rfl (m_Bus_inSram _ _ _ _ e12) rfl rfl rfl rfl ?_
    refine xu_if_eq e_47 hk_47 rfl (fun c13 => ?_) (fun c13 => ?_)
    · have h := xif_pos c13 h
      refine xOK_steps (fr' := (13, [some (.ref 15), some (.int x1), none], [.int (0 : Int32)])) (w' := (mk s t)) (ob := true) e_47 hk_47 1 rfl rfl ?_
      refine xOK_fg [0, 1] ?_
      exact t_Bus_fetchWord_27 t q _ _ h
    · have h := xif_neg c13 h
      refine xOK_steps (fr' := (9, [some (.ref 15), some (.int x1), none], [.int x1, .ref 16])) (w' := (mk s t)) (ob := true) e_47 hk_47 3 rfl rfl ?_
      obtain ⟨q14, e15, h⟩ := Option.bind_eq_some_iff.mp h
      refine xu_calls (r := (some q14)) (av := [.int x1]) (st := [.ref 16]) (w1 := (mk s t)) e_47 hk_47 rfl rfl (m_Bus_sramWord _ _ _ _ e15) rfl rfl rfl rfl ?_
      by_cases o16 : xin q14 16 = true
      case neg => have h := xif_neg o16 h; cases h
      have h := xif_pos o16 h
      refine xOK_steps (fr' := (13, [some (.ref 15), some (.int x1), none], [.int ((s.2 9) (q14).toNatClampNeg)])) (w' := (mk s t)) (ob := xin q14 16 && (true)) e_47 hk_47 2 rfl (xand o16 rfl) ?_
      refine xOK_fg [0, 1] ?_
      exact t_Bus_fetchWord_27 t q _ _ h
set_option maxRecDepth 100000 in
set_option maxHeartbeats 4000000 in
theorem t_Processor_setRegister_56 (t : xS) (q : xS) (s : xS) (h : f_Processor_setRegister_56  s = some q) : xOK 81 none (xEnd 81 none (mk q t)) (34, [none, none, none], []) (mk s t) 0 0 := by
  unfold f_Processor_setRegister_56 at h
  cases h
  exact xu_vret e_81 hk_81 rfl rfl
set_option maxRecDepth 100000 in
set_option maxHeartbeats 4000000 in
theorem t_Processor_setRegister_9 (t : xS) (q : xS) (x1 x2 : Int32) (s : xS) (h : f_Processor_setRegister_9 x1 x2 s = some q) : xOK 81 none (xEnd 81 none (mk q t)) (5, [some (.ref 17), some (.int x1), some (.int x2)], []) (mk s t) 0 0 := by
  unfold f_Processor_setRegister_9 at h
  by_cases o1 : xin x1 16 = true
  case neg => have h := xif_neg o1 h; cases h
  have h := xif_pos o1 h
  refine xOK_steps (fr' := (34, [some (.ref 17), some (.int x1), some (.int x2)], [])) (w' := (mk (xsa s 10 (x1).toNatClampNeg (x2 &&& (65534 : Int32))) t)) (ob := xin x1 16 && (true)) e_81 hk_81 8 rfl (xand o1 rfl) ?_
  refine xOK_fg [0, 1, 2] ?_
  exact t_Processor_setRegister_56 t q  _ h
set_option maxRecDepth 100000 in
set_option maxHeartbeats 4000000 in
theorem m_Processor_setRegister (x1 x2 : Int32) (s t : xS) (q : xS) (h : f_Processor_setRegister x1 x2 s = some q) : xMet 81 [.ref 17, .int x1, .int x2] (mk s t) none (mk q t) := by
  refine xMet_of hk_81 rfl rfl rfl ?_
  refine xOK_eq (fr := (0, [some (.ref 17), some (.int x1), some (.int x2)], [])) rfl ?_
  unfold f_Processor_setRegister at h
  refine xOK_steps (fr' := (1, [some (.ref 17), some (.int x1), some (.int x2)], [.int x1])) (w' := (mk s t)) (ob := true) e_81 hk_81 1 rfl rfl ?_
  refine xu_if_eq e_81 hk_81 rfl (fun c2 => ?_) (fun c2 => ?_)
  · have h := xif_pos c2 h
    exact t_Processor_setRegister_9 t q _ _ _ h
  · have h := xif_neg c2 h
    refine xOK_steps (fr' := (4, [some (.ref 17), some (.int x1), some (.int x2)], [.int (1 : Int32), .int x1])) (w' := (mk s t)) (ob := true) e_81 hk_81 2 rfl rfl ?_
    refine xu_icmp_ne e_81 hk_81 rfl (fun c3 => ?_) (fun c3 => ?_)
    · have h := xif_neg c3 h
      refine xOK_steps (fr' := (15, [some (.ref 17), some (.int x1), some (.int x2)], [.int (2 : Int32), .int x1])) (w' := (mk s t)) (ob := true) e_81 hk_81 2 rfl rfl ?_
      refine xu_icmp_ne e_81 hk_81 rfl (fun c4 => ?_) (fun c4 => ?_)
      · have h := xif_neg c4 h
        refine xOK_steps (fr' := (26, [some (.ref 17), some (.int x1), some (.int x2)], [.int (3 : Int32), .int x1])) (w' := (mk s t)) (ob := true) e_81 hk_81 2 rfl rfl ?_
        refine xu_icmp_eq e_81 hk_81 rfl (fun c5 => ?_) (fun c5 => ?_)
        · have h := xif_pos c5 h
          refine xOK_fg [0, 1, 2] ?_
          exact t_Processor_setRegister_56 t q  _ h
        · have h := xif_neg c5 h
          by_cases o6 : xin x1 16 = true
          case neg => have h := xif_neg o6 h; cases h
          have h := xif_pos o6 h
          refine xOK_steps (fr' := (34, [some (.ref 17), some (.int x1), some (.int x2)], [])) (w' := (mk (xsa s 10 (x1).toNatClampNeg (x2 &&& (65535 : Int32))) t)) (ob := xin x1 16 && (true)) e_81 hk_81 7 rfl (xand o6 rfl) ?_
          refine xOK_fg [0, 1, 2] ?_
          exact t_Processor_setRegister_56 t q  _ h
      · have h := xif_pos c4 h
        by_cases o7 : xin x1 16 = true
        case neg => have h := xif_neg o7 h; cases h
        have h := xif_pos o7 h
        refine xOK_steps (fr' := (34, [some (.ref 17), some (.int x1), some (.int x2)], [])) (w' := (mk (xsa s 10 (x1).toNatClampNeg (x2 &&& (263 : Int32))) t)) (ob := xin x1 16 && (true)) e_81 hk_81 8 rfl (xand o7 rfl) ?_
        refine xOK_fg [0, 1, 2] ?_
        exact t_Processor_setRegister_56 t q  _ h
    · have h := xif_pos c3 h
      exact t_Processor_setRegister_9 t q _ _ _ h
set_option maxRecDepth 100000 in
set_option maxHeartbeats 4000000 in
theorem m_Processor_nextWord (s t : xS) (q : (Int32 × xS)) (h : f_Processor_nextWord  s = some q) : xMet 78 [.ref 17] (mk s t) (some q.1) (mk q.2 t) := by
  refine xMet_of hk_78 rfl rfl rfl ?_
  refine xOK_eq (fr := (0, [some (.ref 17), none], [])) rfl ?_
  unfold f_Processor_nextWord at h
  refine xOK_steps (fr' := (6, [some (.ref 17), none], [.int ((s.2 10) 0), .ref 15])) (w' := (mk s t)) (ob := true) e_78 hk_78 6 rfl rfl ?_
  obtain ⟨q1, e2, h⟩ := Option.bind_eq_some_iff.mp h
  refine xu_callv (q := 15) (r := (some q1.1)) (av := [.int ((s.2 10) 0)]) (st := []) (w1 := (mk q1.2 t)) e_78 hk_78 rfl (m_Bus_fetchWord _ _ _ _ e2) rfl rfl rfl rfl rfl ?_
  refine xOK_steps (fr' := (16, [some (.ref 17), some (.int q1.1)], [.int (((q1.2.2 10) 0) + (2 : Int32)), .int (0 : Int32), .ref 17])) (w' := (mk q1.2 t)) (ob := true) e_78 hk_78 9 rfl rfl ?_
  obtain ⟨q3, e4, h⟩ := Option.bind_eq_some_iff.mp h
  refine xu_callv (q := 17) (r := none) (av := [.int (0 : Int32), .int (((q1.2.2 10) 0) + (2 : Int32))]) (st := []) (w1 := (mk q3 t)) e_78 hk_78 rfl (m_Processor_setRegister _ _ _ _ _ e4) rfl rfl rfl rfl rfl ?_
  refine xOK_steps (fr' := (18, [some (.ref 17), some (.int q1.1)], [.int q1.1])) (w' := (mk q3 t)) (ob := true) e_78 hk_78 1 rfl rfl ?_
  cases h
  exact xu_iret e_78 hk_78 rfl rfl rfl
set_option maxRecDepth 100000 in
set_option maxHeartbeats 4000000 in
theorem m_Processor_find (x1 x2 : Int32) (s t : xS) (q : xS) (h : f_Processor_find x1 x2 s = some q) : xMet 75 [.ref 17, .int x1, .int x2] (mk s t) none (mk q t) := by
  refine xMet_of hk_75 rfl rfl rfl ?_
  refine xOK_eq (fr := (0, [some (.ref 17), some (.int x1), some (.int x2)], [])) rfl ?_
  unfold f_Processor_find at h
  refine xOK_steps (fr' := (6, [some (.ref 17), some (.int x1), some (.int x2)], [])) (w' := (mk (xsc (xsc s 14 x1) 15 x2) t)) (ob := true) e_75 hk_75 6 rfl rfl ?_
  cases h
  exact xu_vret e_75 hk_75 rfl rfl
set_option maxRecDepth 100000 in
set_option maxHeartbeats 4000000 in
theorem t_Processor_base_15 (t : xS) (q : (Int32 × xS)) (y0 : Int32) (s : xS) (h : f_Processor_base_15 y0 s = some q) : xOK 76 none (xEnd 76 (some q.1) (mk q.2 t)) (9, [none, none], [.int y0]) (mk s t) 0 0 := by
  unfold f_Processor_base_15 at h
  cases h
  exact xu_iret e_76 hk_76 rfl rfl rfl
set_option maxRecDepth 100000 in
set_option maxHeartbeats 4000000 in
theorem m_Processor_base (x1 : Int32) (s t : xS) (q : (Int32 × xS)) (h : f_Processor_base x1 s = some q) : xMet 76 [.ref 17, .int x1] (mk s t) (some q.1) (mk q.2 t) := by
  refine xMet_of hk_76 rfl rfl rfl ?_
  refine xOK_eq (fr := (0, [some (.ref 17), some (.int x1)], [])) rfl ?_
  unfold f_Processor_base at h
  refine xOK_steps (fr' := (2, [some (.ref 17), some (.int x1)], [.int (2 : Int32), .int x1])) (w' := (mk s t)) (ob := true) e_76 hk_76 2 rfl rfl ?_
  refine xu_icmp_ne e_76 hk_76 rfl (fun c1 => ?_) (fun c1 => ?_)
  · have h := xif_neg c1 h
    by_cases o2 : xin x1 16 = true
    case neg => have h := xif_neg o2 h; cases h
    have h := xif_pos o2 h
    refine xOK_steps (fr' := (9, [some (.ref 17), some (.int x1)], [.int ((s.2 10) (x1).toNatClampNeg)])) (w' := (mk s t)) (ob := xin x1 16 && (true)) e_76 hk_76 4 rfl (xand o2 rfl) ?_
    refine xOK_fg [0, 1] ?_
    exact t_Processor_base_15 t q _ _ h
  · have h := xif_pos c1 h
    refine xOK_steps (fr' := (9, [some (.ref 17), some (.int x1)], [.int (0 : Int32)])) (w' := (mk s t)) (ob := true) e_76 hk_76 2 rfl rfl ?_
    refine xOK_fg [0, 1] ?_
    exact t_Processor_base_15 t q _ _ h
set_option maxRecDepth 100000 in
set_option maxHeartbeats 4000000 in
theorem t_Processor_findSource_158 (t : xS) (q : xS) (s : xS) (h : f_Processor_findSource_158  s = some q) : xOK 73 none (xEnd 73 none (mk q t)) (89, [none, none, none], []) (mk s t) 0 0 := by
  unfold f_Processor_findSource_158 at h
  cases h
  exact xu_vret e_73 hk_73 rfl rfl
set_option maxRecDepth 100000 in
set_option maxHeartbeats 4000000 in
theorem t_Processor_findSource_154 (t : xS) (q : xS) (y1 y2 y3 : Int32) (s : xS) (h : f_Processor_findSource_154 y1 y2 y3 s = some q) : xOK 73 none (xEnd 73 none (mk q t)) (87, [none, none, none], [.int y3, .int y2, .int y1, .ref 17]) (mk s t) 0 0 := by
  unfold f_Processor_findSource_154 at h
  refine xOK_steps (fr' := (88, [none, none, none], [.int (y2 + y3), .int y1, .ref 17])) (w' := (mk s t)) (ob := true) e_73 hk_73 1 rfl rfl ?_
  obtain ⟨q1, e2, h⟩ := Option.bind_eq_some_iff.mp h
  refine xu_callv (q := 17) (r := none) (av := [.int y1, .int (y2 + y3)]) (st := []) (w1 := (mk q1 t)) e_73 hk_73 rfl (m_Processor_setRegister _ _ _ _ _ e2) rfl rfl rfl rfl rfl ?_
  exact t_Processor_findSource_158 t q  _ h
set_option maxRecDepth 100000 in
set_option maxHeartbeats 4000000 in
theorem t_Processor_findSource_153 (t : xS) (q : xS) (y1 y2 : Int32) (s : xS) (h : f_Processor_findSource_153 y1 y2 s = some q) : xOK 73 none (xEnd 73 none (mk q t)) (86, [none, none, none], [.int y2, .int y1, .ref 17]) (mk s t) 0 0 := by
  unfold f_Processor_findSource_153 at h
  refine xOK_steps (fr' := (87, [none, none, none], [.int (2 : Int32), .int y2, .int y1, .ref 17])) (w' := (mk s t)) (ob := true) e_73 hk_73 1 rfl rfl ?_
  exact t_Processor_findSource_154 t q _ _ _ _ h
set_option maxRecDepth 100000 in
set_option maxHeartbeats 4000000 in
theorem t_Processor_findSource_113 (t : xS) (q : xS) (x1 x2 : Int32) (s : xS) (h : f_Processor_findSource_113 x1 x2 s = some q) : xOK 73 none (xEnd 73 none (mk q t)) (62, [some (.ref 17), some (.int x1), some (.int x2)], []) (mk s t) 0 0 := by
  unfold f_Processor_findSource_113 at h
  by_cases o3 : xin x1 16 = true
  case neg => have h := xif_neg o3 h; cases h
  have h := xif_pos o3 h
  refine xOK_steps (fr' := (68, [some (.ref 17), some (.int x1), some (.int x2)], [.int ((s.2 10) (x1).toNatClampNeg), .int (2 : Int32), .ref 17])) (w' := (mk s t)) (ob := xin x1 16 && (true)) e_73 hk_73 6 rfl (xand o3 rfl) ?_
  obtain ⟨q4, e5, h⟩ := Option.bind_eq_some_iff.mp h
  refine xu_callv (q := 17) (r := none) (av := [.int (2 : Int32), .int ((s.2 10) (x1).toNatClampNeg)]) (st := []) (w1 := (mk q4 t)) e_73 hk_73 rfl (m_Processor_find _ _ _ _ _ e5) rfl rfl rfl rfl rfl ?_
  refine xOK_steps (fr' := (71, [some (.ref 17), some (.int x1), some (.int x2)], [.int (3 : Int32), .int x2])) (w' := (mk q4 t)) (ob := true) e_73 hk_73 2 rfl rfl ?_
  refine xu_icmp_ne e_73 hk_73 rfl (fun c6 => ?_) (fun c6 => ?_)
  · have h := xif_neg c6 h
    refine xOK_fg [0, 1, 2] ?_
    exact t_Processor_findSource_158 t q  _ h
  · have h := xif_pos c6 h
    by_cases o7 : xin x1 16 = true
    case neg => have h := xif_neg o7 h; cases h
    have h := xif_pos o7 h
    refine xOK_steps (fr' := (80, [some (.ref 17), some (.int x1), some (.int x2)], [.int (q4.1 13), .int ((q4.2 10) (x1).toNatClampNeg), .int x1, .ref 17])) (w' := (mk q4 t)) (ob := xin x1 16 && (true)) e_73 hk_73 8 rfl (xand o7 rfl) ?_
    refine xu_if_eq e_73 hk_73 rfl (fun c8 => ?_) (fun c8 => ?_)
    · have h := xif_pos c8 h
      refine xOK_fg [0, 1, 2] ?_
      exact t_Processor_findSource_153 t q _ _ _ h
    · have h := xif_neg c8 h
      refine xOK_steps (fr' := (83, [some (.ref 17), some (.int x1), some (.int x2)], [.int (1 : Int32), .int x1, .int ((q4.2 10) (x1).toNatClampNeg), .int x1, .ref 17])) (w' := (mk q4 t)) (ob := true) e_73 hk_73 2 rfl rfl ?_
      refine xu_icmp_eq e_73 hk_73 rfl (fun c9 => ?_) (fun c9 => ?_)
      · have h := xif_pos c9 h
        refine xOK_fg [0, 1, 2] ?_
        exact t_Processor_findSource_153 t q _ _ _ h
      · have h := xif_neg c9 h
        refine xOK_steps (fr' := (87, [some (.ref 17), some (.int x1), some (.int x2)], [.int (1 : Int32), .int ((q4.2 10) (x1).toNatClampNeg), .int x1, .ref 17])) (w' := (mk q4 t)) (ob := true) e_73 hk_73 2 rfl rfl ?_
        refine xOK_fg [0, 1, 2] ?_
        exact t_Processor_findSource_154 t q _ _ _ _ h
set_option maxRecDepth 100000 in
set_option maxHeartbeats 4000000 in
theorem t_Processor_findSource_53 (t : xS) (q : xS) (x1 x2 : Int32) (s : xS) (h : f_Processor_findSource_53 x1 x2 s = some q) : xOK 73 none (xEnd 73 none (mk q t)) (29, [some (.ref 17), some (.int x1), some (.int x2)], []) (mk s t) 0 0 := by
  unfold f_Processor_findSource_53 at h
  refine xOK_steps (fr' := (30, [some (.ref 17), some (.int x1), some (.int x2)], [.int x2])) (w' := (mk s t)) (ob := true) e_73 hk_73 1 rfl rfl ?_
  refine xu_if_ne e_73 hk_73 rfl (fun c10 => ?_) (fun c10 => ?_)
  · have h := xif_neg c10 h
    refine xOK_steps (fr' := (38, [some (.ref 17), some (.int x1), some (.int x2)], [.int (1 : Int32), .int x2])) (w' := (mk s t)) (ob := true) e_73 hk_73 2 rfl rfl ?_
    refine xu_icmp_ne e_73 hk_73 rfl (fun c11 => ?_) (fun c11 => ?_)
    · have h := xif_neg c11 h
      refine xOK_steps (fr' := (52, [some (.ref 17), some (.int x1), some (.int x2)], [.int x1])) (w' := (mk s t)) (ob := true) e_73 hk_73 1 rfl rfl ?_
      refine xu_if_ne e_73 hk_73 rfl (fun c12 => ?_) (fun c12 => ?_)
      · have h := xif_neg c12 h
        exact t_Processor_findSource_113 t q _ _ _ h
      · have h := xif_pos c12 h
        refine xOK_steps (fr' := (55, [some (.ref 17), some (.int x1), some (.int x2)], [.int (3 : Int32), .int x2])) (w' := (mk s t)) (ob := true) e_73 hk_73 2 rfl rfl ?_
        refine xu_icmp_ne e_73 hk_73 rfl (fun c13 => ?_) (fun c13 => ?_)
        · have h := xif_neg c13 h
          exact t_Processor_findSource_113 t q _ _ _ h
        · have h := xif_pos c13 h
          refine xOK_steps (fr' := (59, [some (.ref 17), some (.int x1), some (.int x2)], [.ref 17, .int (0 : Int32), .ref 17])) (w' := (mk s t)) (ob := true) e_73 hk_73 3 rfl rfl ?_
          obtain ⟨q14, e15, h⟩ := Option.bind_eq_some_iff.mp h
          refine xu_callv (q := 17) (r := (some q14.1)) (av := []) (st := [.int (0 : Int32), .ref 17]) (w1 := (mk q14.2 t)) e_73 hk_73 rfl (m_Processor_nextWord  _ _ _ e15) rfl rfl rfl rfl rfl ?_
          obtain ⟨q16, e17, h⟩ := Option.bind_eq_some_iff.mp h
          refine xu_callv (q := 17) (r := none) (av := [.int (0 : Int32), .int q14.1]) (st := []) (w1 := (mk q16 t)) e_73 hk_73 rfl (m_Processor_find _ _ _ _ _ e17) rfl rfl rfl rfl rfl ?_
          refine xOK_steps (fr' := (89, [some (.ref 17), some (.int x1), some (.int x2)], [])) (w' := (mk q16 t)) (ob := true) e_73 hk_73 1 rfl rfl ?_
          refine xOK_fg [0, 1, 2] ?_
          exact t_Processor_findSource_158 t q  _ h
    · have h := xif_pos c11 h
      refine xOK_steps (fr' := (43, [some (.ref 17), some (.int x1), some (.int x2)], [.int x1, .ref 17, .int (2 : Int32), .ref 17])) (w' := (mk s t)) (ob := true) e_73 hk_73 4 rfl rfl ?_
      obtain ⟨q18, e19, h⟩ := Option.bind_eq_some_iff.mp h
      refine xu_callv (q := 17) (r := (some q18.1)) (av := [.int x1]) (st := [.int (2 : Int32), .ref 17]) (w1 := (mk q18.2 t)) e_73 hk_73 rfl (m_Processor_base _ _ _ _ e19) rfl rfl rfl rfl rfl ?_
      refine xOK_steps (fr' := (45, [some (.ref 17), some (.int x1), some (.int x2)], [.ref 17, .int q18.1, .int (2 : Int32), .ref 17])) (w' := (mk q18.2 t)) (ob := true) e_73 hk_73 1 rfl rfl ?_
      obtain ⟨q20, e21, h⟩ := Option.bind_eq_some_iff.mp h
      refine xu_callv (q := 17) (r := (some q20.1)) (av := []) (st := [.int q18.1, .int (2 : Int32), .ref 17]) (w1 := (mk q20.2 t)) e_73 hk_73 rfl (m_Processor_nextWord  _ _ _ e21) rfl rfl rfl rfl rfl ?_
      refine xOK_steps (fr' := (49, [some (.ref 17), some (.int x1), some (.int x2)], [.int ((q18.1 + q20.1) &&& (65535 : Int32)), .int (2 : Int32), .ref 17])) (w' := (mk q20.2 t)) (ob := true) e_73 hk_73 3 rfl rfl ?_
      obtain ⟨q22, e23, h⟩ := Option.bind_eq_some_iff.mp h
      refine xu_callv (q := 17) (r := none) (av := [.int (2 : Int32), .int ((q18.1 + q20.1) &&& (65535 : Int32))]) (st := []) (w1 := (mk q22 t)) e_73 hk_73 rfl (m_Processor_find _ _ _ _ _ e23) rfl rfl rfl rfl rfl ?_
      refine xOK_steps (fr' := (89, [some (.ref 17), some (.int x1), some (.int x2)], [])) (w' := (mk q22 t)) (ob := true) e_73 hk_73 1 rfl rfl ?_
      refine xOK_fg [0, 1, 2] ?_
      exact t_Processor_findSource_158 t q  _ h
  · have h := xif_pos c10 h
    refine xOK_steps (fr' := (34, [some (.ref 17), some (.int x1), some (.int x2)], [.int x1, .int (1 : Int32), .ref 17])) (w' := (mk s t)) (ob := true) e_73 hk_73 3 rfl rfl ?_
    obtain ⟨q24, e25, h⟩ := Option.bind_eq_some_iff.mp h
    refine xu_callv (q := 17) (r := none) (av := [.int (1 : Int32), .int x1]) (st := []) (w1 := (mk q24 t)) e_73 hk_73 rfl (m_Processor_find _ _ _ _ _ e25) rfl rfl rfl rfl rfl ?_
    refine xOK_steps (fr' := (89, [some (.ref 17), some (.int x1), some (.int x2)], [])) (w' := (mk q24 t)) (ob := true) e_73 hk_73 1 rfl rfl ?_
    refine xOK_fg [0, 1, 2] ?_
    exact t_Processor_findSource_158 t q  _ h
set_option maxRecDepth 100000 in
set_option maxHeartbeats 4000000 in
theorem t_Processor_findSource_47 (t : xS) (q : xS) (y1 y2 : Int32) (s : xS) (h : f_Processor_findSource_47 y1 y2 s = some q) : xOK 73 none (xEnd 73 none (mk q t)) (27, [none, none, none], [.int y2, .int y1, .ref 17]) (mk s t) 0 0 := by
  unfold f_Processor_findSource_47 at h
  obtain ⟨q26, e27, h⟩ := Option.bind_eq_some_iff.mp h
  refine xu_callv (q := 17) (r := none) (av := [.int y1, .int y2]) (st := []) (w1 := (mk q26 t)) e_73 hk_73 rfl (m_Processor_find _ _ _ _ _ e27) rfl rfl rfl rfl rfl ?_
  refine xOK_steps (fr' := (89, [none, none, none], [])) (w' := (mk q26 t)) (ob := true) e_73 hk_73 1 rfl rfl ?_
  exact t_Processor_findSource_158 t q  _ h
set_option maxRecDepth 100000 in
set_option maxHeartbeats 4000000 in
theorem t_Processor_findSource_18 (t : xS) (q : xS) (y1 y2 : Int32) (s : xS) (h : f_Processor_findSource_18 y1 y2 s = some q) : xOK 73 none (xEnd 73 none (mk q t)) (11, [none, none, none], [.int y2, .int y1, .ref 17]) (mk s t) 0 0 := by
  unfold f_Processor_findSource_18 at h
  obtain ⟨q28, e29, h⟩ := Option.bind_eq_some_iff.mp h
  refine xu_callv (q := 17) (r := none) (av := [.int y1, .int y2]) (st := []) (w1 := (mk q28 t)) e_73 hk_73 rfl (m_Processor_find _ _ _ _ _ e29) rfl rfl rfl rfl rfl ?_
  refine xOK_steps (fr' := (89, [none, none, none], [])) (w' := (mk q28 t)) (ob := true) e_73 hk_73 1 rfl rfl ?_
  exact t_Processor_findSource_158 t q  _ h
set_option maxRecDepth 100000 in
set_option maxHeartbeats 4000000 in
theorem m_Processor_findSource (x1 x2 : Int32) (s t : xS) (q : xS) (h : f_Processor_findSource x1 x2 s = some q) : xMet 73 [.ref 17, .int x1, .int x2] (mk s t) none (mk q t) := by
  refine xMet_of hk_73 rfl rfl rfl ?_
  refine xOK_eq (fr := (0, [some (.ref 17), some (.int x1), some (.int x2)], [])) rfl ?_
  unfold f_Processor_findSource at h
  refine xOK_steps (fr' := (2, [some (.ref 17), some (.int x1), some (.int x2)], [.int (3 : Int32), .int x1])) (w' := (mk s t)) (ob := true) e_73 hk_73 2 rfl rfl ?_
  refine xu_icmp_ne e_73 hk_73 rfl (fun c30 => ?_) (fun c30 => ?_)
  · have h := xif_neg c30 h
    refine xOK_steps (fr' := (15, [some (.ref 17), some (.int x1), some (.int x2)], [.int (2 : Int32), .int x1])) (w' := (mk s t)) (ob := true) e_73 hk_73 2 rfl rfl ?_
    refine xu_icmp_ne e_73 hk_73 rfl (fun c31 => ?_) (fun c31 => ?_)
    · have h := xif_neg c31 h
      exact t_Processor_findSource_53 t q _ _ _ h
    · have h := xif_pos c31 h
      refine xOK_steps (fr' := (18, [some (.ref 17), some (.int x1), some (.int x2)], [.int (2 : Int32), .int x2])) (w' := (mk s t)) (ob := true) e_73 hk_73 2 rfl rfl ?_
      refine xu_icmp_lt e_73 hk_73 rfl (fun c32 => ?_) (fun c32 => ?_)
      · have h := xif_pos c32 h
        exact t_Processor_findSource_53 t q _ _ _ h
      · have h := xif_neg c32 h
        refine xOK_steps (fr' := (23, [some (.ref 17), some (.int x1), some (.int x2)], [.int (2 : Int32), .int x2, .int (0 : Int32), .ref 17])) (w' := (mk s t)) (ob := true) e_73 hk_73 4 rfl rfl ?_
        refine xu_icmp_ne e_73 hk_73 rfl (fun c33 => ?_) (fun c33 => ?_)
        · have h := xif_neg c33 h
          refine xOK_steps (fr' := (27, [some (.ref 17), some (.int x1), some (.int x2)], [.int (8 : Int32), .int (0 : Int32), .ref 17])) (w' := (mk s t)) (ob := true) e_73 hk_73 1 rfl rfl ?_
          refine xOK_fg [0, 1, 2] ?_
          exact t_Processor_findSource_47 t q _ _ _ h
        · have h := xif_pos c33 h
          refine xOK_steps (fr' := (27, [some (.ref 17), some (.int x1), some (.int x2)], [.int (4 : Int32), .int (0 : Int32), .ref 17])) (w' := (mk s t)) (ob := true) e_73 hk_73 2 rfl rfl ?_
          refine xOK_fg [0, 1, 2] ?_
          exact t_Processor_findSource_47 t q _ _ _ h
  · have h := xif_pos c30 h
    refine xOK_steps (fr' := (7, [some (.ref 17), some (.int x1), some (.int x2)], [.int (3 : Int32), .int x2, .int (0 : Int32), .ref 17])) (w' := (mk s t)) (ob := true) e_73 hk_73 4 rfl rfl ?_
    refine xu_icmp_ne e_73 hk_73 rfl (fun c34 => ?_) (fun c34 => ?_)
    · have h := xif_neg c34 h
      refine xOK_steps (fr' := (11, [some (.ref 17), some (.int x1), some (.int x2)], [.int x2, .int (0 : Int32), .ref 17])) (w' := (mk s t)) (ob := true) e_73 hk_73 1 rfl rfl ?_
      refine xOK_fg [0, 1, 2] ?_
      exact t_Processor_findSource_18 t q _ _ _ h
    · have h := xif_pos c34 h
      refine xOK_steps (fr' := (11, [some (.ref 17), some (.int x1), some (.int x2)], [.int (65535 : Int32), .int (0 : Int32), .ref 17])) (w' := (mk s t)) (ob := true) e_73 hk_73 2 rfl rfl ?_
      refine xOK_fg [0, 1, 2] ?_
      exact t_Processor_findSource_18 t q _ _ _ h
set_option maxRecDepth 100000 in
set_option maxHeartbeats 4000000 in
theorem t_Processor_mask_15 (t : xS) (q : (Int32 × xS)) (y0 : Int32) (s : xS) (h : f_Processor_mask_15 y0 s = some q) : xOK 84 none (xEnd 84 (some q.1) (mk q.2 t)) (6, [none], [.int y0]) (mk s t) 0 0 := by
  unfold f_Processor_mask_15 at h
  cases h
  exact xu_iret e_84 hk_84 rfl rfl rfl
set_option maxRecDepth 100000 in
set_option maxHeartbeats 4000000 in
theorem m_Processor_mask (s t : xS) (q : (Int32 × xS)) (h : f_Processor_mask  s = some q) : xMet 84 [.ref 17] (mk s t) (some q.1) (mk q.2 t) := by
  refine xMet_of hk_84 rfl rfl rfl ?_
  refine xOK_eq (fr := (0, [some (.ref 17)], [])) rfl ?_
  unfold f_Processor_mask at h
  refine xOK_steps (fr' := (2, [some (.ref 17)], [.int (s.1 13)])) (w' := (mk s t)) (ob := true) e_84 hk_84 2 rfl rfl ?_
  refine xu_if_eq e_84 hk_84 rfl (fun c1 => ?_) (fun c1 => ?_)
  · have h := xif_pos c1 h
    refine xOK_steps (fr' := (6, [some (.ref 17)], [.int (65535 : Int32)])) (w' := (mk s t)) (ob := true) e_84 hk_84 1 rfl rfl ?_
    refine xOK_fg [0] ?_
    exact t_Processor_mask_15 t q _ _ h
  · have h := xif_neg c1 h
    refine xOK_steps (fr' := (6, [some (.ref 17)], [.int (255 : Int32)])) (w' := (mk s t)) (ob := true) e_84 hk_84 2 rfl rfl ?_
    refine xOK_fg [0] ?_
    exact t_Processor_mask_15 t q _ _ h
set_option maxRecDepth 100000 in
set_option maxHeartbeats 4000000 in
theorem t_Lasting_lengthenLog_18 (t : xS) (q : xS) (s : xS) (h : f_Lasting_lengthenLog_18  s = some q) : xOK 28 none (xEnd 28 none (mk q t)) (10, [none], []) (mk s t) 0 0 := by
  unfold f_Lasting_lengthenLog_18 at h
  cases h
  exact xu_vret e_28 hk_28 rfl rfl
set_option maxRecDepth 100000 in
set_option maxHeartbeats 4000000 in
theorem m_Lasting_lengthenLog (s t : xS) (q : xS) (h : f_Lasting_lengthenLog  s = some q) : xMet 28 [.ref 3] (mk s t) none (mk q t) := by
  refine xMet_of hk_28 rfl rfl rfl ?_
  refine xOK_eq (fr := (0, [some (.ref 3)], [])) rfl ?_
  unfold f_Lasting_lengthenLog at h
  refine xOK_steps (fr' := (3, [some (.ref 3)], [.int (4 : Int32), .int (s.1 3)])) (w' := (mk s t)) (ob := true) e_28 hk_28 3 rfl rfl ?_
  refine xu_icmp_ge e_28 hk_28 rfl (fun c1 => ?_) (fun c1 => ?_)
  · have h := xif_pos c1 h
    refine xOK_fg [0] ?_
    exact t_Lasting_lengthenLog_18 t q  _ h
  · have h := xif_neg c1 h
    refine xOK_steps (fr' := (10, [some (.ref 3)], [])) (w' := (mk (xsc s 3 ((s.1 3) + (1 : Int32))) t)) (ob := true) e_28 hk_28 6 rfl rfl ?_
    refine xOK_fg [0] ?_
    exact t_Lasting_lengthenLog_18 t q  _ h
set_option maxRecDepth 100000 in
set_option maxHeartbeats 4000000 in
theorem m_Samples_take (s t : xS) (q : (Int32 × xS)) (h : f_Samples_take  s = some q) : xMet 33 [.ref 7] (mk s t) (some q.1) (mk q.2 t) := by
  refine xMet_of hk_33 rfl rfl rfl ?_
  refine xOK_eq (fr := (0, [some (.ref 7), none], [])) rfl ?_
  unfold f_Samples_take at h
  refine xOK_steps (fr' := (2, [some (.ref 7), none], [.int (s.1 6)])) (w' := (mk s t)) (ob := true) e_33 hk_33 2 rfl rfl ?_
  refine xu_if_ne e_33 hk_33 rfl (fun c1 => ?_) (fun c1 => ?_)
  · have h := xif_neg c1 h
    by_cases o2 : xin (s.1 5) 16 = true
    case neg => have h := xif_neg o2 h; cases h
    have h := xif_pos o2 h
    refine xOK_steps (fr' := (26, [some (.ref 7), some (.int ((s.2 4) (s.1 5).toNatClampNeg))], [.int ((s.2 4) (s.1 5).toNatClampNeg)])) (w' := (mk (xsc (xsc s 5 (xrem ((s.1 5) + (1 : Int32)) (16 : Int32))) 6 ((s.1 6) - (1 : Int32))) t)) (ob := xin (s.1 5) 16 && (true)) e_33 hk_33 21 rfl (xand o2 rfl) ?_
    cases h
    exact xu_iret e_33 hk_33 rfl rfl rfl
  · have h := xif_pos c1 h
    refine xOK_steps (fr' := (4, [some (.ref 7), none], [.int (65535 : Int32)])) (w' := (mk s t)) (ob := true) e_33 hk_33 1 rfl rfl ?_
    cases h
    exact xu_iret e_33 hk_33 rfl rfl rfl
set_option maxRecDepth 100000 in
set_option maxHeartbeats 4000000 in
theorem t_Lasting_placeLogged_18 (t : xS) (q : xS) (s : xS) (h : f_Lasting_placeLogged_18  s = some q) : xOK 27 none (xEnd 27 none (mk q t)) (10, [none, none], []) (mk s t) 0 0 := by
  unfold f_Lasting_placeLogged_18 at h
  cases h
  exact xu_vret e_27 hk_27 rfl rfl
set_option maxRecDepth 100000 in
set_option maxHeartbeats 4000000 in
theorem m_Lasting_placeLogged (x1 : Int32) (s t : xS) (q : xS) (h : f_Lasting_placeLogged x1 s = some q) : xMet 27 [.ref 3, .int x1] (mk s t) none (mk q t) := by
  refine xMet_of hk_27 rfl rfl rfl ?_
  refine xOK_eq (fr := (0, [some (.ref 3), some (.int x1)], [])) rfl ?_
  unfold f_Lasting_placeLogged at h
  refine xOK_steps (fr' := (3, [some (.ref 3), some (.int x1)], [.int (4 : Int32), .int (s.1 3)])) (w' := (mk s t)) (ob := true) e_27 hk_27 3 rfl rfl ?_
  refine xu_icmp_ge e_27 hk_27 rfl (fun c1 => ?_) (fun c1 => ?_)
  · have h := xif_pos c1 h
    refine xOK_fg [0, 1] ?_
    exact t_Lasting_placeLogged_18 t q  _ h
  · have h := xif_neg c1 h
    by_cases o2 : xin (s.1 3) 4 = true
    case neg => have h := xif_neg o2 h; cases h
    have h := xif_pos o2 h
    refine xOK_steps (fr' := (10, [some (.ref 3), some (.int x1)], [])) (w' := (mk (xsa s 2 (s.1 3).toNatClampNeg x1) t)) (ob := xin (s.1 3) 4 && (true)) e_27 hk_27 6 rfl (xand o2 rfl) ?_
    refine xOK_fg [0, 1] ?_
    exact t_Lasting_placeLogged_18 t q  _ h
set_option maxRecDepth 100000 in
set_option maxHeartbeats 4000000 in
theorem t_Bus_loadSensor_111 (t : xS) (q : (Int32 × xS)) (x2 : Int32) (s : xS) (h : f_Bus_loadSensor_111 x2 s = some q) : xOK 51 none (xEnd 51 (some q.1) (mk q.2 t)) (55, [none, none, some (.int x2)], []) (mk s t) 0 0 := by
  unfold f_Bus_loadSensor_111 at h
  refine xOK_steps (fr' := (56, [none, none, some (.int x2)], [.int x2])) (w' := (mk s t)) (ob := true) e_51 hk_51 1 rfl rfl ?_
  cases h
  exact xu_iret e_51 hk_51 rfl rfl rfl
set_option maxRecDepth 100000 in
set_option maxHeartbeats 4000000 in
theorem t_Bus_loadSensor_93 (t : xS) (q : (Int32 × xS)) (x2 : Int32) (s : xS) (h : f_Bus_loadSensor_93 x2 s = some q) : xOK 51 none (xEnd 51 (some q.1) (mk q.2 t)) (47, [some (.ref 15), none, some (.int x2)], []) (mk s t) 0 0 := by
  unfold f_Bus_loadSensor_93 at h
  refine xOK_steps (fr' := (50, [some (.ref 15), none, some (.int x2)], [.int (0 : Int32), .ref 1])) (w' := (mk s t)) (ob := true) e_51 hk_51 3 rfl rfl ?_
  obtain ⟨q1, e2, h⟩ := Option.bind_eq_some_iff.mp h
  refine xu_callv (q := 1) (r := (some q1.1)) (av := [.int (0 : Int32)]) (st := []) (w1 := (mk q1.2 t)) e_51 hk_51 rfl (m_Power_allows _ _ _ _ e2) rfl rfl rfl rfl rfl ?_
  refine xu_if_eq e_51 hk_51 rfl (fun c3 => ?_) (fun c3 => ?_)
  · have h := xif_pos c3 h
    refine xOK_fg [0] ?_
    exact t_Bus_loadSensor_111 t q _ _ h
  · have h := xif_neg c3 h
    refine xOK_steps (fr' := (54, [some (.ref 15), none, some (.int x2)], [.ref 3])) (w' := (mk q1.2 t)) (ob := true) e_51 hk_51 2 rfl rfl ?_
    obtain ⟨q4, e5, h⟩ := Option.bind_eq_some_iff.mp h
    refine xu_callv (q := 3) (r := none) (av := []) (st := []) (w1 := (mk q4 t)) e_51 hk_51 rfl (m_Lasting_lengthenLog  _ _ _ e5) rfl rfl rfl rfl rfl ?_
    refine xOK_fg [0] ?_
    exact t_Bus_loadSensor_111 t q _ _ h
set_option maxRecDepth 100000 in
set_option maxHeartbeats 4000000 in
theorem t_Bus_loadSensor_54 (t : xS) (q : (Int32 × xS)) (s : xS) (h : f_Bus_loadSensor_54  s = some q) : xOK 51 none (xEnd 51 (some q.1) (mk q.2 t)) (28, [some (.ref 15), none, none], []) (mk s t) 0 0 := by
  unfold f_Bus_loadSensor_54 at h
  refine xOK_steps (fr' := (31, [some (.ref 15), none, none], [.int (s.1 1)])) (w' := (mk s t)) (ob := true) e_51 hk_51 3 rfl rfl ?_
  refine xu_if_ne e_51 hk_51 rfl (fun c6 => ?_) (fun c6 => ?_)
  · have h := xif_neg c6 h
    refine xOK_steps (fr' := (36, [some (.ref 15), none, none], [.ref 7])) (w' := (mk s t)) (ob := true) e_51 hk_51 2 rfl rfl ?_
    obtain ⟨q7, e8, h⟩ := Option.bind_eq_some_iff.mp h
    refine xu_callv (q := 7) (r := (some q7.1)) (av := []) (st := []) (w1 := (mk q7.2 t)) e_51 hk_51 rfl (m_Samples_take  _ _ _ e8) rfl rfl rfl rfl rfl ?_
    refine xOK_steps (fr' := (41, [some (.ref 15), none, some (.int q7.1)], [.int (0 : Int32), .ref 1])) (w' := (mk q7.2 t)) (ob := true) e_51 hk_51 4 rfl rfl ?_
    obtain ⟨q9, e10, h⟩ := Option.bind_eq_some_iff.mp h
    refine xu_callv (q := 1) (r := (some q9.1)) (av := [.int (0 : Int32)]) (st := []) (w1 := (mk q9.2 t)) e_51 hk_51 rfl (m_Power_allows _ _ _ _ e10) rfl rfl rfl rfl rfl ?_
    refine xu_if_eq e_51 hk_51 rfl (fun c11 => ?_) (fun c11 => ?_)
    · have h := xif_pos c11 h
      exact t_Bus_loadSensor_93 t q _ _ h
    · have h := xif_neg c11 h
      refine xOK_steps (fr' := (46, [some (.ref 15), none, some (.int q7.1)], [.int q7.1, .ref 3])) (w' := (mk q9.2 t)) (ob := true) e_51 hk_51 3 rfl rfl ?_
      obtain ⟨q12, e13, h⟩ := Option.bind_eq_some_iff.mp h
      refine xu_callv (q := 3) (r := none) (av := [.int q7.1]) (st := []) (w1 := (mk q12 t)) e_51 hk_51 rfl (m_Lasting_placeLogged _ _ _ _ e13) rfl rfl rfl rfl rfl ?_
      exact t_Bus_loadSensor_93 t q _ _ h
  · have h := xif_pos c6 h
    refine xOK_steps (fr' := (33, [some (.ref 15), none, none], [.int (0 : Int32)])) (w' := (mk s t)) (ob := true) e_51 hk_51 1 rfl rfl ?_
    cases h
    exact xu_iret e_51 hk_51 rfl rfl rfl
set_option maxRecDepth 100000 in
set_option maxHeartbeats 4000000 in
theorem m_Bus_loadSensor (s t : xS) (q : (Int32 × xS)) (h : f_Bus_loadSensor  s = some q) : xMet 51 [.ref 15] (mk s t) (some q.1) (mk q.2 t) := by
  refine xMet_of hk_51 rfl rfl rfl ?_
  refine xOK_eq (fr := (0, [some (.ref 15), none, none], [])) rfl ?_
  unfold f_Bus_loadSensor at h
  refine xOK_steps (fr' := (15, [some (.ref 15), some (.int (s.1 8)), none], [.int (s.1 3), .int (s.1 8)])) (w' := (mk (xsc s 8 ((s.1 8) + (1 : Int32))) t)) (ob := true) e_51 hk_51 15 rfl rfl ?_
  refine xu_icmp_ge e_51 hk_51 rfl (fun c14 => ?_) (fun c14 => ?_)
  · have h := xif_pos c14 h
    refine xOK_fg [1] ?_
    exact t_Bus_loadSensor_54 t q  _ h
  · have h := xif_neg c14 h
    refine xOK_steps (fr' := (21, [some (.ref 15), some (.int (s.1 8)), none], [.int (4 : Int32), .int (s.1 8)])) (w' := (mk (xsc s 8 ((s.1 8) + (1 : Int32))) t)) (ob := true) e_51 hk_51 5 rfl rfl ?_
    refine xu_icmp_ge e_51 hk_51 rfl (fun c15 => ?_) (fun c15 => ?_)
    · have h := xif_pos c15 h
      refine xOK_fg [1] ?_
      exact t_Bus_loadSensor_54 t q  _ h
    · have h := xif_neg c15 h
      by_cases o16 : xin (s.1 8) 4 = true
      case neg => have h := xif_neg o16 h; cases h
      have h := xif_pos o16 h
      refine xOK_steps (fr' := (27, [some (.ref 15), some (.int (s.1 8)), none], [.int ((s.2 2) (s.1 8).toNatClampNeg)])) (w' := (mk (xsc s 8 ((s.1 8) + (1 : Int32))) t)) (ob := xin (s.1 8) 4 && (true)) e_51 hk_51 5 rfl (xand o16 rfl) ?_
      cases h
      exact xu_iret e_51 hk_51 rfl rfl rfl
set_option maxRecDepth 100000 in
set_option maxHeartbeats 4000000 in
theorem t_Bus_read_47 (t : xS) (q : (Int32 × xS)) (y0 : Int32) (s : xS) (h : f_Bus_read_47 y0 s = some q) : xOK 48 none (xEnd 48 (some q.1) (mk q.2 t)) (28, [none, none, none, none], [.int y0]) (mk s t) 0 0 := by
  unfold f_Bus_read_47 at h
  cases h
  exact xu_iret e_48 hk_48 rfl rfl rfl
set_option maxRecDepth 100000 in
set_option maxHeartbeats 4000000 in
theorem t_Bus_read_21 (t : xS) (q : (Int32 × xS)) (x1 x2 y0 : Int32) (s : xS) (h : f_Bus_read_21 x1 x2 y0 s = some q) : xOK 48 none (xEnd 48 (some q.1) (mk q.2 t)) (11, [none, some (.int x1), some (.int x2), none], [.int y0]) (mk s t) 0 0 := by
  unfold f_Bus_read_21 at h
  refine xOK_steps (fr' := (13, [none, some (.int x1), some (.int x2), some (.int y0)], [.int x2])) (w' := (mk s t)) (ob := true) e_48 hk_48 2 rfl rfl ?_
  refine xu_if_ne e_48 hk_48 rfl (fun c1 => ?_) (fun c1 => ?_)
  · have h := xif_neg c1 h
    refine xOK_steps (fr' := (20, [none, some (.int x1), some (.int x2), some (.int y0)], [.int (1 : Int32), .int (x1 &&& (1 : Int32))])) (w' := (mk s t)) (ob := true) e_48 hk_48 4 rfl rfl ?_
    refine xu_icmp_ne e_48 hk_48 rfl (fun c2 => ?_) (fun c2 => ?_)
    · have h := xif_neg c2 h
      refine xOK_steps (fr' := (28, [none, some (.int x1), some (.int x2), some (.int y0)], [.int (y0 &&& (255 : Int32))])) (w' := (mk s t)) (ob := true) e_48 hk_48 3 rfl rfl ?_
      refine xOK_fg [1, 2, 3] ?_
      exact t_Bus_read_47 t q _ _ h
    · have h := xif_pos c2 h
      refine xOK_steps (fr' := (28, [none, some (.int x1), some (.int x2), some (.int y0)], [.int (y0 >>> ((8 : Int32) &&& 31))])) (w' := (mk s t)) (ob := true) e_48 hk_48 4 rfl rfl ?_
      refine xOK_fg [1, 2, 3] ?_
      exact t_Bus_read_47 t q _ _ h
  · have h := xif_pos c1 h
    refine xOK_steps (fr' := (15, [none, some (.int x1), some (.int x2), some (.int y0)], [.int y0])) (w' := (mk s t)) (ob := true) e_48 hk_48 1 rfl rfl ?_
    cases h
    exact xu_iret e_48 hk_48 rfl rfl rfl
set_option maxRecDepth 100000 in
set_option maxHeartbeats 4000000 in
theorem m_Bus_read (x1 x2 : Int32) (s t : xS) (q : (Int32 × xS)) (h : f_Bus_read x1 x2 s = some q) : xMet 48 [.ref 15, .int x1, .int x2] (mk s t) (some q.1) (mk q.2 t) := by
  refine xMet_of hk_48 rfl rfl rfl ?_
  refine xOK_eq (fr := (0, [some (.ref 15), some (.int x1), some (.int x2), none], [])) rfl ?_
  unfold f_Bus_read at h
  refine xOK_steps (fr' := (4, [some (.ref 15), some (.int x1), some (.int x2), none], [.int (16 : Int32), .int (x1 &&& (65534 : Int32))])) (w' := (mk s t)) (ob := true) e_48 hk_48 4 rfl rfl ?_
  refine xu_icmp_ne e_48 hk_48 rfl (fun c3 => ?_) (fun c3 => ?_)
  · have h := xif_neg c3 h
    refine xOK_steps (fr' := (10, [some (.ref 15), some (.int x1), some (.int x2), none], [.int x1, .ref 15])) (w' := (mk s t)) (ob := true) e_48 hk_48 2 rfl rfl ?_
    obtain ⟨q4, e5, h⟩ := Option.bind_eq_some_iff.mp h
    refine xu_callv (q := 15) (r := (some q4.1)) (av := [.int x1]) (st := []) (w1 := (mk q4.2 t)) e_48 hk_48 rfl (m_Bus_fetchWord _ _ _ _ e5) rfl rfl rfl rfl rfl ?_
    refine xOK_fg [0] ?_
    exact t_Bus_read_21 t q _ _ _ _ h
  · have h := xif_pos c3 h
    refine xOK_steps (fr' := (6, [some (.ref 15), some (.int x1), some (.int x2), none], [.ref 15])) (w' := (mk s t)) (ob := true) e_48 hk_48 1 rfl rfl ?_
    obtain ⟨q6, e7, h⟩ := Option.bind_eq_some_iff.mp h
    refine xu_callv (q := 15) (r := (some q6.1)) (av := []) (st := []) (w1 := (mk q6.2 t)) e_48 hk_48 rfl (m_Bus_loadSensor  _ _ _ e7) rfl rfl rfl rfl rfl ?_
    refine xOK_steps (fr' := (11, [some (.ref 15), some (.int x1), some (.int x2), none], [.int q6.1])) (w' := (mk q6.2 t)) (ob := true) e_48 hk_48 1 rfl rfl ?_
    refine xOK_fg [0] ?_
    exact t_Bus_read_21 t q _ _ _ _ h
set_option maxRecDepth 100000 in
set_option maxHeartbeats 4000000 in
theorem t_Processor_operand_48 (t : xS) (q : (Int32 × xS)) (y0 : Int32) (s : xS) (h : f_Processor_operand_48 y0 s = some q) : xOK 77 none (xEnd 77 (some q.1) (mk q.2 t)) (24, [some (.ref 17)], [.int y0]) (mk s t) 0 0 := by
  unfold f_Processor_operand_48 at h
  refine xOK_steps (fr' := (25, [some (.ref 17)], [.ref 17, .int y0])) (w' := (mk s t)) (ob := true) e_77 hk_77 1 rfl rfl ?_
  obtain ⟨q1, e2, h⟩ := Option.bind_eq_some_iff.mp h
  refine xu_callv (q := 17) (r := (some q1.1)) (av := []) (st := [.int y0]) (w1 := (mk q1.2 t)) e_77 hk_77 rfl (m_Processor_mask  _ _ _ e2) rfl rfl rfl rfl rfl ?_
  refine xOK_steps (fr' := (27, [some (.ref 17)], [.int (y0 &&& q1.1)])) (w' := (mk q1.2 t)) (ob := true) e_77 hk_77 1 rfl rfl ?_
  cases h
  exact xu_iret e_77 hk_77 rfl rfl rfl
set_option maxRecDepth 100000 in
set_option maxHeartbeats 4000000 in
theorem m_Processor_operand (s t : xS) (q : (Int32 × xS)) (h : f_Processor_operand  s = some q) : xMet 77 [.ref 17] (mk s t) (some q.1) (mk q.2 t) := by
  refine xMet_of hk_77 rfl rfl rfl ?_
  refine xOK_eq (fr := (0, [some (.ref 17)], [])) rfl ?_
  unfold f_Processor_operand at h
  refine xOK_steps (fr' := (3, [some (.ref 17)], [.int (2 : Int32), .int (s.1 14)])) (w' := (mk s t)) (ob := true) e_77 hk_77 3 rfl rfl ?_
  refine xu_icmp_ne e_77 hk_77 rfl (fun c3 => ?_) (fun c3 => ?_)
  · have h := xif_neg c3 h
    refine xOK_steps (fr' := (15, [some (.ref 17)], [.int (1 : Int32), .int (s.1 14)])) (w' := (mk s t)) (ob := true) e_77 hk_77 3 rfl rfl ?_
    refine xu_icmp_ne e_77 hk_77 rfl (fun c4 => ?_) (fun c4 => ?_)
    · have h := xif_neg c4 h
      refine xOK_steps (fr' := (24, [some (.ref 17)], [.int (s.1 15)])) (w' := (mk s t)) (ob := true) e_77 hk_77 2 rfl rfl ?_
      exact t_Processor_operand_48 t q _ _ h
    · have h := xif_pos c4 h
      by_cases o5 : xin (s.1 15) 16 = true
      case neg => have h := xif_neg o5 h; cases h
      have h := xif_pos o5 h
      refine xOK_steps (fr' := (24, [some (.ref 17)], [.int ((s.2 10) (s.1 15).toNatClampNeg)])) (w' := (mk s t)) (ob := xin (s.1 15) 16 && (true)) e_77 hk_77 6 rfl (xand o5 rfl) ?_
      exact t_Processor_operand_48 t q _ _ h
  · have h := xif_pos c3 h
    refine xOK_steps (fr' := (10, [some (.ref 17)], [.int (s.1 13), .int (s.1 15), .ref 15])) (w' := (mk s t)) (ob := true) e_77 hk_77 6 rfl rfl ?_
    obtain ⟨q6, e7, h⟩ := Option.bind_eq_some_iff.mp h
    refine xu_callv (q := 15) (r := (some q6.1)) (av := [.int (s.1 15), .int (s.1 13)]) (st := []) (w1 := (mk q6.2 t)) e_77 hk_77 rfl (m_Bus_read _ _ _ _ _ e7) rfl rfl rfl rfl rfl ?_
    cases h
    exact xu_iret e_77 hk_77 rfl rfl rfl
set_option maxRecDepth 100000 in
set_option maxHeartbeats 4000000 in
theorem t_Processor_highest_15 (t : xS) (q : (Int32 × xS)) (y0 : Int32) (s : xS) (h : f_Processor_highest_15 y0 s = some q) : xOK 85 none (xEnd 85 (some q.1) (mk q.2 t)) (6, [none], [.int y0]) (mk s t) 0 0 := by
  unfold f_Processor_highest_15 at h
  cases h
  exact xu_iret e_85 hk_85 rfl rfl rfl
set_option maxRecDepth 100000 in
set_option maxHeartbeats 4000000 in
theorem m_Processor_highest (s t : xS) (q : (Int32 × xS)) (h : f_Processor_highest  s = some q) : xMet 85 [.ref 17] (mk s t) (some q.1) (mk q.2 t) := by
  refine xMet_of hk_85 rfl rfl rfl ?_
  refine xOK_eq (fr := (0, [some (.ref 17)], [])) rfl ?_
  unfold f_Processor_highest at h
  refine xOK_steps (fr' := (2, [some (.ref 17)], [.int (s.1 13)])) (w' := (mk s t)) (ob := true) e_85 hk_85 2 rfl rfl ?_
  refine xu_if_eq e_85 hk_85 rfl (fun c1 => ?_) (fun c1 => ?_)
  · have h := xif_pos c1 h
    refine xOK_steps (fr' := (6, [some (.ref 17)], [.int (32768 : Int32)])) (w' := (mk s t)) (ob := true) e_85 hk_85 1 rfl rfl ?_
    refine xOK_fg [0] ?_
    exact t_Processor_highest_15 t q _ _ h
  · have h := xif_neg c1 h
    refine xOK_steps (fr' := (6, [some (.ref 17)], [.int (128 : Int32)])) (w' := (mk s t)) (ob := true) e_85 hk_85 2 rfl rfl ?_
    refine xOK_fg [0] ?_
    exact t_Processor_highest_15 t q _ _ h
set_option maxRecDepth 100000 in
set_option maxHeartbeats 4000000 in
theorem t_Processor_askFlags_46 (t : xS) (q : (Int32 × xS)) (x1 y1 y2 : Int32) (s : xS) (h : f_Processor_askFlags_46 x1 y1 y2 s = some q) : xOK 70 none (xEnd 70 (some q.1) (mk q.2 t)) (26, [some (.ref 17), some (.int x1), none, none], [.int y2, .int y1, .ref 17]) (mk s t) 0 0 := by
  unfold f_Processor_askFlags_46 at h
  refine xOK_steps (fr' := (32, [some (.ref 17), some (.int x1), none, none], [.int x1])) (w' := (mk (xsc (xsc s 16 (y1 ||| y2)) 17 (1 : Int32)) t)) (ob := true) e_70 hk_70 6 rfl rfl ?_
  cases h
  exact xu_iret e_70 hk_70 rfl rfl rfl
set_option maxRecDepth 100000 in
set_option maxHeartbeats 4000000 in
theorem t_Processor_askFlags_34 (t : xS) (q : (Int32 × xS)) (x1 x3 y1 y2 : Int32) (s : xS) (h : f_Processor_askFlags_34 x1 x3 y1 y2 s = some q) : xOK 70 none (xEnd 70 (some q.1) (mk q.2 t)) (20, [some (.ref 17), some (.int x1), none, some (.int x3)], [.int y2, .int y1, .ref 17]) (mk s t) 0 0 := by
  unfold f_Processor_askFlags_34 at h
  refine xOK_steps (fr' := (22, [some (.ref 17), some (.int x1), none, some (.int x3)], [.int x3, .int (y1 ||| y2), .ref 17])) (w' := (mk s t)) (ob := true) e_70 hk_70 2 rfl rfl ?_
  refine xu_if_eq e_70 hk_70 rfl (fun c1 => ?_) (fun c1 => ?_)
  · have h := xif_pos c1 h
    refine xOK_steps (fr' := (26, [some (.ref 17), some (.int x1), none, some (.int x3)], [.int (0 : Int32), .int (y1 ||| y2), .ref 17])) (w' := (mk s t)) (ob := true) e_70 hk_70 1 rfl rfl ?_
    refine xOK_fg [3] ?_
    exact t_Processor_askFlags_46 t q _ _ _ _ h
  · have h := xif_neg c1 h
    refine xOK_steps (fr' := (26, [some (.ref 17), some (.int x1), none, some (.int x3)], [.int (256 : Int32), .int (y1 ||| y2), .ref 17])) (w' := (mk s t)) (ob := true) e_70 hk_70 2 rfl rfl ?_
    refine xOK_fg [3] ?_
    exact t_Processor_askFlags_46 t q _ _ _ _ h
set_option maxRecDepth 100000 in
set_option maxHeartbeats 4000000 in
theorem t_Processor_askFlags_19 (t : xS) (q : (Int32 × xS)) (x1 x3 y1 y2 : Int32) (s : xS) (h : f_Processor_askFlags_19 x1 x3 y1 y2 s = some q) : xOK 70 none (xEnd 70 (some q.1) (mk q.2 t)) (11, [some (.ref 17), some (.int x1), none, some (.int x3)], [.int y2, .int y1, .ref 17]) (mk s t) 0 0 := by
  unfold f_Processor_askFlags_19 at h
  refine xOK_steps (fr' := (14, [some (.ref 17), some (.int x1), none, some (.int x3)], [.ref 17, .int x1, .int (y1 ||| y2), .ref 17])) (w' := (mk s t)) (ob := true) e_70 hk_70 3 rfl rfl ?_
  obtain ⟨q2, e3, h⟩ := Option.bind_eq_some_iff.mp h
  refine xu_callv (q := 17) (r := (some q2.1)) (av := []) (st := [.int x1, .int (y1 ||| y2), .ref 17]) (w1 := (mk q2.2 t)) e_70 hk_70 rfl (m_Processor_highest  _ _ _ e3) rfl rfl rfl rfl rfl ?_
  refine xOK_steps (fr' := (16, [some (.ref 17), some (.int x1), none, some (.int x3)], [.int (x1 &&& q2.1), .int (y1 ||| y2), .ref 17])) (w' := (mk q2.2 t)) (ob := true) e_70 hk_70 1 rfl rfl ?_
  refine xu_if_eq e_70 hk_70 rfl (fun c4 => ?_) (fun c4 => ?_)
  · have h := xif_pos c4 h
    refine xOK_steps (fr' := (20, [some (.ref 17), some (.int x1), none, some (.int x3)], [.int (0 : Int32), .int (y1 ||| y2), .ref 17])) (w' := (mk q2.2 t)) (ob := true) e_70 hk_70 1 rfl rfl ?_
    exact t_Processor_askFlags_34 t q _ _ _ _ _ h
  · have h := xif_neg c4 h
    refine xOK_steps (fr' := (20, [some (.ref 17), some (.int x1), none, some (.int x3)], [.int (4 : Int32), .int (y1 ||| y2), .ref 17])) (w' := (mk q2.2 t)) (ob := true) e_70 hk_70 2 rfl rfl ?_
    exact t_Processor_askFlags_34 t q _ _ _ _ _ h
set_option maxRecDepth 100000 in
set_option maxHeartbeats 4000000 in
theorem t_Processor_askFlags_10 (t : xS) (q : (Int32 × xS)) (x1 x3 y1 : Int32) (s : xS) (h : f_Processor_askFlags_10 x1 x3 y1 s = some q) : xOK 70 none (xEnd 70 (some q.1) (mk q.2 t)) (6, [some (.ref 17), some (.int x1), none, some (.int x3)], [.int y1, .ref 17]) (mk s t) 0 0 := by
  unfold f_Processor_askFlags_10 at h
  refine xOK_steps (fr' := (7, [some (.ref 17), some (.int x1), none, some (.int x3)], [.int x1, .int y1, .ref 17])) (w' := (mk s t)) (ob := true) e_70 hk_70 1 rfl rfl ?_
  refine xu_if_ne e_70 hk_70 rfl (fun c5 => ?_) (fun c5 => ?_)
  · have h := xif_neg c5 h
    refine xOK_steps (fr' := (11, [some (.ref 17), some (.int x1), none, some (.int x3)], [.int (0 : Int32), .int y1, .ref 17])) (w' := (mk s t)) (ob := true) e_70 hk_70 1 rfl rfl ?_
    exact t_Processor_askFlags_19 t q _ _ _ _ _ h
  · have h := xif_pos c5 h
    refine xOK_steps (fr' := (11, [some (.ref 17), some (.int x1), none, some (.int x3)], [.int (2 : Int32), .int y1, .ref 17])) (w' := (mk s t)) (ob := true) e_70 hk_70 2 rfl rfl ?_
    exact t_Processor_askFlags_19 t q _ _ _ _ _ h
set_option maxRecDepth 100000 in
set_option maxHeartbeats 4000000 in
theorem m_Processor_askFlags (x1 x2 x3 : Int32) (s t : xS) (q : (Int32 × xS)) (h : f_Processor_askFlags x1 x2 x3 s = some q) : xMet 70 [.ref 17, .int x1, .int x2, .int x3] (mk s t) (some q.1) (mk q.2 t) := by
  refine xMet_of hk_70 rfl rfl rfl ?_
  refine xOK_eq (fr := (0, [some (.ref 17), some (.int x1), some (.int x2), some (.int x3)], [])) rfl ?_
  unfold f_Processor_askFlags at h
  refine xOK_steps (fr' := (2, [some (.ref 17), some (.int x1), some (.int x2), some (.int x3)], [.int x2, .ref 17])) (w' := (mk s t)) (ob := true) e_70 hk_70 2 rfl rfl ?_
  refine xu_if_eq e_70 hk_70 rfl (fun c6 => ?_) (fun c6 => ?_)
  · have h := xif_pos c6 h
    refine xOK_steps (fr' := (6, [some (.ref 17), some (.int x1), some (.int x2), some (.int x3)], [.int (0 : Int32), .ref 17])) (w' := (mk s t)) (ob := true) e_70 hk_70 1 rfl rfl ?_
    refine xOK_fg [2] ?_
    exact t_Processor_askFlags_10 t q _ _ _ _ h
  · have h := xif_neg c6 h
    refine xOK_steps (fr' := (6, [some (.ref 17), some (.int x1), some (.int x2), some (.int x3)], [.int (1 : Int32), .ref 17])) (w' := (mk s t)) (ob := true) e_70 hk_70 2 rfl rfl ?_
    refine xOK_fg [2] ?_
    exact t_Processor_askFlags_10 t q _ _ _ _ h
set_option maxRecDepth 100000 in
set_option maxHeartbeats 4000000 in
theorem t_Processor_logical_11 (t : xS) (q : (Int32 × xS)) (x2 y1 y2 : Int32) (s : xS) (h : f_Processor_logical_11 x2 y1 y2 s = some q) : xOK 69 none (xEnd 69 (some q.1) (mk q.2 t)) (7, [none, none, some (.int x2)], [.int y2, .int y1, .ref 17]) (mk s t) 0 0 := by
  unfold f_Processor_logical_11 at h
  refine xOK_steps (fr' := (8, [none, none, some (.int x2)], [.int x2, .int y2, .int y1, .ref 17])) (w' := (mk s t)) (ob := true) e_69 hk_69 1 rfl rfl ?_
  obtain ⟨q1, e2, h⟩ := Option.bind_eq_some_iff.mp h
  refine xu_callv (q := 17) (r := (some q1.1)) (av := [.int y1, .int y2, .int x2]) (st := []) (w1 := (mk q1.2 t)) e_69 hk_69 rfl (m_Processor_askFlags _ _ _ _ _ _ e2) rfl rfl rfl rfl rfl ?_
  cases h
  exact xu_iret e_69 hk_69 rfl rfl rfl
set_option maxRecDepth 100000 in
set_option maxHeartbeats 4000000 in
theorem m_Processor_logical (x1 x2 : Int32) (s t : xS) (q : (Int32 × xS)) (h : f_Processor_logical x1 x2 s = some q) : xMet 69 [.ref 17, .int x1, .int x2] (mk s t) (some q.1) (mk q.2 t) := by
  refine xMet_of hk_69 rfl rfl rfl ?_
  refine xOK_eq (fr := (0, [some (.ref 17), some (.int x1), some (.int x2)], [])) rfl ?_
  unfold f_Processor_logical at h
  refine xOK_steps (fr' := (3, [some (.ref 17), some (.int x1), some (.int x2)], [.int x1, .int x1, .ref 17])) (w' := (mk s t)) (ob := true) e_69 hk_69 3 rfl rfl ?_
  refine xu_if_eq e_69 hk_69 rfl (fun c3 => ?_) (fun c3 => ?_)
  · have h := xif_pos c3 h
    refine xOK_steps (fr' := (7, [some (.ref 17), some (.int x1), some (.int x2)], [.int (0 : Int32), .int x1, .ref 17])) (w' := (mk s t)) (ob := true) e_69 hk_69 1 rfl rfl ?_
    refine xOK_fg [0, 1] ?_
    exact t_Processor_logical_11 t q _ _ _ _ h
  · have h := xif_neg c3 h
    refine xOK_steps (fr' := (7, [some (.ref 17), some (.int x1), some (.int x2)], [.int (1 : Int32), .int x1, .ref 17])) (w' := (mk s t)) (ob := true) e_69 hk_69 2 rfl rfl ?_
    refine xOK_fg [0, 1] ?_
    exact t_Processor_logical_11 t q _ _ _ _ h
set_option maxRecDepth 100000 in
set_option maxHeartbeats 4000000 in
theorem m_Processor_carry (s t : xS) (q : (Int32 × xS)) (h : f_Processor_carry  s = some q) : xMet 83 [.ref 17] (mk s t) (some q.1) (mk q.2 t) := by
  refine xMet_of hk_83 rfl rfl rfl ?_
  refine xOK_eq (fr := (0, [some (.ref 17)], [])) rfl ?_
  unfold f_Processor_carry at h
  refine xOK_steps (fr' := (6, [some (.ref 17)], [.int (((s.2 10) 2) &&& (1 : Int32))])) (w' := (mk s t)) (ob := true) e_83 hk_83 6 rfl rfl ?_
  cases h
  exact xu_iret e_83 hk_83 rfl rfl rfl
set_option maxRecDepth 100000 in
set_option maxHeartbeats 4000000 in
theorem t_Processor_changed_96 (t : xS) (q : (Int32 × xS)) (y1 y2 : Int32) (s : xS) (h : f_Processor_changed_96 y1 y2 s = some q) : xOK 66 none (xEnd 66 (some q.1) (mk q.2 t)) (50, [none, none, none], [.int y2, .int y1, .ref 17]) (mk s t) 0 0 := by
  unfold f_Processor_changed_96 at h
  refine xOK_steps (fr' := (51, [none, none, none], [.int (0 : Int32), .int y2, .int y1, .ref 17])) (w' := (mk s t)) (ob := true) e_66 hk_66 1 rfl rfl ?_
  obtain ⟨q1, e2, h⟩ := Option.bind_eq_some_iff.mp h
  refine xu_callv (q := 17) (r := (some q1.1)) (av := [.int y1, .int y2, .int (0 : Int32)]) (st := []) (w1 := (mk q1.2 t)) e_66 hk_66 rfl (m_Processor_askFlags _ _ _ _ _ _ e2) rfl rfl rfl rfl rfl ?_
  cases h
  exact xu_iret e_66 hk_66 rfl rfl rfl
set_option maxRecDepth 100000 in
set_option maxHeartbeats 4000000 in
theorem t_Processor_changed_54 (t : xS) (q : (Int32 × xS)) (y1 y2 : Int32) (s : xS) (h : f_Processor_changed_54 y1 y2 s = some q) : xOK 66 none (xEnd 66 (some q.1) (mk q.2 t)) (20, [none, none, none], [.int y2, .int y1, .ref 17]) (mk s t) 0 0 := by
  unfold f_Processor_changed_54 at h
  refine xOK_steps (fr' := (21, [none, none, none], [.int (0 : Int32), .int y2, .int y1, .ref 17])) (w' := (mk s t)) (ob := true) e_66 hk_66 1 rfl rfl ?_
  obtain ⟨q3, e4, h⟩ := Option.bind_eq_some_iff.mp h
  refine xu_callv (q := 17) (r := (some q3.1)) (av := [.int y1, .int y2, .int (0 : Int32)]) (st := []) (w1 := (mk q3.2 t)) e_66 hk_66 rfl (m_Processor_askFlags _ _ _ _ _ _ e4) rfl rfl rfl rfl rfl ?_
  cases h
  exact xu_iret e_66 hk_66 rfl rfl rfl
set_option maxRecDepth 100000 in
set_option maxHeartbeats 4000000 in
theorem m_Processor_changed (x1 x2 : Int32) (s t : xS) (q : (Int32 × xS)) (h : f_Processor_changed x1 x2 s = some q) : xMet 66 [.ref 17, .int x1, .int x2] (mk s t) (some q.1) (mk q.2 t) := by
  refine xMet_of hk_66 rfl rfl rfl ?_
  refine xOK_eq (fr := (0, [some (.ref 17), some (.int x1), some (.int x2)], [])) rfl ?_
  unfold f_Processor_changed at h
  refine xOK_steps (fr' := (1, [some (.ref 17), some (.int x1), some (.int x2)], [.int x1])) (w' := (mk s t)) (ob := true) e_66 hk_66 1 rfl rfl ?_
  by_cases c5 : (x1 < (0 : Int32) ∨ (2 : Int32) < x1)
  · have h := xif_pos c5 h
    refine xu_tswOut (t := 53) e_66 hk_66 rfl c5 rfl rfl rfl ?_
    refine xOK_steps (fr' := (59, [some (.ref 17), some (.int x1), some (.int x2)], [.int (0 : Int32), .int ((x2).toInt8.toInt32 &&& (65535 : Int32)), .ref 17])) (w' := (mk s t)) (ob := true) e_66 hk_66 6 rfl rfl ?_
    obtain ⟨q6, e7, h⟩ := Option.bind_eq_some_iff.mp h
    refine xu_callv (q := 17) (r := (some q6.1)) (av := [.int ((x2).toInt8.toInt32 &&& (65535 : Int32)), .int (0 : Int32)]) (st := []) (w1 := (mk q6.2 t)) e_66 hk_66 rfl (m_Processor_logical _ _ _ _ _ e7) rfl rfl rfl rfl rfl ?_
    cases h
    exact xu_iret e_66 hk_66 rfl rfl rfl
  have h := xif_neg c5 h
  by_cases c8 : x1 = (0 : Int32)
  · have h := xif_pos c8 h
    refine xu_tswJ (t := 2) e_66 hk_66 rfl c8 (by decide) (by decide) rfl rfl ?_
    refine xOK_steps (fr' := (7, [some (.ref 17), some (.int x1), some (.int x2)], [.ref 17, .int (x2 >>> ((1 : Int32) &&& 31)), .ref 17])) (w' := (mk s t)) (ob := true) e_66 hk_66 5 rfl rfl ?_
    obtain ⟨q9, e10, h⟩ := Option.bind_eq_some_iff.mp h
    refine xu_callv (q := 17) (r := (some q9.1)) (av := []) (st := [.int (x2 >>> ((1 : Int32) &&& 31)), .ref 17]) (w1 := (mk q9.2 t)) e_66 hk_66 rfl (m_Processor_carry  _ _ _ e10) rfl rfl rfl rfl rfl ?_
    refine xOK_steps (fr' := (9, [some (.ref 17), some (.int x1), some (.int x2)], [.ref 17, .int q9.1, .int (x2 >>> ((1 : Int32) &&& 31)), .ref 17])) (w' := (mk q9.2 t)) (ob := true) e_66 hk_66 1 rfl rfl ?_
    obtain ⟨q11, e12, h⟩ := Option.bind_eq_some_iff.mp h
    refine xu_callv (q := 17) (r := (some q11.1)) (av := []) (st := [.int q9.1, .int (x2 >>> ((1 : Int32) &&& 31)), .ref 17]) (w1 := (mk q11.2 t)) e_66 hk_66 rfl (m_Processor_highest  _ _ _ e12) rfl rfl rfl rfl rfl ?_
    refine xOK_steps (fr' := (16, [some (.ref 17), some (.int x1), some (.int x2)], [.int (1 : Int32), .int (x2 &&& (1 : Int32)), .int ((x2 >>> ((1 : Int32) &&& 31)) ||| (q9.1 * q11.1)), .ref 17])) (w' := (mk q11.2 t)) (ob := true) e_66 hk_66 6 rfl rfl ?_
    refine xu_icmp_ne e_66 hk_66 rfl (fun c13 => ?_) (fun c13 => ?_)
    · have h := xif_neg c13 h
      refine xOK_steps (fr' := (20, [some (.ref 17), some (.int x1), some (.int x2)], [.int (0 : Int32), .int ((x2 >>> ((1 : Int32) &&& 31)) ||| (q9.1 * q11.1)), .ref 17])) (w' := (mk q11.2 t)) (ob := true) e_66 hk_66 1 rfl rfl ?_
      refine xOK_fg [0, 1, 2] ?_
      exact t_Processor_changed_54 t q _ _ _ h
    · have h := xif_pos c13 h
      refine xOK_steps (fr' := (20, [some (.ref 17), some (.int x1), some (.int x2)], [.int (1 : Int32), .int ((x2 >>> ((1 : Int32) &&& 31)) ||| (q9.1 * q11.1)), .ref 17])) (w' := (mk q11.2 t)) (ob := true) e_66 hk_66 2 rfl rfl ?_
      refine xOK_fg [0, 1, 2] ?_
      exact t_Processor_changed_54 t q _ _ _ h
  have h := xif_neg c8 h
  by_cases c14 : x1 = (1 : Int32)
  · have h := xif_pos c14 h
    refine xu_tswJ (t := 23) e_66 hk_66 rfl c14 (by decide) (by decide) rfl rfl ?_
    refine xOK_steps (fr' := (32, [some (.ref 17), some (.int x1), some (.int x2)], [.int ((x2 >>> ((8 : Int32) &&& 31)) ||| ((x2 &&& (255 : Int32)) <<< ((8 : Int32) &&& 31)))])) (w' := (mk s t)) (ob := true) e_66 hk_66 9 rfl rfl ?_
    cases h
    exact xu_iret e_66 hk_66 rfl rfl rfl
  have h := xif_neg c14 h
  by_cases c15 : x1 = (2 : Int32)
  · have h := xif_pos c15 h
    refine xu_tswJ (t := 33) e_66 hk_66 rfl c15 (by decide) (by decide) rfl rfl ?_
    refine xOK_steps (fr' := (39, [some (.ref 17), some (.int x1), some (.int x2)], [.ref 17, .int x2, .int (x2 >>> ((1 : Int32) &&& 31)), .ref 17])) (w' := (mk s t)) (ob := true) e_66 hk_66 6 rfl rfl ?_
    obtain ⟨q16, e17, h⟩ := Option.bind_eq_some_iff.mp h
    refine xu_callv (q := 17) (r := (some q16.1)) (av := []) (st := [.int x2, .int (x2 >>> ((1 : Int32) &&& 31)), .ref 17]) (w1 := (mk q16.2 t)) e_66 hk_66 rfl (m_Processor_highest  _ _ _ e17) rfl rfl rfl rfl rfl ?_
    refine xOK_steps (fr' := (46, [some (.ref 17), some (.int x1), some (.int x2)], [.int (1 : Int32), .int (x2 &&& (1 : Int32)), .int ((x2 >>> ((1 : Int32) &&& 31)) ||| (x2 &&& q16.1)), .ref 17])) (w' := (mk q16.2 t)) (ob := true) e_66 hk_66 6 rfl rfl ?_
    refine xu_icmp_ne e_66 hk_66 rfl (fun c18 => ?_) (fun c18 => ?_)
    · have h := xif_neg c18 h
      refine xOK_steps (fr' := (50, [some (.ref 17), some (.int x1), some (.int x2)], [.int (0 : Int32), .int ((x2 >>> ((1 : Int32) &&& 31)) ||| (x2 &&& q16.1)), .ref 17])) (w' := (mk q16.2 t)) (ob := true) e_66 hk_66 1 rfl rfl ?_
      refine xOK_fg [0, 1, 2] ?_
      exact t_Processor_changed_96 t q _ _ _ h
    · have h := xif_pos c18 h
      refine xOK_steps (fr' := (50, [some (.ref 17), some (.int x1), some (.int x2)], [.int (1 : Int32), .int ((x2 >>> ((1 : Int32) &&& 31)) ||| (x2 &&& q16.1)), .ref 17])) (w' := (mk q16.2 t)) (ob := true) e_66 hk_66 2 rfl rfl ?_
      refine xOK_fg [0, 1, 2] ?_
      exact t_Processor_changed_96 t q _ _ _ h
  have h := xif_neg c15 h
  cases h
set_option maxRecDepth 100000 in
set_option maxHeartbeats 4000000 in
theorem t_Processor_setFlags_17 (t : xS) (q : xS) (s : xS) (h : f_Processor_setFlags_17  s = some q) : xOK 71 none (xEnd 71 none (mk q t)) (9, [none], []) (mk s t) 0 0 := by
  unfold f_Processor_setFlags_17 at h
  cases h
  exact xu_vret e_71 hk_71 rfl rfl
set_option maxRecDepth 100000 in
set_option maxHeartbeats 4000000 in
theorem m_Processor_setFlags (s t : xS) (q : xS) (h : f_Processor_setFlags  s = some q) : xMet 71 [.ref 17] (mk s t) none (mk q t) := by
  refine xMet_of hk_71 rfl rfl rfl ?_
  refine xOK_eq (fr := (0, [some (.ref 17)], [])) rfl ?_
  unfold f_Processor_setFlags at h
  refine xOK_steps (fr' := (2, [some (.ref 17)], [.int (s.1 17)])) (w' := (mk s t)) (ob := true) e_71 hk_71 2 rfl rfl ?_
  refine xu_if_eq e_71 hk_71 rfl (fun c1 => ?_) (fun c1 => ?_)
  · have h := xif_pos c1 h
    refine xOK_fg [0] ?_
    exact t_Processor_setFlags_17 t q  _ h
  · have h := xif_neg c1 h
    refine xOK_steps (fr' := (9, [some (.ref 17)], [])) (w' := (mk (xsa s 10 2 (s.1 16)) t)) (ob := true) e_71 hk_71 6 rfl rfl ?_
    refine xOK_fg [0] ?_
    exact t_Processor_setFlags_17 t q  _ h
set_option maxRecDepth 100000 in
set_option maxHeartbeats 4000000 in
theorem t_Section_noteStore_41 (t : xS) (q : (Int32 × xS)) (y0 : Int32) (s : xS) (h : f_Section_noteStore_41 y0 s = some q) : xOK 44 none (xEnd 44 (some q.1) (mk q.2 t)) (25, [none, none], [.int y0]) (mk s t) 0 0 := by
  unfold f_Section_noteStore_41 at h
  by_cases o1 : xbl y0 = true
  case neg => have h := xif_neg o1 h; cases h
  have h := xif_pos o1 h
  cases h
  exact xu_iret e_44 hk_44 rfl o1 rfl
set_option maxRecDepth 100000 in
set_option maxHeartbeats 4000000 in
theorem t_Section_noteStore_26 (t : xS) (q : (Int32 × xS)) (x1 : Int32) (s : xS) (h : f_Section_noteStore_26 x1 s = some q) : xOK 44 none (xEnd 44 (some q.1) (mk q.2 t)) (16, [some (.ref 9), some (.int x1)], []) (mk s t) 0 0 := by
  unfold f_Section_noteStore_26 at h
  by_cases o2 : xin x1 128 = true
  case neg => have h := xif_neg o2 h; cases h
  have h := xif_pos o2 h
  refine xOK_steps (fr' := (21, [some (.ref 9), some (.int x1)], [.int (1 : Int32), .int ((s.2 5) (x1).toNatClampNeg)])) (w' := (mk s t)) (ob := xin x1 128 && (true)) e_44 hk_44 5 rfl (xand o2 rfl) ?_
  refine xu_icmp_ne e_44 hk_44 rfl (fun c3 => ?_) (fun c3 => ?_)
  · have h := xif_neg c3 h
    refine xOK_steps (fr' := (25, [some (.ref 9), some (.int x1)], [.int (0 : Int32)])) (w' := (mk s t)) (ob := true) e_44 hk_44 1 rfl rfl ?_
    refine xOK_fg [0, 1] ?_
    exact t_Section_noteStore_41 t q _ _ h
  · have h := xif_pos c3 h
    refine xOK_steps (fr' := (25, [some (.ref 9), some (.int x1)], [.int (1 : Int32)])) (w' := (mk s t)) (ob := true) e_44 hk_44 2 rfl rfl ?_
    refine xOK_fg [0, 1] ?_
    exact t_Section_noteStore_41 t q _ _ h
set_option maxRecDepth 100000 in
set_option maxHeartbeats 4000000 in
theorem m_Section_noteStore (x1 : Int32) (s t : xS) (q : (Int32 × xS)) (h : f_Section_noteStore x1 s = some q) : xMet 44 [.ref 9, .int x1] (mk s t) (some q.1) (mk q.2 t) := by
  refine xMet_of hk_44 rfl rfl rfl ?_
  refine xOK_eq (fr := (0, [some (.ref 9), some (.int x1)], [])) rfl ?_
  unfold f_Section_noteStore at h
  by_cases o4 : xin x1 128 = true
  case neg => have h := xif_neg o4 h; cases h
  have h := xif_pos o4 h
  refine xOK_steps (fr' := (4, [some (.ref 9), some (.int x1)], [.int ((s.2 5) (x1).toNatClampNeg)])) (w' := (mk s t)) (ob := xin x1 128 && (true)) e_44 hk_44 4 rfl (xand o4 rfl) ?_
  refine xu_if_ne e_44 hk_44 rfl (fun c5 => ?_) (fun c5 => ?_)
  · have h := xif_neg c5 h
    exact t_Section_noteStore_26 t q _ _ h
  · have h := xif_pos c5 h
    by_cases o6 : xin x1 128 = true
    case neg => have h := xif_neg o6 h; cases h
    have h := xif_pos o6 h
    refine xOK_steps (fr' := (16, [some (.ref 9), some (.int x1)], [])) (w' := (mk (xsc (xsa s 5 (x1).toNatClampNeg (2 : Int32)) 7 ((s.1 7) + (1 : Int32))) t)) (ob := xin x1 128 && (true)) e_44 hk_44 11 rfl (xand o6 rfl) ?_
    exact t_Section_noteStore_26 t q _ _ h
set_option maxRecDepth 100000 in
set_option maxHeartbeats 4000000 in
theorem t_Held_holdWord_59 (t : xS) (q : xS) (s : xS) (h : f_Held_holdWord_59  s = some q) : xOK 38 none (xEnd 38 none (mk q t)) (35, [none, none, none, none], []) (mk s t) 0 0 := by
  unfold f_Held_holdWord_59 at h
  cases h
  exact xu_vret e_38 hk_38 rfl rfl
set_option maxRecDepth 100000 in
set_option maxHeartbeats 4000000 in
theorem t_Held_holdWord_26 (t : xS) (q : xS) (x1 x2 x3 : Int32) (s : xS) (h : f_Held_holdWord_26 x1 x2 x3 s = some q) : xOK 38 none (xEnd 38 none (mk q t)) (14, [some (.ref 11), some (.int x1), some (.int x2), some (.int x3)], []) (mk s t) 0 0 := by
  unfold f_Held_holdWord_26 at h
  refine xOK_steps (fr' := (16, [some (.ref 11), some (.int x1), some (.int x2), some (.int x3)], [.int (4 : Int32), .int x3])) (w' := (mk s t)) (ob := true) e_38 hk_38 2 rfl rfl ?_
  refine xu_icmp_ge e_38 hk_38 rfl (fun c1 => ?_) (fun c1 => ?_)
  · have h := xif_pos c1 h
    refine xOK_fg [0, 1, 2, 3] ?_
    exact t_Held_holdWord_59 t q  _ h
  · have h := xif_neg c1 h
    by_cases o2 : xin x3 4 = true
    case neg => have h := xif_neg o2 h; cases h
    have h := xif_pos o2 h
    by_cases o3 : xin x3 4 = true
    case neg => have h := xif_neg o3 h; cases h
    have h := xif_pos o3 h
    refine xOK_steps (fr' := (33, [some (.ref 11), some (.int x1), some (.int x2), some (.int x3)], [.int (x3 + (1 : Int32)), .int (s.1 10), .ref 11])) (w' := (mk (xsa (xsa s 6 (x3).toNatClampNeg x1) 7 (x3).toNatClampNeg x2) t)) (ob := xin x3 4 && (xin x3 4 && (true))) e_38 hk_38 16 rfl (xand o2 (xand o3 rfl)) ?_
    refine xu_max e_38 hk_38 rfl rfl rfl ?_
    refine xOK_steps (fr' := (35, [some (.ref 11), some (.int x1), some (.int x2), some (.int x3)], [])) (w' := (mk (xsc (xsa (xsa s 6 (x3).toNatClampNeg x1) 7 (x3).toNatClampNeg x2) 10 (if (s.1 10) < (x3 + (1 : Int32)) then (x3 + (1 : Int32)) else (s.1 10))) t)) (ob := true) e_38 hk_38 1 rfl rfl ?_
    refine xOK_fg [0, 1, 2, 3] ?_
    exact t_Held_holdWord_59 t q  _ h
set_option maxRecDepth 100000 in
set_option maxHeartbeats 4000000 in
theorem t_Held_holdWord_2 (t : xS) (q : xS) : ∀ (n : Nat), ∀ (x1 x2 x3 : Int32) (s : xS), f_Held_holdWord_2 n x1 x2 x3 s = some q → xOK 38 none (xEnd 38 none (mk q t)) (2, [some (.ref 11), some (.int x1), some (.int x2), some (.int x3)], []) (mk s t) 0 0 := by
  intro n
  induction n with
  | zero => intro x1 x2 x3 s h; cases h
  | succ n ih =>
    intro x1 x2 x3 s h
    unfold f_Held_holdWord_2 at h
    refine xOK_steps (fr' := (5, [some (.ref 11), some (.int x1), some (.int x2), some (.int x3)], [.int (s.1 10), .int x3])) (w' := (mk s t)) (ob := true) e_38 hk_38 3 rfl rfl ?_
    refine xu_icmp_ge e_38 hk_38 rfl (fun c4 => ?_) (fun c4 => ?_)
    · have h := xif_pos c4 h
      exact t_Held_holdWord_26 t q _ _ _ _ h
    · have h := xif_neg c4 h
      by_cases o5 : xin x3 4 = true
      case neg => have h := xif_neg o5 h; cases h
      have h := xif_pos o5 h
      refine xOK_steps (fr' := (11, [some (.ref 11), some (.int x1), some (.int x2), some (.int x3)], [.int x1, .int ((s.2 6) (x3).toNatClampNeg)])) (w' := (mk s t)) (ob := xin x3 4 && (true)) e_38 hk_38 5 rfl (xand o5 rfl) ?_
      refine xu_icmp_eq e_38 hk_38 rfl (fun c6 => ?_) (fun c6 => ?_)
      · have h := xif_pos c6 h
        exact t_Held_holdWord_26 t q _ _ _ _ h
      · have h := xif_neg c6 h
        refine xOK_steps (fr' := (2, [some (.ref 11), some (.int x1), some (.int x2), some (.int (x3 + (1 : Int32)))], [])) (w' := (mk s t)) (ob := true) e_38 hk_38 2 rfl rfl ?_
        exact ih _ _ _ _ h
set_option maxRecDepth 100000 in
set_option maxHeartbeats 4000000 in
theorem m_Held_holdWord (x1 x2 : Int32) (s t : xS) (q : xS) (h : f_Held_holdWord x1 x2 s = some q) : xMet 38 [.ref 11, .int x1, .int x2] (mk s t) none (mk q t) := by
  refine xMet_of hk_38 rfl rfl rfl ?_
  refine xOK_eq (fr := (0, [some (.ref 11), some (.int x1), some (.int x2), none], [])) rfl ?_
  unfold f_Held_holdWord at h
  refine xOK_steps (fr' := (2, [some (.ref 11), some (.int x1), some (.int x2), some (.int (0 : Int32))], [])) (w' := (mk s t)) (ob := true) e_38 hk_38 2 rfl rfl ?_
  exact t_Held_holdWord_2 t q _ _ _ _ _ h
set_option maxRecDepth 100000 in
set_option maxHeartbeats 4000000 in
theorem t_Bus_storeFram_47 (t : xS) (q : xS) (s : xS) (h : f_Bus_storeFram_47  s = some q) : xOK 52 none (xEnd 52 none (mk q t)) (23, [none, none, none], []) (mk s t) 0 0 := by
  unfold f_Bus_storeFram_47 at h
  cases h
  exact xu_vret e_52 hk_52 rfl rfl
set_option maxRecDepth 100000 in
set_option maxHeartbeats 4000000 in
theorem m_Bus_storeFram (x1 x2 : Int32) (s t : xS) (q : xS) (h : f_Bus_storeFram x1 x2 s = some q) : xMet 52 [.ref 15, .int x1, .int x2] (mk s t) none (mk q t) := by
  refine xMet_of hk_52 rfl rfl rfl ?_
  refine xOK_eq (fr := (0, [some (.ref 15), some (.int x1), some (.int x2)], [])) rfl ?_
  unfold f_Bus_storeFram at h
  refine xOK_steps (fr' := (3, [some (.ref 15), some (.int x1), some (.int x2)], [.int x1, .ref 9])) (w' := (mk s t)) (ob := true) e_52 hk_52 3 rfl rfl ?_
  obtain ⟨q1, e2, h⟩ := Option.bind_eq_some_iff.mp h
  refine xu_callv (q := 9) (r := (some q1.1)) (av := [.int x1]) (st := []) (w1 := (mk q1.2 t)) e_52 hk_52 rfl (m_Section_noteStore _ _ _ _ e2) rfl rfl rfl rfl rfl ?_
  refine xu_if_eq e_52 hk_52 rfl (fun c3 => ?_) (fun c3 => ?_)
  · have h := xif_pos c3 h
    refine xOK_steps (fr' := (15, [some (.ref 15), some (.int x1), some (.int x2)], [.int (0 : Int32), .ref 1])) (w' := (mk q1.2 t)) (ob := true) e_52 hk_52 3 rfl rfl ?_
    obtain ⟨q4, e5, h⟩ := Option.bind_eq_some_iff.mp h
    refine xu_callv (q := 1) (r := (some q4.1)) (av := [.int (0 : Int32)]) (st := []) (w1 := (mk q4.2 t)) e_52 hk_52 rfl (m_Power_allows _ _ _ _ e5) rfl rfl rfl rfl rfl ?_
    refine xu_if_eq e_52 hk_52 rfl (fun c6 => ?_) (fun c6 => ?_)
    · have h := xif_pos c6 h
      refine xOK_fg [0, 1, 2] ?_
      exact t_Bus_storeFram_47 t q  _ h
    · have h := xif_neg c6 h
      by_cases o7 : xin x1 128 = true
      case neg => have h := xif_neg o7 h; cases h
      have h := xif_pos o7 h
      refine xOK_steps (fr' := (23, [some (.ref 15), some (.int x1), some (.int x2)], [])) (w' := (mk (xsa q4.2 1 (x1).toNatClampNeg x2) t)) (ob := xin x1 128 && (true)) e_52 hk_52 6 rfl (xand o7 rfl) ?_
      refine xOK_fg [0, 1, 2] ?_
      exact t_Bus_storeFram_47 t q  _ h
  · have h := xif_neg c3 h
    refine xOK_steps (fr' := (10, [some (.ref 15), some (.int x1), some (.int x2)], [.int x2, .int x1, .ref 11])) (w' := (mk q1.2 t)) (ob := true) e_52 hk_52 5 rfl rfl ?_
    obtain ⟨q8, e9, h⟩ := Option.bind_eq_some_iff.mp h
    refine xu_callv (q := 11) (r := none) (av := [.int x1, .int x2]) (st := []) (w1 := (mk q8 t)) e_52 hk_52 rfl (m_Held_holdWord _ _ _ _ _ e9) rfl rfl rfl rfl rfl ?_
    refine xOK_steps (fr' := (23, [some (.ref 15), some (.int x1), some (.int x2)], [])) (w' := (mk q8 t)) (ob := true) e_52 hk_52 1 rfl rfl ?_
    refine xOK_fg [0, 1, 2] ?_
    exact t_Bus_storeFram_47 t q  _ h
set_option maxRecDepth 100000 in
set_option maxHeartbeats 4000000 in
theorem t_Lasting_hasRoomFor_17 (t : xS) (q : (Int32 × xS)) (y0 : Int32) (s : xS) (h : f_Lasting_hasRoomFor_17 y0 s = some q) : xOK 26 none (xEnd 26 (some q.1) (mk q.2 t)) (9, [none, none], [.int y0]) (mk s t) 0 0 := by
  unfold f_Lasting_hasRoomFor_17 at h
  by_cases o1 : xbl y0 = true
  case neg => have h := xif_neg o1 h; cases h
  have h := xif_pos o1 h
  cases h
  exact xu_iret e_26 hk_26 rfl o1 rfl
set_option maxRecDepth 100000 in
set_option maxHeartbeats 4000000 in
theorem m_Lasting_hasRoomFor (x1 : Int32) (s t : xS) (q : (Int32 × xS)) (h : f_Lasting_hasRoomFor x1 s = some q) : xMet 26 [.ref 3, .int x1] (mk s t) (some q.1) (mk q.2 t) := by
  refine xMet_of hk_26 rfl rfl rfl ?_
  refine xOK_eq (fr := (0, [some (.ref 3), some (.int x1)], [])) rfl ?_
  unfold f_Lasting_hasRoomFor at h
  refine xOK_steps (fr' := (5, [some (.ref 3), some (.int x1)], [.int (200 : Int32), .int ((s.1 4) + x1)])) (w' := (mk s t)) (ob := true) e_26 hk_26 5 rfl rfl ?_
  refine xu_icmp_ge e_26 hk_26 rfl (fun c2 => ?_) (fun c2 => ?_)
  · have h := xif_pos c2 h
    refine xOK_steps (fr' := (9, [some (.ref 3), some (.int x1)], [.int (0 : Int32)])) (w' := (mk s t)) (ob := true) e_26 hk_26 1 rfl rfl ?_
    refine xOK_fg [0, 1] ?_
    exact t_Lasting_hasRoomFor_17 t q _ _ h
  · have h := xif_neg c2 h
    refine xOK_steps (fr' := (9, [some (.ref 3), some (.int x1)], [.int (1 : Int32)])) (w' := (mk s t)) (ob := true) e_26 hk_26 2 rfl rfl ?_
    refine xOK_fg [0, 1] ?_
    exact t_Lasting_hasRoomFor_17 t q _ _ h
set_option maxRecDepth 100000 in
set_option maxHeartbeats 4000000 in
theorem t_Held_holdRecord_28 (t : xS) (q : xS) (s : xS) (h : f_Held_holdRecord_28  s = some q) : xOK 39 none (xEnd 39 none (mk q t)) (16, [none, none], []) (mk s t) 0 0 := by
  unfold f_Held_holdRecord_28 at h
  cases h
  exact xu_vret e_39 hk_39 rfl rfl
set_option maxRecDepth 100000 in
set_option maxHeartbeats 4000000 in
theorem m_Held_holdRecord (x1 : Int32) (s t : xS) (q : xS) (h : f_Held_holdRecord x1 s = some q) : xMet 39 [.ref 11, .int x1] (mk s t) none (mk q t) := by
  refine xMet_of hk_39 rfl rfl rfl ?_
  refine xOK_eq (fr := (0, [some (.ref 11), some (.int x1)], [])) rfl ?_
  unfold f_Held_holdRecord at h
  refine xOK_steps (fr' := (3, [some (.ref 11), some (.int x1)], [.int (4 : Int32), .int (s.1 11)])) (w' := (mk s t)) (ob := true) e_39 hk_39 3 rfl rfl ?_
  refine xu_icmp_ge e_39 hk_39 rfl (fun c1 => ?_) (fun c1 => ?_)
  · have h := xif_pos c1 h
    refine xOK_fg [0, 1] ?_
    exact t_Held_holdRecord_28 t q  _ h
  · have h := xif_neg c1 h
    by_cases o2 : xin (s.1 11) 4 = true
    case neg => have h := xif_neg o2 h; cases h
    have h := xif_pos o2 h
    refine xOK_steps (fr' := (16, [some (.ref 11), some (.int x1)], [])) (w' := (mk (xsc (xsa s 8 (s.1 11).toNatClampNeg x1) 11 ((s.1 11) + (1 : Int32))) t)) (ob := xin (s.1 11) 4 && (true)) e_39 hk_39 12 rfl (xand o2 rfl) ?_
    refine xOK_fg [0, 1] ?_
    exact t_Held_holdRecord_28 t q  _ h
set_option maxRecDepth 100000 in
set_option maxHeartbeats 4000000 in
theorem t_Bus_storeDevice_51 (t : xS) (q : xS) (s : xS) (h : f_Bus_storeDevice_51  s = some q) : xOK 53 none (xEnd 53 none (mk q t)) (23, [none, none, none], []) (mk s t) 0 0 := by
  unfold f_Bus_storeDevice_51 at h
  cases h
  exact xu_vret e_53 hk_53 rfl rfl
set_option maxRecDepth 100000 in
set_option maxHeartbeats 4000000 in
theorem t_Bus_storeDevice_40 (t : xS) (q : xS) (x1 : Int32) (s : xS) (h : f_Bus_storeDevice_40 x1 s = some q) : xOK 53 none (xEnd 53 none (mk q t)) (17, [some (.ref 15), some (.int x1), none], []) (mk s t) 0 0 := by
  unfold f_Bus_storeDevice_40 at h
  refine xOK_steps (fr' := (19, [some (.ref 15), some (.int x1), none], [.int (20 : Int32), .int x1])) (w' := (mk s t)) (ob := true) e_53 hk_53 2 rfl rfl ?_
  refine xu_icmp_ne e_53 hk_53 rfl (fun c1 => ?_) (fun c1 => ?_)
  · have h := xif_neg c1 h
    refine xOK_fg [0, 1] ?_
    exact t_Bus_storeDevice_51 t q  _ h
  · have h := xif_pos c1 h
    refine xOK_steps (fr' := (23, [some (.ref 15), some (.int x1), none], [])) (w' := (mk (xsc s 12 (1 : Int32)) t)) (ob := true) e_53 hk_53 3 rfl rfl ?_
    refine xOK_fg [0, 1] ?_
    exact t_Bus_storeDevice_51 t q  _ h
set_option maxRecDepth 100000 in
set_option maxHeartbeats 4000000 in
theorem m_Bus_storeDevice (x1 x2 : Int32) (s t : xS) (q : xS) (h : f_Bus_storeDevice x1 x2 s = some q) : xMet 53 [.ref 15, .int x1, .int x2] (mk s t) none (mk q t) := by
  refine xMet_of hk_53 rfl rfl rfl ?_
  refine xOK_eq (fr := (0, [some (.ref 15), some (.int x1), some (.int x2)], [])) rfl ?_
  unfold f_Bus_storeDevice at h
  refine xOK_steps (fr' := (2, [some (.ref 15), some (.int x1), some (.int x2)], [.int (18 : Int32), .int x1])) (w' := (mk s t)) (ob := true) e_53 hk_53 2 rfl rfl ?_
  refine xu_icmp_ne e_53 hk_53 rfl (fun c2 => ?_) (fun c2 => ?_)
  · have h := xif_neg c2 h
    refine xOK_fg [2] ?_
    exact t_Bus_storeDevice_40 t q _ _ h
  · have h := xif_pos c2 h
    refine xOK_steps (fr' := (9, [some (.ref 15), some (.int x1), some (.int x2)], [.int (s.1 11), .ref 3])) (w' := (mk s t)) (ob := true) e_53 hk_53 6 rfl rfl ?_
    obtain ⟨q3, e4, h⟩ := Option.bind_eq_some_iff.mp h
    refine xu_callv (q := 3) (r := (some q3.1)) (av := [.int (s.1 11)]) (st := []) (w1 := (mk q3.2 t)) e_53 hk_53 rfl (m_Lasting_hasRoomFor _ _ _ _ e4) rfl rfl rfl rfl rfl ?_
    refine xu_if_eq e_53 hk_53 rfl (fun c5 => ?_) (fun c5 => ?_)
    · have h := xif_pos c5 h
      refine xOK_fg [2] ?_
      exact t_Bus_storeDevice_40 t q _ _ h
    · have h := xif_neg c5 h
      refine xOK_steps (fr' := (15, [some (.ref 15), some (.int x1), some (.int x2)], [.int x2, .ref 11])) (w' := (mk q3.2 t)) (ob := true) e_53 hk_53 4 rfl rfl ?_
      obtain ⟨q6, e7, h⟩ := Option.bind_eq_some_iff.mp h
      refine xu_callv (q := 11) (r := none) (av := [.int x2]) (st := []) (w1 := (mk q6 t)) e_53 hk_53 rfl (m_Held_holdRecord _ _ _ _ e7) rfl rfl rfl rfl rfl ?_
      refine xOK_steps (fr' := (23, [some (.ref 15), some (.int x1), some (.int x2)], [])) (w' := (mk q6 t)) (ob := true) e_53 hk_53 1 rfl rfl ?_
      refine xOK_fg [0, 1, 2] ?_
      exact t_Bus_storeDevice_51 t q  _ h
set_option maxRecDepth 100000 in
set_option maxHeartbeats 4000000 in
theorem t_Bus_peek_27 (t : xS) (q : (Int32 × xS)) (y0 : Int32) (s : xS) (h : f_Bus_peek_27 y0 s = some q) : xOK 50 none (xEnd 50 (some q.1) (mk q.2 t)) (13, [none, none, none], [.int y0]) (mk s t) 0 0 := by
  unfold f_Bus_peek_27 at h
  cases h
  exact xu_iret e_50 hk_50 rfl rfl rfl
set_option maxRecDepth 100000 in
set_option maxHeartbeats 4000000 in
theorem m_Bus_peek (x1 : Int32) (s t : xS) (q : (Int32 × xS)) (h : f_Bus_peek x1 s = some q) : xMet 50 [.ref 15, .int x1] (mk s t) (some q.1) (mk q.2 t) := by
  refine xMet_of hk_50 rfl rfl rfl ?_
  refine xOK_eq (fr := (0, [some (.ref 15), some (.int x1), none], [])) rfl ?_
  unfold f_Bus_peek at h
  refine xOK_steps (fr' := (1, [some (.ref 15), some (.int x1), none], [.int x1])) (w' := (mk s t)) (ob := true) e_50 hk_50 1 rfl rfl ?_
  obtain ⟨q1, e2, h⟩ := Option.bind_eq_some_iff.mp h
  refine xu_calls (r := (some q1)) (av := [.int x1]) (st := []) (w1 := (mk s t)) e_50 hk_50 rfl rfl (m_Bus_inFram _ _ _ _ e2) rfl rfl rfl rfl ?_
  refine xu_if_ne e_50 hk_50 rfl (fun c3 => ?_) (fun c3 => ?_)
  · have h := xif_neg c3 h
    refine xOK_steps (fr' := (15, [some (.ref 15), some (.int x1), none], [.int x1])) (w' := (mk s t)) (ob := true) e_50 hk_50 1 rfl rfl ?_
    obtain ⟨q4, e5, h⟩ := Option.bind_eq_some_iff.mp h
    refine xu_calls (r := (some q4)) (av := [.int x1]) (st := []) (w1 := (mk s t)) e_50 hk_50 rfl rfl (m_Bus_framWord _ _ _ _ e5) rfl rfl rfl rfl ?_
    by_cases o6 : xin q4 128 = true
    case neg => have h := xif_neg o6 h; cases h
    have h := xif_pos o6 h
    refine xOK_steps (fr' := (26, [some (.ref 15), some (.int x1), some (.int q4)], [.int ((s.2 1) (q4).toNatClampNeg), .int q4, .ref 11])) (w' := (mk s t)) (ob := xin q4 128 && (true)) e_50 hk_50 10 rfl (xand o6 rfl) ?_
    obtain ⟨q7, e8, h⟩ := Option.bind_eq_some_iff.mp h
    refine xu_callv (q := 11) (r := (some q7.1)) (av := [.int q4, .int ((s.2 1) (q4).toNatClampNeg)]) (st := []) (w1 := (mk q7.2 t)) e_50 hk_50 rfl (m_Held_valueOf _ _ _ _ _ e8) rfl rfl rfl rfl rfl ?_
    cases h
    exact xu_iret e_50 hk_50 rfl rfl rfl
  · have h := xif_pos c3 h
    refine xOK_steps (fr' := (4, [some (.ref 15), some (.int x1), none], [.int x1])) (w' := (mk s t)) (ob := true) e_50 hk_50 1 rfl rfl ?_
    obtain ⟨q9, e10, h⟩ := Option.bind_eq_some_iff.mp h
    refine xu_calls (r := (some q9)) (av := [.int x1]) (st := []) (w1 := (mk s t)) e_50 hk_50 rfl rfl (m_Bus_inSram _ _ _ _ e10) rfl rfl rfl rfl ?_
    refine xu_if_eq e_50 hk_50 rfl (fun c11 => ?_) (fun c11 => ?_)
    · have h := xif_pos c11 h
      refine xOK_steps (fr' := (13, [some (.ref 15), some (.int x1), none], [.int (0 : Int32)])) (w' := (mk s t)) (ob := true) e_50 hk_50 1 rfl rfl ?_
      refine xOK_fg [0, 1] ?_
      exact t_Bus_peek_27 t q _ _ h
    · have h := xif_neg c11 h
      refine xOK_steps (fr' := (9, [some (.ref 15), some (.int x1), none], [.int x1, .ref 16])) (w' := (mk s t)) (ob := true) e_50 hk_50 3 rfl rfl ?_
      obtain ⟨q12, e13, h⟩ := Option.bind_eq_some_iff.mp h
      refine xu_calls (r := (some q12)) (av := [.int x1]) (st := [.ref 16]) (w1 := (mk s t)) e_50 hk_50 rfl rfl (m_Bus_sramWord _ _ _ _ e13) rfl rfl rfl rfl ?_
      by_cases o14 : xin q12 16 = true
      case neg => have h := xif_neg o14 h; cases h
      have h := xif_pos o14 h
      refine xOK_steps (fr' := (13, [some (.ref 15), some (.int x1), none], [.int ((s.2 9) (q12).toNatClampNeg)])) (w' := (mk s t)) (ob := xin q12 16 && (true)) e_50 hk_50 2 rfl (xand o14 rfl) ?_
      refine xOK_fg [0, 1] ?_
      exact t_Bus_peek_27 t q _ _ h
set_option maxRecDepth 100000 in
set_option maxHeartbeats 4000000 in
theorem t_Bus_write_85 (t : xS) (q : xS) (s : xS) (h : f_Bus_write_85  s = some q) : xOK 49 none (xEnd 49 none (mk q t)) (43, [none, none, none, none, none], []) (mk s t) 0 0 := by
  unfold f_Bus_write_85 at h
  cases h
  exact xu_vret e_49 hk_49 rfl rfl
set_option maxRecDepth 100000 in
set_option maxHeartbeats 4000000 in
theorem t_Bus_write_63 (t : xS) (q : xS) (x1 x4 : Int32) (s : xS) (h : f_Bus_write_63 x1 x4 s = some q) : xOK 49 none (xEnd 49 none (mk q t)) (31, [some (.ref 15), some (.int x1), none, none, some (.int x4)], []) (mk s t) 0 0 := by
  unfold f_Bus_write_63 at h
  refine xOK_steps (fr' := (33, [some (.ref 15), some (.int x1), none, none, some (.int x4)], [.int x1, .ref 15])) (w' := (mk s t)) (ob := true) e_49 hk_49 2 rfl rfl ?_
  obtain ⟨q1, e2, h⟩ := Option.bind_eq_some_iff.mp h
  refine xu_calls (r := (some q1)) (av := [.int x1]) (st := [.ref 15]) (w1 := (mk s t)) e_49 hk_49 rfl rfl (m_Bus_framWord _ _ _ _ e2) rfl rfl rfl rfl ?_
  refine xOK_steps (fr' := (35, [some (.ref 15), some (.int x1), none, none, some (.int x4)], [.int x4, .int q1, .ref 15])) (w' := (mk s t)) (ob := true) e_49 hk_49 1 rfl rfl ?_
  obtain ⟨q3, e4, h⟩ := Option.bind_eq_some_iff.mp h
  refine xu_callv (q := 15) (r := none) (av := [.int q1, .int x4]) (st := []) (w1 := (mk q3 t)) e_49 hk_49 rfl (m_Bus_storeFram _ _ _ _ _ e4) rfl rfl rfl rfl rfl ?_
  refine xOK_steps (fr' := (43, [some (.ref 15), some (.int x1), none, none, some (.int x4)], [])) (w' := (mk q3 t)) (ob := true) e_49 hk_49 1 rfl rfl ?_
  refine xOK_fg [0, 1, 4] ?_
  exact t_Bus_write_85 t q  _ h
set_option maxRecDepth 100000 in
set_option maxHeartbeats 4000000 in
theorem t_Bus_write_18 (t : xS) (q : xS) (x1 x2 x3 y0 : Int32) (s : xS) (h : f_Bus_write_18 x1 x2 x3 y0 s = some q) : xOK 49 none (xEnd 49 none (mk q t)) (10, [some (.ref 15), some (.int x1), some (.int x2), some (.int x3), none], [.int y0]) (mk s t) 0 0 := by
  unfold f_Bus_write_18 at h
  refine xOK_steps (fr' := (12, [some (.ref 15), some (.int x1), some (.int x2), some (.int x3), some (.int y0)], [.int x1])) (w' := (mk s t)) (ob := true) e_49 hk_49 2 rfl rfl ?_
  obtain ⟨q5, e6, h⟩ := Option.bind_eq_some_iff.mp h
  refine xu_calls (r := (some q5)) (av := [.int x1]) (st := []) (w1 := (mk s t)) e_49 hk_49 rfl rfl (m_Bus_inSram _ _ _ _ e6) rfl rfl rfl rfl ?_
  refine xu_if_eq e_49 hk_49 rfl (fun c7 => ?_) (fun c7 => ?_)
  · have h := xif_pos c7 h
    refine xOK_steps (fr' := (22, [some (.ref 15), some (.int x1), some (.int x2), some (.int x3), some (.int y0)], [.int x1])) (w' := (mk s t)) (ob := true) e_49 hk_49 1 rfl rfl ?_
    obtain ⟨q8, e9, h⟩ := Option.bind_eq_some_iff.mp h
    refine xu_calls (r := (some q8)) (av := [.int x1]) (st := []) (w1 := (mk s t)) e_49 hk_49 rfl rfl (m_Bus_inFram _ _ _ _ e9) rfl rfl rfl rfl ?_
    refine xu_if_eq e_49 hk_49 rfl (fun c10 => ?_) (fun c10 => ?_)
    · have h := xif_pos c10 h
      refine xOK_steps (fr' := (42, [some (.ref 15), some (.int x1), some (.int x2), some (.int x3), some (.int y0)], [.int x2, .int (x1 &&& (65534 : Int32)), .ref 15])) (w' := (mk s t)) (ob := true) e_49 hk_49 5 rfl rfl ?_
      obtain ⟨q11, e12, h⟩ := Option.bind_eq_some_iff.mp h
      refine xu_callv (q := 15) (r := none) (av := [.int (x1 &&& (65534 : Int32)), .int x2]) (st := []) (w1 := (mk q11 t)) e_49 hk_49 rfl (m_Bus_storeDevice _ _ _ _ _ e12) rfl rfl rfl rfl rfl ?_
      refine xOK_fg [0, 1, 2, 3, 4] ?_
      exact t_Bus_write_85 t q  _ h
    · have h := xif_neg c10 h
      refine xOK_steps (fr' := (25, [some (.ref 15), some (.int x1), some (.int x2), some (.int x3), some (.int y0)], [.int x3])) (w' := (mk s t)) (ob := true) e_49 hk_49 1 rfl rfl ?_
      refine xu_if_eq e_49 hk_49 rfl (fun c13 => ?_) (fun c13 => ?_)
      · have h := xif_pos c13 h
        refine xOK_fg [2, 3] ?_
        exact t_Bus_write_63 t q _ _ _ h
      · have h := xif_neg c13 h
        refine xOK_steps (fr' := (29, [some (.ref 15), some (.int x1), some (.int x2), some (.int x3), some (.int y0)], [.int x1, .ref 9])) (w' := (mk s t)) (ob := true) e_49 hk_49 3 rfl rfl ?_
        obtain ⟨q14, e15, h⟩ := Option.bind_eq_some_iff.mp h
        refine xu_calls (r := (some q14)) (av := [.int x1]) (st := [.ref 9]) (w1 := (mk s t)) e_49 hk_49 rfl rfl (m_Bus_framWord _ _ _ _ e15) rfl rfl rfl rfl ?_
        obtain ⟨q16, e17, h⟩ := Option.bind_eq_some_iff.mp h
        refine xu_callv (q := 9) (r := none) (av := [.int q14]) (st := []) (w1 := (mk q16 t)) e_49 hk_49 rfl (m_Section_noteLoad _ _ _ _ e17) rfl rfl rfl rfl rfl ?_
        refine xOK_fg [2, 3] ?_
        exact t_Bus_write_63 t q _ _ _ h
  · have h := xif_neg c7 h
    refine xOK_steps (fr' := (17, [some (.ref 15), some (.int x1), some (.int x2), some (.int x3), some (.int y0)], [.int x1, .ref 16])) (w' := (mk s t)) (ob := true) e_49 hk_49 3 rfl rfl ?_
    obtain ⟨q18, e19, h⟩ := Option.bind_eq_some_iff.mp h
    refine xu_calls (r := (some q18)) (av := [.int x1]) (st := [.ref 16]) (w1 := (mk s t)) e_49 hk_49 rfl rfl (m_Bus_sramWord _ _ _ _ e19) rfl rfl rfl rfl ?_
    by_cases o20 : xin q18 16 = true
    case neg => have h := xif_neg o20 h; cases h
    have h := xif_pos o20 h
    refine xOK_steps (fr' := (43, [some (.ref 15), some (.int x1), some (.int x2), some (.int x3), some (.int y0)], [])) (w' := (mk (xsa s 9 (q18).toNatClampNeg y0) t)) (ob := xin q18 16 && (true)) e_49 hk_49 3 rfl (xand o20 rfl) ?_
    refine xOK_fg [0, 1, 2, 3, 4] ?_
    exact t_Bus_write_85 t q  _ h
set_option maxRecDepth 100000 in
set_option maxHeartbeats 4000000 in
theorem m_Bus_write (x1 x2 x3 : Int32) (s t : xS) (q : xS) (h : f_Bus_write x1 x2 x3 s = some q) : xMet 49 [.ref 15, .int x1, .int x2, .int x3] (mk s t) none (mk q t) := by
  refine xMet_of hk_49 rfl rfl rfl ?_
  refine xOK_eq (fr := (0, [some (.ref 15), some (.int x1), some (.int x2), some (.int x3), none], [])) rfl ?_
  unfold f_Bus_write at h
  refine xOK_steps (fr' := (1, [some (.ref 15), some (.int x1), some (.int x2), some (.int x3), none], [.int x3])) (w' := (mk s t)) (ob := true) e_49 hk_49 1 rfl rfl ?_
  refine xu_if_eq e_49 hk_49 rfl (fun c21 => ?_) (fun c21 => ?_)
  · have h := xif_pos c21 h
    refine xOK_steps (fr' := (10, [some (.ref 15), some (.int x1), some (.int x2), some (.int x3), none], [.int x2])) (w' := (mk s t)) (ob := true) e_49 hk_49 1 rfl rfl ?_
    exact t_Bus_write_18 t q _ _ _ _ _ h
  · have h := xif_neg c21 h
    refine xOK_steps (fr' := (4, [some (.ref 15), some (.int x1), some (.int x2), some (.int x3), none], [.int x1, .ref 15])) (w' := (mk s t)) (ob := true) e_49 hk_49 2 rfl rfl ?_
    obtain ⟨q22, e23, h⟩ := Option.bind_eq_some_iff.mp h
    refine xu_callv (q := 15) (r := (some q22.1)) (av := [.int x1]) (st := []) (w1 := (mk q22.2 t)) e_49 hk_49 rfl (m_Bus_peek _ _ _ _ e23) rfl rfl rfl rfl rfl ?_
    refine xOK_steps (fr' := (7, [some (.ref 15), some (.int x1), some (.int x2), some (.int x3), none], [.int x2, .int x1, .int q22.1])) (w' := (mk q22.2 t)) (ob := true) e_49 hk_49 2 rfl rfl ?_
    obtain ⟨q24, e25, h⟩ := Option.bind_eq_some_iff.mp h
    refine xu_calls (r := (some q24)) (av := [.int q22.1, .int x1, .int x2]) (st := []) (w1 := (mk q22.2 t)) e_49 hk_49 rfl rfl (m_Bus_withByte _ _ _ _ _ _ e25) rfl rfl rfl rfl ?_
    refine xOK_steps (fr' := (10, [some (.ref 15), some (.int x1), some (.int x2), some (.int x3), none], [.int q24])) (w' := (mk q22.2 t)) (ob := true) e_49 hk_49 1 rfl rfl ?_
    exact t_Bus_write_18 t q _ _ _ _ _ h
set_option maxRecDepth 100000 in
set_option maxHeartbeats 4000000 in
theorem t_Processor_deliver_64 (t : xS) (q : xS) (s : xS) (h : f_Processor_deliver_64  s = some q) : xOK 72 none (xEnd 72 none (mk q t)) (32, [none, none], []) (mk s t) 0 0 := by
  unfold f_Processor_deliver_64 at h
  cases h
  exact xu_vret e_72 hk_72 rfl rfl
set_option maxRecDepth 100000 in
set_option maxHeartbeats 4000000 in
theorem t_Processor_deliver_60 (t : xS) (q : xS) (s : xS) (h : f_Processor_deliver_60  s = some q) : xOK 72 none (xEnd 72 none (mk q t)) (30, [some (.ref 17), none], []) (mk s t) 0 0 := by
  unfold f_Processor_deliver_60 at h
  refine xOK_steps (fr' := (31, [some (.ref 17), none], [.ref 17])) (w' := (mk s t)) (ob := true) e_72 hk_72 1 rfl rfl ?_
  obtain ⟨q1, e2, h⟩ := Option.bind_eq_some_iff.mp h
  refine xu_callv (q := 17) (r := none) (av := []) (st := []) (w1 := (mk q1 t)) e_72 hk_72 rfl (m_Processor_setFlags  _ _ _ e2) rfl rfl rfl rfl rfl ?_
  refine xOK_fg [0] ?_
  exact t_Processor_deliver_64 t q  _ h
set_option maxRecDepth 100000 in
set_option maxHeartbeats 4000000 in
theorem t_Processor_deliver_44 (t : xS) (q : xS) (s : xS) (h : f_Processor_deliver_44  s = some q) : xOK 72 none (xEnd 72 none (mk q t)) (22, [some (.ref 17), none], []) (mk s t) 0 0 := by
  unfold f_Processor_deliver_44 at h
  refine xOK_steps (fr' := (25, [some (.ref 17), none], [.int (1 : Int32), .int (s.1 14)])) (w' := (mk s t)) (ob := true) e_72 hk_72 3 rfl rfl ?_
  refine xu_icmp_ne e_72 hk_72 rfl (fun c3 => ?_) (fun c3 => ?_)
  · have h := xif_neg c3 h
    exact t_Processor_deliver_60 t q  _ h
  · have h := xif_pos c3 h
    refine xOK_steps (fr' := (29, [some (.ref 17), none], [.int (2 : Int32), .int (s.1 15)])) (w' := (mk s t)) (ob := true) e_72 hk_72 3 rfl rfl ?_
    refine xu_icmp_eq e_72 hk_72 rfl (fun c4 => ?_) (fun c4 => ?_)
    · have h := xif_pos c4 h
      refine xOK_fg [0] ?_
      exact t_Processor_deliver_64 t q  _ h
    · have h := xif_neg c4 h
      exact t_Processor_deliver_60 t q  _ h
set_option maxRecDepth 100000 in
set_option maxHeartbeats 4000000 in
theorem m_Processor_deliver (x1 : Int32) (s t : xS) (q : xS) (h : f_Processor_deliver x1 s = some q) : xMet 72 [.ref 17, .int x1] (mk s t) none (mk q t) := by
  refine xMet_of hk_72 rfl rfl rfl ?_
  refine xOK_eq (fr := (0, [some (.ref 17), some (.int x1)], [])) rfl ?_
  unfold f_Processor_deliver at h
  refine xOK_steps (fr' := (3, [some (.ref 17), some (.int x1)], [.int (2 : Int32), .int (s.1 14)])) (w' := (mk s t)) (ob := true) e_72 hk_72 3 rfl rfl ?_
  refine xu_icmp_ne e_72 hk_72 rfl (fun c5 => ?_) (fun c5 => ?_)
  · have h := xif_neg c5 h
    refine xOK_steps (fr' := (16, [some (.ref 17), some (.int x1)], [.int (1 : Int32), .int (s.1 14)])) (w' := (mk s t)) (ob := true) e_72 hk_72 3 rfl rfl ?_
    refine xu_icmp_ne e_72 hk_72 rfl (fun c6 => ?_) (fun c6 => ?_)
    · have h := xif_neg c6 h
      refine xOK_fg [1] ?_
      exact t_Processor_deliver_44 t q  _ h
    · have h := xif_pos c6 h
      refine xOK_steps (fr' := (21, [some (.ref 17), some (.int x1)], [.int x1, .int (s.1 15), .ref 17])) (w' := (mk s t)) (ob := true) e_72 hk_72 4 rfl rfl ?_
      obtain ⟨q7, e8, h⟩ := Option.bind_eq_some_iff.mp h
      refine xu_callv (q := 17) (r := none) (av := [.int (s.1 15), .int x1]) (st := []) (w1 := (mk q7 t)) e_72 hk_72 rfl (m_Processor_setRegister _ _ _ _ _ e8) rfl rfl rfl rfl rfl ?_
      refine xOK_fg [1] ?_
      exact t_Processor_deliver_44 t q  _ h
  · have h := xif_pos c5 h
    refine xOK_steps (fr' := (11, [some (.ref 17), some (.int x1)], [.int (s.1 13), .int x1, .int (s.1 15), .ref 15])) (w' := (mk s t)) (ob := true) e_72 hk_72 7 rfl rfl ?_
    obtain ⟨q9, e10, h⟩ := Option.bind_eq_some_iff.mp h
    refine xu_callv (q := 15) (r := none) (av := [.int (s.1 15), .int x1, .int (s.1 13)]) (st := []) (w1 := (mk q9 t)) e_72 hk_72 rfl (m_Bus_write _ _ _ _ _ _ e10) rfl rfl rfl rfl rfl ?_
    refine xOK_steps (fr' := (22, [some (.ref 17), some (.int x1)], [])) (w' := (mk q9 t)) (ob := true) e_72 hk_72 1 rfl rfl ?_
    refine xOK_fg [1] ?_
    exact t_Processor_deliver_44 t q  _ h
set_option maxRecDepth 100000 in
set_option maxHeartbeats 4000000 in
theorem m_Processor_push (x1 : Int32) (s t : xS) (q : xS) (h : f_Processor_push x1 s = some q) : xMet 79 [.ref 17, .int x1] (mk s t) none (mk q t) := by
  refine xMet_of hk_79 rfl rfl rfl ?_
  refine xOK_eq (fr := (0, [some (.ref 17), some (.int x1)], [])) rfl ?_
  unfold f_Processor_push at h
  refine xOK_steps (fr' := (8, [some (.ref 17), some (.int x1)], [.int (((s.2 10) 1) - (2 : Int32)), .int (1 : Int32), .ref 17])) (w' := (mk s t)) (ob := true) e_79 hk_79 8 rfl rfl ?_
  obtain ⟨q1, e2, h⟩ := Option.bind_eq_some_iff.mp h
  refine xu_callv (q := 17) (r := none) (av := [.int (1 : Int32), .int (((s.2 10) 1) - (2 : Int32))]) (st := []) (w1 := (mk q1 t)) e_79 hk_79 rfl (m_Processor_setRegister _ _ _ _ _ e2) rfl rfl rfl rfl rfl ?_
  refine xOK_steps (fr' := (18, [some (.ref 17), some (.int x1)], [.int (q1.1 13), .int x1, .int ((q1.2 10) 1), .ref 15])) (w' := (mk q1 t)) (ob := true) e_79 hk_79 9 rfl rfl ?_
  obtain ⟨q3, e4, h⟩ := Option.bind_eq_some_iff.mp h
  refine xu_callv (q := 15) (r := none) (av := [.int ((q1.2 10) 1), .int x1, .int (q1.1 13)]) (st := []) (w1 := (mk q3 t)) e_79 hk_79 rfl (m_Bus_write _ _ _ _ _ _ e4) rfl rfl rfl rfl rfl ?_
  cases h
  exact xu_vret e_79 hk_79 rfl rfl
set_option maxRecDepth 100000 in
set_option maxHeartbeats 4000000 in
theorem m_Processor_pop (s t : xS) (q : (Int32 × xS)) (h : f_Processor_pop  s = some q) : xMet 80 [.ref 17] (mk s t) (some q.1) (mk q.2 t) := by
  refine xMet_of hk_80 rfl rfl rfl ?_
  refine xOK_eq (fr := (0, [some (.ref 17), none], [])) rfl ?_
  unfold f_Processor_pop at h
  refine xOK_steps (fr' := (7, [some (.ref 17), none], [.int (0 : Int32), .int ((s.2 10) 1), .ref 15])) (w' := (mk s t)) (ob := true) e_80 hk_80 7 rfl rfl ?_
  obtain ⟨q1, e2, h⟩ := Option.bind_eq_some_iff.mp h
  refine xu_callv (q := 15) (r := (some q1.1)) (av := [.int ((s.2 10) 1), .int (0 : Int32)]) (st := []) (w1 := (mk q1.2 t)) e_80 hk_80 rfl (m_Bus_read _ _ _ _ _ e2) rfl rfl rfl rfl rfl ?_
  refine xOK_steps (fr' := (17, [some (.ref 17), some (.int q1.1)], [.int (((q1.2.2 10) 1) + (2 : Int32)), .int (1 : Int32), .ref 17])) (w' := (mk q1.2 t)) (ob := true) e_80 hk_80 9 rfl rfl ?_
  obtain ⟨q3, e4, h⟩ := Option.bind_eq_some_iff.mp h
  refine xu_callv (q := 17) (r := none) (av := [.int (1 : Int32), .int (((q1.2.2 10) 1) + (2 : Int32))]) (st := []) (w1 := (mk q3 t)) e_80 hk_80 rfl (m_Processor_setRegister _ _ _ _ _ e4) rfl rfl rfl rfl rfl ?_
  refine xOK_steps (fr' := (19, [some (.ref 17), some (.int q1.1)], [.int q1.1])) (w' := (mk q3 t)) (ob := true) e_80 hk_80 1 rfl rfl ?_
  cases h
  exact xu_iret e_80 hk_80 rfl rfl rfl
set_option maxRecDepth 100000 in
set_option maxHeartbeats 4000000 in
theorem t_Processor_oneOperand_137 (t : xS) (q : xS) (s : xS) (h : f_Processor_oneOperand_137  s = some q) : xOK 62 none (xEnd 62 none (mk q t)) (83, [none, none, none, none], []) (mk s t) 0 0 := by
  unfold f_Processor_oneOperand_137 at h
  cases h
  exact xu_vret e_62 hk_62 rfl rfl
set_option maxRecDepth 100000 in
set_option maxHeartbeats 4000000 in
theorem t_Processor_oneOperand_69 (t : xS) (q : xS) (x1 x2 y1 : Int32) (s : xS) (h : f_Processor_oneOperand_69 x1 x2 y1 s = some q) : xOK 62 none (xEnd 62 none (mk q t)) (42, [some (.ref 17), some (.int x1), some (.int x2), none], [.int y1, .ref 17]) (mk s t) 0 0 := by
  unfold f_Processor_oneOperand_69 at h
  by_cases o1 : xbl y1 = true
  case neg => have h := xif_neg o1 h; cases h
  have h := xif_pos o1 h
  refine xOK_steps (fr' := (52, [some (.ref 17), some (.int x1), some (.int x2), none], [.int ((x1 >>> ((4 : Int32) &&& 31)) &&& (3 : Int32)), .int (x1 &&& (15 : Int32)), .ref 17])) (w' := (mk (xsc s 13 y1) t)) (ob := xbl y1 && (true)) e_62 hk_62 10 rfl (xand o1 rfl) ?_
  obtain ⟨q2, e3, h⟩ := Option.bind_eq_some_iff.mp h
  refine xu_callv (q := 17) (r := none) (av := [.int (x1 &&& (15 : Int32)), .int ((x1 >>> ((4 : Int32) &&& 31)) &&& (3 : Int32))]) (st := []) (w1 := (mk q2 t)) e_62 hk_62 rfl (m_Processor_findSource _ _ _ _ _ e3) rfl rfl rfl rfl rfl ?_
  refine xOK_steps (fr' := (54, [some (.ref 17), some (.int x1), some (.int x2), none], [.ref 17])) (w' := (mk q2 t)) (ob := true) e_62 hk_62 1 rfl rfl ?_
  obtain ⟨q4, e5, h⟩ := Option.bind_eq_some_iff.mp h
  refine xu_callv (q := 17) (r := (some q4.1)) (av := []) (st := []) (w1 := (mk q4.2 t)) e_62 hk_62 rfl (m_Processor_operand  _ _ _ e5) rfl rfl rfl rfl rfl ?_
  refine xOK_steps (fr' := (58, [some (.ref 17), some (.int x1), some (.int x2), some (.int q4.1)], [.int (4 : Int32), .int x2])) (w' := (mk q4.2 t)) (ob := true) e_62 hk_62 3 rfl rfl ?_
  refine xu_icmp_ne e_62 hk_62 rfl (fun c6 => ?_) (fun c6 => ?_)
  · have h := xif_neg c6 h
    refine xOK_steps (fr' := (65, [some (.ref 17), some (.int x1), some (.int x2), some (.int q4.1)], [.int (5 : Int32), .int x2])) (w' := (mk q4.2 t)) (ob := true) e_62 hk_62 2 rfl rfl ?_
    refine xu_icmp_ne e_62 hk_62 rfl (fun c7 => ?_) (fun c7 => ?_)
    · have h := xif_neg c7 h
      refine xOK_steps (fr' := (81, [some (.ref 17), some (.int x1), some (.int x2), some (.int q4.1)], [.int q4.1, .int x2, .ref 17, .ref 17])) (w' := (mk q4.2 t)) (ob := true) e_62 hk_62 4 rfl rfl ?_
      obtain ⟨q8, e9, h⟩ := Option.bind_eq_some_iff.mp h
      refine xu_callv (q := 17) (r := (some q8.1)) (av := [.int x2, .int q4.1]) (st := [.ref 17]) (w1 := (mk q8.2 t)) e_62 hk_62 rfl (m_Processor_changed _ _ _ _ _ e9) rfl rfl rfl rfl rfl ?_
      obtain ⟨q10, e11, h⟩ := Option.bind_eq_some_iff.mp h
      refine xu_callv (q := 17) (r := none) (av := [.int q8.1]) (st := []) (w1 := (mk q10 t)) e_62 hk_62 rfl (m_Processor_deliver _ _ _ _ e11) rfl rfl rfl rfl rfl ?_
      refine xOK_fg [0, 1, 2, 3] ?_
      exact t_Processor_oneOperand_137 t q  _ h
    · have h := xif_pos c7 h
      refine xOK_steps (fr' := (71, [some (.ref 17), some (.int x1), some (.int x2), some (.int q4.1)], [.int ((q4.2.2 10) 0), .ref 17])) (w' := (mk q4.2 t)) (ob := true) e_62 hk_62 5 rfl rfl ?_
      obtain ⟨q12, e13, h⟩ := Option.bind_eq_some_iff.mp h
      refine xu_callv (q := 17) (r := none) (av := [.int ((q4.2.2 10) 0)]) (st := []) (w1 := (mk q12 t)) e_62 hk_62 rfl (m_Processor_push _ _ _ _ e13) rfl rfl rfl rfl rfl ?_
      refine xOK_steps (fr' := (75, [some (.ref 17), some (.int x1), some (.int x2), some (.int q4.1)], [.int q4.1, .int (0 : Int32), .ref 17])) (w' := (mk q12 t)) (ob := true) e_62 hk_62 3 rfl rfl ?_
      obtain ⟨q14, e15, h⟩ := Option.bind_eq_some_iff.mp h
      refine xu_callv (q := 17) (r := none) (av := [.int (0 : Int32), .int q4.1]) (st := []) (w1 := (mk q14 t)) e_62 hk_62 rfl (m_Processor_setRegister _ _ _ _ _ e15) rfl rfl rfl rfl rfl ?_
      refine xOK_steps (fr' := (83, [some (.ref 17), some (.int x1), some (.int x2), some (.int q4.1)], [])) (w' := (mk q14 t)) (ob := true) e_62 hk_62 1 rfl rfl ?_
      refine xOK_fg [0, 1, 2, 3] ?_
      exact t_Processor_oneOperand_137 t q  _ h
  · have h := xif_pos c6 h
    refine xOK_steps (fr' := (61, [some (.ref 17), some (.int x1), some (.int x2), some (.int q4.1)], [.int q4.1, .ref 17])) (w' := (mk q4.2 t)) (ob := true) e_62 hk_62 2 rfl rfl ?_
    obtain ⟨q16, e17, h⟩ := Option.bind_eq_some_iff.mp h
    refine xu_callv (q := 17) (r := none) (av := [.int q4.1]) (st := []) (w1 := (mk q16 t)) e_62 hk_62 rfl (m_Processor_push _ _ _ _ e17) rfl rfl rfl rfl rfl ?_
    refine xOK_steps (fr' := (83, [some (.ref 17), some (.int x1), some (.int x2), some (.int q4.1)], [])) (w' := (mk q16 t)) (ob := true) e_62 hk_62 1 rfl rfl ?_
    refine xOK_fg [0, 1, 2, 3] ?_
    exact t_Processor_oneOperand_137 t q  _ h
set_option maxRecDepth 100000 in
set_option maxHeartbeats 4000000 in
theorem t_Processor_oneOperand_68 (t : xS) (q : xS) (x1 x2 : Int32) (s : xS) (h : f_Processor_oneOperand_68 x1 x2 s = some q) : xOK 62 none (xEnd 62 none (mk q t)) (41, [some (.ref 17), some (.int x1), some (.int x2), none], [.ref 17]) (mk s t) 0 0 := by
  unfold f_Processor_oneOperand_68 at h
  refine xOK_steps (fr' := (42, [some (.ref 17), some (.int x1), some (.int x2), none], [.int (0 : Int32), .ref 17])) (w' := (mk s t)) (ob := true) e_62 hk_62 1 rfl rfl ?_
  exact t_Processor_oneOperand_69 t q _ _ _ _ h
set_option maxRecDepth 100000 in
set_option maxHeartbeats 4000000 in
theorem t_Processor_oneOperand_64 (t : xS) (q : xS) (x1 x2 : Int32) (s : xS) (h : f_Processor_oneOperand_64 x1 x2 s = some q) : xOK 62 none (xEnd 62 none (mk q t)) (39, [some (.ref 17), some (.int x1), some (.int x2), none], [.ref 17]) (mk s t) 0 0 := by
  unfold f_Processor_oneOperand_64 at h
  refine xOK_steps (fr' := (42, [some (.ref 17), some (.int x1), some (.int x2), none], [.int (1 : Int32), .ref 17])) (w' := (mk s t)) (ob := true) e_62 hk_62 2 rfl rfl ?_
  exact t_Processor_oneOperand_69 t q _ _ _ _ h
set_option maxRecDepth 100000 in
set_option maxHeartbeats 4000000 in
theorem t_Processor_oneOperand_32 (t : xS) (q : xS) (x1 x2 : Int32) (s : xS) (h : f_Processor_oneOperand_32 x1 x2 s = some q) : xOK 62 none (xEnd 62 none (mk q t)) (19, [some (.ref 17), some (.int x1), some (.int x2), none], []) (mk s t) 0 0 := by
  unfold f_Processor_oneOperand_32 at h
  refine xOK_steps (fr' := (21, [some (.ref 17), some (.int x1), some (.int x2), none], [.int (6 : Int32), .int x2])) (w' := (mk s t)) (ob := true) e_62 hk_62 2 rfl rfl ?_
  refine xu_icmp_lt e_62 hk_62 rfl (fun c18 => ?_) (fun c18 => ?_)
  · have h := xif_pos c18 h
    refine xOK_steps (fr' := (30, [some (.ref 17), some (.int x1), some (.int x2), none], [.int (1 : Int32), .int ((x1 >>> ((6 : Int32) &&& 31)) &&& (1 : Int32)), .ref 17])) (w' := (mk s t)) (ob := true) e_62 hk_62 7 rfl rfl ?_
    refine xu_icmp_ne e_62 hk_62 rfl (fun c19 => ?_) (fun c19 => ?_)
    · have h := xif_neg c19 h
      exact t_Processor_oneOperand_68 t q _ _ _ h
    · have h := xif_pos c19 h
      refine xOK_steps (fr' := (32, [some (.ref 17), some (.int x1), some (.int x2), none], [.int x2, .ref 17])) (w' := (mk s t)) (ob := true) e_62 hk_62 1 rfl rfl ?_
      refine xu_if_eq e_62 hk_62 rfl (fun c20 => ?_) (fun c20 => ?_)
      · have h := xif_pos c20 h
        exact t_Processor_oneOperand_64 t q _ _ _ h
      · have h := xif_neg c20 h
        refine xOK_steps (fr' := (35, [some (.ref 17), some (.int x1), some (.int x2), none], [.int (2 : Int32), .int x2, .ref 17])) (w' := (mk s t)) (ob := true) e_62 hk_62 2 rfl rfl ?_
        refine xu_icmp_eq e_62 hk_62 rfl (fun c21 => ?_) (fun c21 => ?_)
        · have h := xif_pos c21 h
          exact t_Processor_oneOperand_64 t q _ _ _ h
        · have h := xif_neg c21 h
          refine xOK_steps (fr' := (38, [some (.ref 17), some (.int x1), some (.int x2), none], [.int (4 : Int32), .int x2, .ref 17])) (w' := (mk s t)) (ob := true) e_62 hk_62 2 rfl rfl ?_
          refine xu_icmp_ne e_62 hk_62 rfl (fun c22 => ?_) (fun c22 => ?_)
          · have h := xif_neg c22 h
            exact t_Processor_oneOperand_68 t q _ _ _ h
          · have h := xif_pos c22 h
            exact t_Processor_oneOperand_64 t q _ _ _ h
  · have h := xif_neg c18 h
    cases h
    exact xu_vret e_62 hk_62 rfl rfl
set_option maxRecDepth 100000 in
set_option maxHeartbeats 4000000 in
theorem m_Processor_oneOperand (x1 : Int32) (s t : xS) (q : xS) (h : f_Processor_oneOperand x1 s = some q) : xMet 62 [.ref 17, .int x1] (mk s t) none (mk q t) := by
  refine xMet_of hk_62 rfl rfl rfl ?_
  refine xOK_eq (fr := (0, [some (.ref 17), some (.int x1), none, none], [])) rfl ?_
  unfold f_Processor_oneOperand at h
  refine xOK_steps (fr' := (8, [some (.ref 17), some (.int x1), some (.int ((x1 >>> ((7 : Int32) &&& 31)) &&& (7 : Int32))), none], [.int (6 : Int32), .int ((x1 >>> ((7 : Int32) &&& 31)) &&& (7 : Int32))])) (w' := (mk s t)) (ob := true) e_62 hk_62 8 rfl rfl ?_
  refine xu_icmp_ne e_62 hk_62 rfl (fun c23 => ?_) (fun c23 => ?_)
  · have h := xif_neg c23 h
    exact t_Processor_oneOperand_32 t q _ _ _ h
  · have h := xif_pos c23 h
    refine xOK_steps (fr' := (12, [some (.ref 17), some (.int x1), some (.int ((x1 >>> ((7 : Int32) &&& 31)) &&& (7 : Int32))), none], [.ref 17, .int (2 : Int32), .ref 17])) (w' := (mk s t)) (ob := true) e_62 hk_62 3 rfl rfl ?_
    obtain ⟨q24, e25, h⟩ := Option.bind_eq_some_iff.mp h
    refine xu_callv (q := 17) (r := (some q24.1)) (av := []) (st := [.int (2 : Int32), .ref 17]) (w1 := (mk q24.2 t)) e_62 hk_62 rfl (m_Processor_pop  _ _ _ e25) rfl rfl rfl rfl rfl ?_
    obtain ⟨q26, e27, h⟩ := Option.bind_eq_some_iff.mp h
    refine xu_callv (q := 17) (r := none) (av := [.int (2 : Int32), .int q24.1]) (st := []) (w1 := (mk q26 t)) e_62 hk_62 rfl (m_Processor_setRegister _ _ _ _ _ e27) rfl rfl rfl rfl rfl ?_
    refine xOK_steps (fr' := (17, [some (.ref 17), some (.int x1), some (.int ((x1 >>> ((7 : Int32) &&& 31)) &&& (7 : Int32))), none], [.ref 17, .int (0 : Int32), .ref 17])) (w' := (mk q26 t)) (ob := true) e_62 hk_62 3 rfl rfl ?_
    obtain ⟨q28, e29, h⟩ := Option.bind_eq_some_iff.mp h
    refine xu_callv (q := 17) (r := (some q28.1)) (av := []) (st := [.int (0 : Int32), .ref 17]) (w1 := (mk q28.2 t)) e_62 hk_62 rfl (m_Processor_pop  _ _ _ e29) rfl rfl rfl rfl rfl ?_
    obtain ⟨q30, e31, h⟩ := Option.bind_eq_some_iff.mp h
    refine xu_callv (q := 17) (r := none) (av := [.int (0 : Int32), .int q28.1]) (st := []) (w1 := (mk q30 t)) e_62 hk_62 rfl (m_Processor_setRegister _ _ _ _ _ e31) rfl rfl rfl rfl rfl ?_
    exact t_Processor_oneOperand_32 t q _ _ _ h
set_option maxRecDepth 100000 in
set_option maxHeartbeats 4000000 in
theorem t_Processor_isSet_16 (t : xS) (q : (Int32 × xS)) (y0 : Int32) (s : xS) (h : f_Processor_isSet_16 y0 s = some q) : xOK 82 none (xEnd 82 (some q.1) (mk q.2 t)) (10, [none, none], [.int y0]) (mk s t) 0 0 := by
  unfold f_Processor_isSet_16 at h
  by_cases o1 : xbl y0 = true
  case neg => have h := xif_neg o1 h; cases h
  have h := xif_pos o1 h
  cases h
  exact xu_iret e_82 hk_82 rfl o1 rfl
set_option maxRecDepth 100000 in
set_option maxHeartbeats 4000000 in
theorem m_Processor_isSet (x1 : Int32) (s t : xS) (q : (Int32 × xS)) (h : f_Processor_isSet x1 s = some q) : xMet 82 [.ref 17, .int x1] (mk s t) (some q.1) (mk q.2 t) := by
  refine xMet_of hk_82 rfl rfl rfl ?_
  refine xOK_eq (fr := (0, [some (.ref 17), some (.int x1)], [])) rfl ?_
  unfold f_Processor_isSet at h
  refine xOK_steps (fr' := (6, [some (.ref 17), some (.int x1)], [.int (((s.2 10) 2) &&& x1)])) (w' := (mk s t)) (ob := true) e_82 hk_82 6 rfl rfl ?_
  refine xu_if_eq e_82 hk_82 rfl (fun c2 => ?_) (fun c2 => ?_)
  · have h := xif_pos c2 h
    refine xOK_steps (fr' := (10, [some (.ref 17), some (.int x1)], [.int (0 : Int32)])) (w' := (mk s t)) (ob := true) e_82 hk_82 1 rfl rfl ?_
    refine xOK_fg [0, 1] ?_
    exact t_Processor_isSet_16 t q _ _ h
  · have h := xif_neg c2 h
    refine xOK_steps (fr' := (10, [some (.ref 17), some (.int x1)], [.int (1 : Int32)])) (w' := (mk s t)) (ob := true) e_82 hk_82 2 rfl rfl ?_
    refine xOK_fg [0, 1] ?_
    exact t_Processor_isSet_16 t q _ _ h
set_option maxRecDepth 100000 in
set_option maxHeartbeats 4000000 in
theorem t_Processor_holds_123 (t : xS) (q : (Int32 × xS)) (y0 : Int32) (s : xS) (h : f_Processor_holds_123 y0 s = some q) : xOK 64 none (xEnd 64 (some q.1) (mk q.2 t)) (49, [none, none, none], [.int y0]) (mk s t) 0 0 := by
  unfold f_Processor_holds_123 at h
  by_cases o1 : xbl y0 = true
  case neg => have h := xif_neg o1 h; cases h
  have h := xif_pos o1 h
  cases h
  exact xu_iret e_64 hk_64 rfl o1 rfl
set_option maxRecDepth 100000 in
set_option maxHeartbeats 4000000 in
theorem t_Processor_holds_106 (t : xS) (q : (Int32 × xS)) (y0 : Int32) (s : xS) (h : f_Processor_holds_106 y0 s = some q) : xOK 64 none (xEnd 64 (some q.1) (mk q.2 t)) (40, [none, none, none], [.int y0]) (mk s t) 0 0 := by
  unfold f_Processor_holds_106 at h
  by_cases o2 : xbl y0 = true
  case neg => have h := xif_neg o2 h; cases h
  have h := xif_pos o2 h
  cases h
  exact xu_iret e_64 hk_64 rfl o2 rfl
set_option maxRecDepth 100000 in
set_option maxHeartbeats 4000000 in
theorem t_Processor_holds_81 (t : xS) (q : (Int32 × xS)) (y0 : Int32) (s : xS) (h : f_Processor_holds_81 y0 s = some q) : xOK 64 none (xEnd 64 (some q.1) (mk q.2 t)) (25, [none, none, none], [.int y0]) (mk s t) 0 0 := by
  unfold f_Processor_holds_81 at h
  by_cases o3 : xbl y0 = true
  case neg => have h := xif_neg o3 h; cases h
  have h := xif_pos o3 h
  cases h
  exact xu_iret e_64 hk_64 rfl o3 rfl
set_option maxRecDepth 100000 in
set_option maxHeartbeats 4000000 in
theorem t_Processor_holds_61 (t : xS) (q : (Int32 × xS)) (y0 : Int32) (s : xS) (h : f_Processor_holds_61 y0 s = some q) : xOK 64 none (xEnd 64 (some q.1) (mk q.2 t)) (13, [none, none, none], [.int y0]) (mk s t) 0 0 := by
  unfold f_Processor_holds_61 at h
  by_cases o4 : xbl y0 = true
  case neg => have h := xif_neg o4 h; cases h
  have h := xif_pos o4 h
  cases h
  exact xu_iret e_64 hk_64 rfl o4 rfl
set_option maxRecDepth 100000 in
set_option maxHeartbeats 4000000 in
theorem m_Processor_holds (x1 : Int32) (s t : xS) (q : (Int32 × xS)) (h : f_Processor_holds x1 s = some q) : xMet 64 [.ref 17, .int x1] (mk s t) (some q.1) (mk q.2 t) := by
  refine xMet_of hk_64 rfl rfl rfl ?_
  refine xOK_eq (fr := (0, [some (.ref 17), some (.int x1), none], [])) rfl ?_
  unfold f_Processor_holds at h
  refine xOK_steps (fr' := (2, [some (.ref 17), some (.int x1), none], [.int (4 : Int32), .ref 17])) (w' := (mk s t)) (ob := true) e_64 hk_64 2 rfl rfl ?_
  obtain ⟨q5, e6, h⟩ := Option.bind_eq_some_iff.mp h
  refine xu_callv (q := 17) (r := (some q5.1)) (av := [.int (4 : Int32)]) (st := []) (w1 := (mk q5.2 t)) e_64 hk_64 rfl (m_Processor_isSet _ _ _ _ e6) rfl rfl rfl rfl rfl ?_
  refine xOK_steps (fr' := (5, [some (.ref 17), some (.int x1), some (.int q5.1)], [.int x1])) (w' := (mk q5.2 t)) (ob := true) e_64 hk_64 2 rfl rfl ?_
  by_cases c7 : (x1 < (0 : Int32) ∨ (6 : Int32) < x1)
  · have h := xif_pos c7 h
    refine xu_tswOut (t := 50) e_64 hk_64 rfl c7 rfl rfl rfl ?_
    refine xOK_steps (fr' := (51, [some (.ref 17), some (.int x1), some (.int q5.1)], [.int (1 : Int32)])) (w' := (mk q5.2 t)) (ob := true) e_64 hk_64 1 rfl rfl ?_
    cases h
    exact xu_iret e_64 hk_64 rfl rfl rfl
  have h := xif_neg c7 h
  by_cases c8 : x1 = (0 : Int32)
  · have h := xif_pos c8 h
    refine xu_tswJ (t := 6) e_64 hk_64 rfl c8 (by decide) (by decide) rfl rfl ?_
    refine xOK_steps (fr' := (8, [some (.ref 17), some (.int x1), some (.int q5.1)], [.int (2 : Int32), .ref 17])) (w' := (mk q5.2 t)) (ob := true) e_64 hk_64 2 rfl rfl ?_
    obtain ⟨q9, e10, h⟩ := Option.bind_eq_some_iff.mp h
    refine xu_callv (q := 17) (r := (some q9.1)) (av := [.int (2 : Int32)]) (st := []) (w1 := (mk q9.2 t)) e_64 hk_64 rfl (m_Processor_isSet _ _ _ _ e10) rfl rfl rfl rfl rfl ?_
    refine xu_if_ne e_64 hk_64 rfl (fun c11 => ?_) (fun c11 => ?_)
    · have h := xif_neg c11 h
      refine xOK_steps (fr' := (13, [some (.ref 17), some (.int x1), some (.int q5.1)], [.int (0 : Int32)])) (w' := (mk q9.2 t)) (ob := true) e_64 hk_64 1 rfl rfl ?_
      refine xOK_fg [0, 1, 2] ?_
      exact t_Processor_holds_61 t q _ _ h
    · have h := xif_pos c11 h
      refine xOK_steps (fr' := (13, [some (.ref 17), some (.int x1), some (.int q5.1)], [.int (1 : Int32)])) (w' := (mk q9.2 t)) (ob := true) e_64 hk_64 2 rfl rfl ?_
      refine xOK_fg [0, 1, 2] ?_
      exact t_Processor_holds_61 t q _ _ h
  have h := xif_neg c8 h
  by_cases c12 : x1 = (1 : Int32)
  · have h := xif_pos c12 h
    refine xu_tswJ (t := 14) e_64 hk_64 rfl c12 (by decide) (by decide) rfl rfl ?_
    refine xOK_steps (fr' := (16, [some (.ref 17), some (.int x1), some (.int q5.1)], [.int (2 : Int32), .ref 17])) (w' := (mk q5.2 t)) (ob := true) e_64 hk_64 2 rfl rfl ?_
    obtain ⟨q13, e14, h⟩ := Option.bind_eq_some_iff.mp h
    refine xu_callv (q := 17) (r := (some q13.1)) (av := [.int (2 : Int32)]) (st := []) (w1 := (mk q13.2 t)) e_64 hk_64 rfl (m_Processor_isSet _ _ _ _ e14) rfl rfl rfl rfl rfl ?_
    by_cases o15 : xbl q13.1 = true
    case neg => have h := xif_neg o15 h; cases h
    have h := xif_pos o15 h
    cases h
    exact xu_iret e_64 hk_64 rfl o15 rfl
  have h := xif_neg c12 h
  by_cases c16 : x1 = (2 : Int32)
  · have h := xif_pos c16 h
    refine xu_tswJ (t := 18) e_64 hk_64 rfl c16 (by decide) (by decide) rfl rfl ?_
    refine xOK_steps (fr' := (20, [some (.ref 17), some (.int x1), some (.int q5.1)], [.int (1 : Int32), .ref 17])) (w' := (mk q5.2 t)) (ob := true) e_64 hk_64 2 rfl rfl ?_
    obtain ⟨q17, e18, h⟩ := Option.bind_eq_some_iff.mp h
    refine xu_callv (q := 17) (r := (some q17.1)) (av := [.int (1 : Int32)]) (st := []) (w1 := (mk q17.2 t)) e_64 hk_64 rfl (m_Processor_isSet _ _ _ _ e18) rfl rfl rfl rfl rfl ?_
    refine xu_if_ne e_64 hk_64 rfl (fun c19 => ?_) (fun c19 => ?_)
    · have h := xif_neg c19 h
      refine xOK_steps (fr' := (25, [some (.ref 17), some (.int x1), some (.int q5.1)], [.int (0 : Int32)])) (w' := (mk q17.2 t)) (ob := true) e_64 hk_64 1 rfl rfl ?_
      refine xOK_fg [0, 1, 2] ?_
      exact t_Processor_holds_81 t q _ _ h
    · have h := xif_pos c19 h
      refine xOK_steps (fr' := (25, [some (.ref 17), some (.int x1), some (.int q5.1)], [.int (1 : Int32)])) (w' := (mk q17.2 t)) (ob := true) e_64 hk_64 2 rfl rfl ?_
      refine xOK_fg [0, 1, 2] ?_
      exact t_Processor_holds_81 t q _ _ h
  have h := xif_neg c16 h
  by_cases c20 : x1 = (3 : Int32)
  · have h := xif_pos c20 h
    refine xu_tswJ (t := 26) e_64 hk_64 rfl c20 (by decide) (by decide) rfl rfl ?_
    refine xOK_steps (fr' := (28, [some (.ref 17), some (.int x1), some (.int q5.1)], [.int (1 : Int32), .ref 17])) (w' := (mk q5.2 t)) (ob := true) e_64 hk_64 2 rfl rfl ?_
    obtain ⟨q21, e22, h⟩ := Option.bind_eq_some_iff.mp h
    refine xu_callv (q := 17) (r := (some q21.1)) (av := [.int (1 : Int32)]) (st := []) (w1 := (mk q21.2 t)) e_64 hk_64 rfl (m_Processor_isSet _ _ _ _ e22) rfl rfl rfl rfl rfl ?_
    by_cases o23 : xbl q21.1 = true
    case neg => have h := xif_neg o23 h; cases h
    have h := xif_pos o23 h
    cases h
    exact xu_iret e_64 hk_64 rfl o23 rfl
  have h := xif_neg c20 h
  by_cases c24 : x1 = (4 : Int32)
  · have h := xif_pos c24 h
    refine xu_tswJ (t := 30) e_64 hk_64 rfl c24 (by decide) (by decide) rfl rfl ?_
    refine xOK_steps (fr' := (31, [some (.ref 17), some (.int x1), some (.int q5.1)], [.int q5.1])) (w' := (mk q5.2 t)) (ob := true) e_64 hk_64 1 rfl rfl ?_
    by_cases o25 : xbl q5.1 = true
    case neg => have h := xif_neg o25 h; cases h
    have h := xif_pos o25 h
    cases h
    exact xu_iret e_64 hk_64 rfl o25 rfl
  have h := xif_neg c24 h
  by_cases c26 : x1 = (5 : Int32)
  · have h := xif_pos c26 h
    refine xu_tswJ (t := 32) e_64 hk_64 rfl c26 (by decide) (by decide) rfl rfl ?_
    refine xOK_steps (fr' := (35, [some (.ref 17), some (.int x1), some (.int q5.1)], [.int (256 : Int32), .ref 17, .int q5.1])) (w' := (mk q5.2 t)) (ob := true) e_64 hk_64 3 rfl rfl ?_
    obtain ⟨q27, e28, h⟩ := Option.bind_eq_some_iff.mp h
    refine xu_callv (q := 17) (r := (some q27.1)) (av := [.int (256 : Int32)]) (st := [.int q5.1]) (w1 := (mk q27.2 t)) e_64 hk_64 rfl (m_Processor_isSet _ _ _ _ e28) rfl rfl rfl rfl rfl ?_
    refine xu_icmp_ne e_64 hk_64 rfl (fun c29 => ?_) (fun c29 => ?_)
    · have h := xif_neg c29 h
      refine xOK_steps (fr' := (40, [some (.ref 17), some (.int x1), some (.int q5.1)], [.int (0 : Int32)])) (w' := (mk q27.2 t)) (ob := true) e_64 hk_64 1 rfl rfl ?_
      refine xOK_fg [0, 1, 2] ?_
      exact t_Processor_holds_106 t q _ _ h
    · have h := xif_pos c29 h
      refine xOK_steps (fr' := (40, [some (.ref 17), some (.int x1), some (.int q5.1)], [.int (1 : Int32)])) (w' := (mk q27.2 t)) (ob := true) e_64 hk_64 2 rfl rfl ?_
      refine xOK_fg [0, 1, 2] ?_
      exact t_Processor_holds_106 t q _ _ h
  have h := xif_neg c26 h
  by_cases c30 : x1 = (6 : Int32)
  · have h := xif_pos c30 h
    refine xu_tswJ (t := 41) e_64 hk_64 rfl c30 (by decide) (by decide) rfl rfl ?_
    refine xOK_steps (fr' := (44, [some (.ref 17), some (.int x1), some (.int q5.1)], [.int (256 : Int32), .ref 17, .int q5.1])) (w' := (mk q5.2 t)) (ob := true) e_64 hk_64 3 rfl rfl ?_
    obtain ⟨q31, e32, h⟩ := Option.bind_eq_some_iff.mp h
    refine xu_callv (q := 17) (r := (some q31.1)) (av := [.int (256 : Int32)]) (st := [.int q5.1]) (w1 := (mk q31.2 t)) e_64 hk_64 rfl (m_Processor_isSet _ _ _ _ e32) rfl rfl rfl rfl rfl ?_
    refine xu_icmp_eq e_64 hk_64 rfl (fun c33 => ?_) (fun c33 => ?_)
    · have h := xif_pos c33 h
      refine xOK_steps (fr' := (49, [some (.ref 17), some (.int x1), some (.int q5.1)], [.int (0 : Int32)])) (w' := (mk q31.2 t)) (ob := true) e_64 hk_64 1 rfl rfl ?_
      refine xOK_fg [0, 1, 2] ?_
      exact t_Processor_holds_123 t q _ _ h
    · have h := xif_neg c33 h
      refine xOK_steps (fr' := (49, [some (.ref 17), some (.int x1), some (.int q5.1)], [.int (1 : Int32)])) (w' := (mk q31.2 t)) (ob := true) e_64 hk_64 2 rfl rfl ?_
      refine xOK_fg [0, 1, 2] ?_
      exact t_Processor_holds_123 t q _ _ h
  have h := xif_neg c30 h
  cases h
set_option maxRecDepth 100000 in
set_option maxHeartbeats 4000000 in
theorem t_Processor_jump_43 (t : xS) (q : xS) (s : xS) (h : f_Processor_jump_43  s = some q) : xOK 63 none (xEnd 63 none (mk q t)) (29, [none, none, none], []) (mk s t) 0 0 := by
  unfold f_Processor_jump_43 at h
  cases h
  exact xu_vret e_63 hk_63 rfl rfl
set_option maxRecDepth 100000 in
set_option maxHeartbeats 4000000 in
theorem m_Processor_jump (x1 : Int32) (s t : xS) (q : xS) (h : f_Processor_jump x1 s = some q) : xMet 63 [.ref 17, .int x1] (mk s t) none (mk q t) := by
  refine xMet_of hk_63 rfl rfl rfl ?_
  refine xOK_eq (fr := (0, [some (.ref 17), some (.int x1), none], [])) rfl ?_
  unfold f_Processor_jump at h
  refine xOK_steps (fr' := (6, [some (.ref 17), some (.int x1), none], [.int ((x1 >>> ((10 : Int32) &&& 31)) &&& (7 : Int32)), .ref 17])) (w' := (mk s t)) (ob := true) e_63 hk_63 6 rfl rfl ?_
  obtain ⟨q1, e2, h⟩ := Option.bind_eq_some_iff.mp h
  refine xu_callv (q := 17) (r := (some q1.1)) (av := [.int ((x1 >>> ((10 : Int32) &&& 31)) &&& (7 : Int32))]) (st := []) (w1 := (mk q1.2 t)) e_63 hk_63 rfl (m_Processor_holds _ _ _ _ e2) rfl rfl rfl rfl rfl ?_
  refine xu_if_eq e_63 hk_63 rfl (fun c3 => ?_) (fun c3 => ?_)
  · have h := xif_pos c3 h
    refine xOK_fg [0, 1] ?_
    exact t_Processor_jump_43 t q  _ h
  · have h := xif_neg c3 h
    refine xOK_steps (fr' := (28, [some (.ref 17), some (.int x1), some (.int ((x1 &&& (1023 : Int32)) - ((x1 &&& (512 : Int32)) <<< ((1 : Int32) &&& 31))))], [.int (((q1.2.2 10) 0) + ((2 : Int32) * ((x1 &&& (1023 : Int32)) - ((x1 &&& (512 : Int32)) <<< ((1 : Int32) &&& 31))))), .int (0 : Int32), .ref 17])) (w' := (mk q1.2 t)) (ob := true) e_63 hk_63 20 rfl rfl ?_
    obtain ⟨q4, e5, h⟩ := Option.bind_eq_some_iff.mp h
    refine xu_callv (q := 17) (r := none) (av := [.int (0 : Int32), .int (((q1.2.2 10) 0) + ((2 : Int32) * ((x1 &&& (1023 : Int32)) - ((x1 &&& (512 : Int32)) <<< ((1 : Int32) &&& 31)))))]) (st := []) (w1 := (mk q4 t)) e_63 hk_63 rfl (m_Processor_setRegister _ _ _ _ _ e5) rfl rfl rfl rfl rfl ?_
    refine xOK_fg [0, 1, 2] ?_
    exact t_Processor_jump_43 t q  _ h
set_option maxRecDepth 100000 in
set_option maxHeartbeats 4000000 in
theorem t_Processor_signed_21 (t : xS) (q : (Int32 × xS)) (y0 : Int32) (s : xS) (h : f_Processor_signed_21 y0 s = some q) : xOK 86 none (xEnd 86 (some q.1) (mk q.2 t)) (13, [none, none], [.int y0]) (mk s t) 0 0 := by
  unfold f_Processor_signed_21 at h
  cases h
  exact xu_iret e_86 hk_86 rfl rfl rfl
set_option maxRecDepth 100000 in
set_option maxHeartbeats 4000000 in
theorem m_Processor_signed (x1 : Int32) (s t : xS) (q : (Int32 × xS)) (h : f_Processor_signed x1 s = some q) : xMet 86 [.ref 17, .int x1] (mk s t) (some q.1) (mk q.2 t) := by
  refine xMet_of hk_86 rfl rfl rfl ?_
  refine xOK_eq (fr := (0, [some (.ref 17), some (.int x1)], [])) rfl ?_
  unfold f_Processor_signed at h
  refine xOK_steps (fr' := (2, [some (.ref 17), some (.int x1)], [.ref 17, .int x1])) (w' := (mk s t)) (ob := true) e_86 hk_86 2 rfl rfl ?_
  obtain ⟨q1, e2, h⟩ := Option.bind_eq_some_iff.mp h
  refine xu_callv (q := 17) (r := (some q1.1)) (av := []) (st := [.int x1]) (w1 := (mk q1.2 t)) e_86 hk_86 rfl (m_Processor_highest  _ _ _ e2) rfl rfl rfl rfl rfl ?_
  refine xOK_steps (fr' := (4, [some (.ref 17), some (.int x1)], [.int (x1 &&& q1.1)])) (w' := (mk q1.2 t)) (ob := true) e_86 hk_86 1 rfl rfl ?_
  refine xu_if_eq e_86 hk_86 rfl (fun c3 => ?_) (fun c3 => ?_)
  · have h := xif_pos c3 h
    refine xOK_steps (fr' := (13, [some (.ref 17), some (.int x1)], [.int x1])) (w' := (mk q1.2 t)) (ob := true) e_86 hk_86 1 rfl rfl ?_
    refine xOK_fg [0, 1] ?_
    exact t_Processor_signed_21 t q _ _ h
  · have h := xif_neg c3 h
    refine xOK_steps (fr' := (8, [some (.ref 17), some (.int x1)], [.ref 17, .int (2 : Int32), .int x1])) (w' := (mk q1.2 t)) (ob := true) e_86 hk_86 3 rfl rfl ?_
    obtain ⟨q4, e5, h⟩ := Option.bind_eq_some_iff.mp h
    refine xu_callv (q := 17) (r := (some q4.1)) (av := []) (st := [.int (2 : Int32), .int x1]) (w1 := (mk q4.2 t)) e_86 hk_86 rfl (m_Processor_highest  _ _ _ e5) rfl rfl rfl rfl rfl ?_
    refine xOK_steps (fr' := (13, [some (.ref 17), some (.int x1)], [.int (x1 - ((2 : Int32) * q4.1))])) (w' := (mk q4.2 t)) (ob := true) e_86 hk_86 3 rfl rfl ?_
    refine xOK_fg [0, 1] ?_
    exact t_Processor_signed_21 t q _ _ h
set_option maxRecDepth 100000 in
set_option maxHeartbeats 4000000 in
theorem t_Processor_sum_70 (t : xS) (q : (Int32 × xS)) (x6 y1 y2 : Int32) (s : xS) (h : f_Processor_sum_70 x6 y1 y2 s = some q) : xOK 67 none (xEnd 67 (some q.1) (mk q.2 t)) (41, [none, none, none, none, none, none, some (.int x6)], [.int y2, .int y1, .ref 17]) (mk s t) 0 0 := by
  unfold f_Processor_sum_70 at h
  refine xOK_steps (fr' := (42, [none, none, none, none, none, none, some (.int x6)], [.int x6, .int y2, .int y1, .ref 17])) (w' := (mk s t)) (ob := true) e_67 hk_67 1 rfl rfl ?_
  obtain ⟨q1, e2, h⟩ := Option.bind_eq_some_iff.mp h
  refine xu_callv (q := 17) (r := (some q1.1)) (av := [.int y1, .int y2, .int x6]) (st := []) (w1 := (mk q1.2 t)) e_67 hk_67 rfl (m_Processor_askFlags _ _ _ _ _ _ e2) rfl rfl rfl rfl rfl ?_
  cases h
  exact xu_iret e_67 hk_67 rfl rfl rfl
set_option maxRecDepth 100000 in
set_option maxHeartbeats 4000000 in
theorem t_Processor_sum_46 (t : xS) (q : (Int32 × xS)) (x4 y0 : Int32) (s : xS) (h : f_Processor_sum_46 x4 y0 s = some q) : xOK 67 none (xEnd 67 (some q.1) (mk q.2 t)) (28, [some (.ref 17), none, none, none, some (.int x4), none, none], [.int y0]) (mk s t) 0 0 := by
  unfold f_Processor_sum_46 at h
  refine xOK_steps (fr' := (32, [some (.ref 17), none, none, none, some (.int x4), none, some (.int y0)], [.ref 17, .int x4, .ref 17])) (w' := (mk s t)) (ob := true) e_67 hk_67 4 rfl rfl ?_
  obtain ⟨q3, e4, h⟩ := Option.bind_eq_some_iff.mp h
  refine xu_callv (q := 17) (r := (some q3.1)) (av := []) (st := [.int x4, .ref 17]) (w1 := (mk q3.2 t)) e_67 hk_67 rfl (m_Processor_mask  _ _ _ e4) rfl rfl rfl rfl rfl ?_
  refine xOK_steps (fr' := (36, [some (.ref 17), none, none, none, some (.int x4), none, some (.int y0)], [.ref 17, .int x4, .int (x4 &&& q3.1), .ref 17])) (w' := (mk q3.2 t)) (ob := true) e_67 hk_67 3 rfl rfl ?_
  obtain ⟨q5, e6, h⟩ := Option.bind_eq_some_iff.mp h
  refine xu_callv (q := 17) (r := (some q5.1)) (av := []) (st := [.int x4, .int (x4 &&& q3.1), .ref 17]) (w1 := (mk q5.2 t)) e_67 hk_67 rfl (m_Processor_mask  _ _ _ e6) rfl rfl rfl rfl rfl ?_
  refine xu_icmp_le e_67 hk_67 rfl (fun c7 => ?_) (fun c7 => ?_)
  · have h := xif_pos c7 h
    refine xOK_steps (fr' := (41, [some (.ref 17), none, none, none, some (.int x4), none, some (.int y0)], [.int (0 : Int32), .int (x4 &&& q3.1), .ref 17])) (w' := (mk q5.2 t)) (ob := true) e_67 hk_67 1 rfl rfl ?_
    refine xOK_fg [0, 4] ?_
    exact t_Processor_sum_70 t q _ _ _ _ h
  · have h := xif_neg c7 h
    refine xOK_steps (fr' := (41, [some (.ref 17), none, none, none, some (.int x4), none, some (.int y0)], [.int (1 : Int32), .int (x4 &&& q3.1), .ref 17])) (w' := (mk q5.2 t)) (ob := true) e_67 hk_67 2 rfl rfl ?_
    refine xOK_fg [0, 4] ?_
    exact t_Processor_sum_70 t q _ _ _ _ h
set_option maxRecDepth 100000 in
set_option maxHeartbeats 4000000 in
theorem t_Processor_sum_41 (t : xS) (q : (Int32 × xS)) (x4 : Int32) (s : xS) (h : f_Processor_sum_41 x4 s = some q) : xOK 67 none (xEnd 67 (some q.1) (mk q.2 t)) (25, [some (.ref 17), none, none, none, some (.int x4), none, none], []) (mk s t) 0 0 := by
  unfold f_Processor_sum_41 at h
  refine xOK_steps (fr' := (28, [some (.ref 17), none, none, none, some (.int x4), none, none], [.int (1 : Int32)])) (w' := (mk s t)) (ob := true) e_67 hk_67 2 rfl rfl ?_
  exact t_Processor_sum_46 t q _ _ _ h
set_option maxRecDepth 100000 in
set_option maxHeartbeats 4000000 in
theorem m_Processor_sum (x1 x2 x3 : Int32) (s t : xS) (q : (Int32 × xS)) (h : f_Processor_sum x1 x2 x3 s = some q) : xMet 67 [.ref 17, .int x1, .int x2, .int x3] (mk s t) (some q.1) (mk q.2 t) := by
  refine xMet_of hk_67 rfl rfl rfl ?_
  refine xOK_eq (fr := (0, [some (.ref 17), some (.int x1), some (.int x2), some (.int x3), none, none, none], [])) rfl ?_
  unfold f_Processor_sum at h
  refine xOK_steps (fr' := (8, [some (.ref 17), some (.int x1), some (.int x2), some (.int x3), some (.int ((x1 + x2) + x3)), none, none], [.int x1, .ref 17])) (w' := (mk s t)) (ob := true) e_67 hk_67 8 rfl rfl ?_
  obtain ⟨q8, e9, h⟩ := Option.bind_eq_some_iff.mp h
  refine xu_callv (q := 17) (r := (some q8.1)) (av := [.int x1]) (st := []) (w1 := (mk q8.2 t)) e_67 hk_67 rfl (m_Processor_signed _ _ _ _ e9) rfl rfl rfl rfl rfl ?_
  refine xOK_steps (fr' := (11, [some (.ref 17), some (.int x1), some (.int x2), some (.int x3), some (.int ((x1 + x2) + x3)), none, none], [.int x2, .ref 17, .int q8.1])) (w' := (mk q8.2 t)) (ob := true) e_67 hk_67 2 rfl rfl ?_
  obtain ⟨q10, e11, h⟩ := Option.bind_eq_some_iff.mp h
  refine xu_callv (q := 17) (r := (some q10.1)) (av := [.int x2]) (st := [.int q8.1]) (w1 := (mk q10.2 t)) e_67 hk_67 rfl (m_Processor_signed _ _ _ _ e11) rfl rfl rfl rfl rfl ?_
  refine xOK_steps (fr' := (18, [some (.ref 17), some (.int x1), some (.int x2), some (.int x3), some (.int ((x1 + x2) + x3)), some (.int ((q8.1 + q10.1) + x3)), none], [.ref 17, .int ((q8.1 + q10.1) + x3)])) (w' := (mk q10.2 t)) (ob := true) e_67 hk_67 6 rfl rfl ?_
  obtain ⟨q12, e13, h⟩ := Option.bind_eq_some_iff.mp h
  refine xu_callv (q := 17) (r := (some q12.1)) (av := []) (st := [.int ((q8.1 + q10.1) + x3)]) (w1 := (mk q12.2 t)) e_67 hk_67 rfl (m_Processor_highest  _ _ _ e13) rfl rfl rfl rfl rfl ?_
  refine xOK_steps (fr' := (20, [some (.ref 17), some (.int x1), some (.int x2), some (.int x3), some (.int ((x1 + x2) + x3)), some (.int ((q8.1 + q10.1) + x3)), none], [.int (-q12.1), .int ((q8.1 + q10.1) + x3)])) (w' := (mk q12.2 t)) (ob := true) e_67 hk_67 1 rfl rfl ?_
  refine xu_icmp_lt e_67 hk_67 rfl (fun c14 => ?_) (fun c14 => ?_)
  · have h := xif_pos c14 h
    refine xOK_fg [1, 2, 3, 5] ?_
    exact t_Processor_sum_41 t q _ _ h
  · have h := xif_neg c14 h
    refine xOK_steps (fr' := (23, [some (.ref 17), some (.int x1), some (.int x2), some (.int x3), some (.int ((x1 + x2) + x3)), some (.int ((q8.1 + q10.1) + x3)), none], [.ref 17, .int ((q8.1 + q10.1) + x3)])) (w' := (mk q12.2 t)) (ob := true) e_67 hk_67 2 rfl rfl ?_
    obtain ⟨q15, e16, h⟩ := Option.bind_eq_some_iff.mp h
    refine xu_callv (q := 17) (r := (some q15.1)) (av := []) (st := [.int ((q8.1 + q10.1) + x3)]) (w1 := (mk q15.2 t)) e_67 hk_67 rfl (m_Processor_highest  _ _ _ e16) rfl rfl rfl rfl rfl ?_
    refine xu_icmp_lt e_67 hk_67 rfl (fun c17 => ?_) (fun c17 => ?_)
    · have h := xif_pos c17 h
      refine xOK_steps (fr' := (28, [some (.ref 17), some (.int x1), some (.int x2), some (.int x3), some (.int ((x1 + x2) + x3)), some (.int ((q8.1 + q10.1) + x3)), none], [.int (0 : Int32)])) (w' := (mk q15.2 t)) (ob := true) e_67 hk_67 1 rfl rfl ?_
      refine xOK_fg [1, 2, 3, 5] ?_
      exact t_Processor_sum_46 t q _ _ _ h
    · have h := xif_neg c17 h
      refine xOK_fg [1, 2, 3, 5] ?_
      exact t_Processor_sum_41 t q _ _ h
set_option maxRecDepth 100000 in
set_option maxHeartbeats 4000000 in
theorem t_Processor_decimalSum_110 (t : xS) (q : (Int32 × xS)) (y1 y2 : Int32) (s : xS) (h : f_Processor_decimalSum_110 y1 y2 s = some q) : xOK 68 none (xEnd 68 (some q.1) (mk q.2 t)) (66, [none, none, none, none, none, none, none, none], [.int y2, .int y1, .ref 17]) (mk s t) 0 0 := by
  unfold f_Processor_decimalSum_110 at h
  refine xOK_steps (fr' := (67, [none, none, none, none, none, none, none, none], [.int (0 : Int32), .int y2, .int y1, .ref 17])) (w' := (mk s t)) (ob := true) e_68 hk_68 1 rfl rfl ?_
  obtain ⟨q1, e2, h⟩ := Option.bind_eq_some_iff.mp h
  refine xu_callv (q := 17) (r := (some q1.1)) (av := [.int y1, .int y2, .int (0 : Int32)]) (st := []) (w1 := (mk q1.2 t)) e_68 hk_68 rfl (m_Processor_askFlags _ _ _ _ _ _ e2) rfl rfl rfl rfl rfl ?_
  cases h
  exact xu_iret e_68 hk_68 rfl rfl rfl
set_option maxRecDepth 100000 in
set_option maxHeartbeats 4000000 in
theorem t_Processor_decimalSum_67 (t : xS) (q : (Int32 × xS)) (lp : Int32 → Int32 → Int32 → Int32 → Int32 → Int32 → xS → Option (Int32 × xS)) (hlp : ∀ (x1 x2 x3 x4 x5 x6 : Int32) (s : xS), lp x1 x2 x3 x4 x5 x6 s = some q → xOK 68 none (xEnd 68 (some q.1) (mk q.2 t)) (14, [some (.ref 17), some (.int x1), some (.int x2), some (.int x3), some (.int x4), some (.int x5), some (.int x6), none], []) (mk s t) 0 0) (x1 x2 x3 x5 x6 x7 y0 : Int32) (s : xS) (h : f_Processor_decimalSum_67 lp x1 x2 x3 x5 x6 x7 y0 s = some q) : xOK 68 none (xEnd 68 (some q.1) (mk q.2 t)) (41, [some (.ref 17), some (.int x1), some (.int x2), some (.int x3), none, some (.int x5), some (.int x6), some (.int x7)], [.int y0]) (mk s t) 0 0 := by
  unfold f_Processor_decimalSum_67 at h
  refine xOK_steps (fr' := (14, [some (.ref 17), some (.int x1), some (.int x2), some (.int x3), some (.int y0), some (.int (x5 ||| (((x7 + ((6 : Int32) * y0)) &&& (15 : Int32)) <<< (((4 : Int32) * x6) &&& 31)))), some (.int (x6 + (1 : Int32))), some (.int x7)], [])) (w' := (mk s t)) (ob := true) e_68 hk_68 17 rfl rfl ?_
  refine xOK_fg [7] ?_
  exact hlp _ _ _ _ _ _ _ h
set_option maxRecDepth 100000 in
set_option maxHeartbeats 4000000 in
theorem t_Processor_decimalSum_25 (t : xS) (q : (Int32 × xS)) : ∀ (n : Nat), ∀ (x1 x2 x3 x4 x5 x6 : Int32) (s : xS), f_Processor_decimalSum_25 n x1 x2 x3 x4 x5 x6 s = some q → xOK 68 none (xEnd 68 (some q.1) (mk q.2 t)) (14, [some (.ref 17), some (.int x1), some (.int x2), some (.int x3), some (.int x4), some (.int x5), some (.int x6), none], []) (mk s t) 0 0 := by
  intro n
  induction n with
  | zero => intro x1 x2 x3 x4 x5 x6 s h; cases h
  | succ n ih =>
    intro x1 x2 x3 x4 x5 x6 s h
    unfold f_Processor_decimalSum_25 at h
    refine xOK_steps (fr' := (16, [some (.ref 17), some (.int x1), some (.int x2), some (.int x3), some (.int x4), some (.int x5), some (.int x6), none], [.int x3, .int x6])) (w' := (mk s t)) (ob := true) e_68 hk_68 2 rfl rfl ?_
    refine xu_icmp_ge e_68 hk_68 rfl (fun c3 => ?_) (fun c3 => ?_)
    · have h := xif_pos c3 h
      refine xOK_steps (fr' := (62, [some (.ref 17), some (.int x1), some (.int x2), some (.int x3), some (.int x4), some (.int x5), some (.int x6), none], [.int (1 : Int32), .int x4, .int x5, .ref 17])) (w' := (mk s t)) (ob := true) e_68 hk_68 4 rfl rfl ?_
      refine xu_icmp_ne e_68 hk_68 rfl (fun c4 => ?_) (fun c4 => ?_)
      · have h := xif_neg c4 h
        refine xOK_steps (fr' := (66, [some (.ref 17), some (.int x1), some (.int x2), some (.int x3), some (.int x4), some (.int x5), some (.int x6), none], [.int (0 : Int32), .int x5, .ref 17])) (w' := (mk s t)) (ob := true) e_68 hk_68 1 rfl rfl ?_
        refine xOK_fg [0, 1, 2, 3, 4, 5, 6] ?_
        exact t_Processor_decimalSum_110 t q _ _ _ h
      · have h := xif_pos c4 h
        refine xOK_steps (fr' := (66, [some (.ref 17), some (.int x1), some (.int x2), some (.int x3), some (.int x4), some (.int x5), some (.int x6), none], [.int (1 : Int32), .int x5, .ref 17])) (w' := (mk s t)) (ob := true) e_68 hk_68 2 rfl rfl ?_
        refine xOK_fg [0, 1, 2, 3, 4, 5, 6] ?_
        exact t_Processor_decimalSum_110 t q _ _ _ h
    · have h := xif_neg c3 h
      refine xOK_steps (fr' := (37, [some (.ref 17), some (.int x1), some (.int x2), some (.int x3), some (.int x4), some (.int x5), some (.int x6), some (.int ((((x1 >>> (((4 : Int32) * x6) &&& 31)) &&& (15 : Int32)) + ((x2 >>> (((4 : Int32) * x6) &&& 31)) &&& (15 : Int32))) + x4))], [.int (10 : Int32), .int ((((x1 >>> (((4 : Int32) * x6) &&& 31)) &&& (15 : Int32)) + ((x2 >>> (((4 : Int32) * x6) &&& 31)) &&& (15 : Int32))) + x4)])) (w' := (mk s t)) (ob := true) e_68 hk_68 20 rfl rfl ?_
      refine xu_icmp_lt e_68 hk_68 rfl (fun c5 => ?_) (fun c5 => ?_)
      · have h := xif_pos c5 h
        refine xOK_steps (fr' := (41, [some (.ref 17), some (.int x1), some (.int x2), some (.int x3), some (.int x4), some (.int x5), some (.int x6), some (.int ((((x1 >>> (((4 : Int32) * x6) &&& 31)) &&& (15 : Int32)) + ((x2 >>> (((4 : Int32) * x6) &&& 31)) &&& (15 : Int32))) + x4))], [.int (0 : Int32)])) (w' := (mk s t)) (ob := true) e_68 hk_68 1 rfl rfl ?_
        refine xOK_fg [4] ?_
        exact t_Processor_decimalSum_67 t q _ ih _ _ _ _ _ _ _ _ h
      · have h := xif_neg c5 h
        refine xOK_steps (fr' := (41, [some (.ref 17), some (.int x1), some (.int x2), some (.int x3), some (.int x4), some (.int x5), some (.int x6), some (.int ((((x1 >>> (((4 : Int32) * x6) &&& 31)) &&& (15 : Int32)) + ((x2 >>> (((4 : Int32) * x6) &&& 31)) &&& (15 : Int32))) + x4))], [.int (1 : Int32)])) (w' := (mk s t)) (ob := true) e_68 hk_68 2 rfl rfl ?_
        refine xOK_fg [4] ?_
        exact t_Processor_decimalSum_67 t q _ ih _ _ _ _ _ _ _ _ h
set_option maxRecDepth 100000 in
set_option maxHeartbeats 4000000 in
theorem t_Processor_decimalSum_12 (t : xS) (q : (Int32 × xS)) (x1 x2 y0 : Int32) (s : xS) (h : f_Processor_decimalSum_12 x1 x2 y0 s = some q) : xOK 68 none (xEnd 68 (some q.1) (mk q.2 t)) (6, [some (.ref 17), some (.int x1), some (.int x2), none, none, none, none, none], [.int y0]) (mk s t) 0 0 := by
  unfold f_Processor_decimalSum_12 at h
  refine xOK_steps (fr' := (8, [some (.ref 17), some (.int x1), some (.int x2), some (.int y0), none, none, none, none], [.ref 17])) (w' := (mk s t)) (ob := true) e_68 hk_68 2 rfl rfl ?_
  obtain ⟨q6, e7, h⟩ := Option.bind_eq_some_iff.mp h
  refine xu_callv (q := 17) (r := (some q6.1)) (av := []) (st := []) (w1 := (mk q6.2 t)) e_68 hk_68 rfl (m_Processor_carry  _ _ _ e7) rfl rfl rfl rfl rfl ?_
  refine xOK_steps (fr' := (14, [some (.ref 17), some (.int x1), some (.int x2), some (.int y0), some (.int q6.1), some (.int (0 : Int32)), some (.int (0 : Int32)), none], [])) (w' := (mk q6.2 t)) (ob := true) e_68 hk_68 5 rfl rfl ?_
  exact t_Processor_decimalSum_25 t q _ _ _ _ _ _ _ _ h
set_option maxRecDepth 100000 in
set_option maxHeartbeats 4000000 in
theorem m_Processor_decimalSum (x1 x2 : Int32) (s t : xS) (q : (Int32 × xS)) (h : f_Processor_decimalSum x1 x2 s = some q) : xMet 68 [.ref 17, .int x1, .int x2] (mk s t) (some q.1) (mk q.2 t) := by
  refine xMet_of hk_68 rfl rfl rfl ?_
  refine xOK_eq (fr := (0, [some (.ref 17), some (.int x1), some (.int x2), none, none, none, none, none], [])) rfl ?_
  unfold f_Processor_decimalSum at h
  refine xOK_steps (fr' := (2, [some (.ref 17), some (.int x1), some (.int x2), none, none, none, none, none], [.int (s.1 13)])) (w' := (mk s t)) (ob := true) e_68 hk_68 2 rfl rfl ?_
  refine xu_if_eq e_68 hk_68 rfl (fun c8 => ?_) (fun c8 => ?_)
  · have h := xif_pos c8 h
    refine xOK_steps (fr' := (6, [some (.ref 17), some (.int x1), some (.int x2), none, none, none, none, none], [.int (4 : Int32)])) (w' := (mk s t)) (ob := true) e_68 hk_68 1 rfl rfl ?_
    exact t_Processor_decimalSum_12 t q _ _ _ _ h
  · have h := xif_neg c8 h
    refine xOK_steps (fr' := (6, [some (.ref 17), some (.int x1), some (.int x2), none, none, none, none, none], [.int (2 : Int32)])) (w' := (mk s t)) (ob := true) e_68 hk_68 2 rfl rfl ?_
    exact t_Processor_decimalSum_12 t q _ _ _ _ h
set_option maxRecDepth 100000 in
set_option maxHeartbeats 4000000 in
theorem t_Processor_combined_153 (t : xS) (q : (Int32 × xS)) (y1 y2 : Int32) (s : xS) (h : f_Processor_combined_153 y1 y2 s = some q) : xOK 65 none (xEnd 65 (some q.1) (mk q.2 t)) (69, [none, none, none, none, none], [.int y2, .int y1, .ref 17]) (mk s t) 0 0 := by
  unfold f_Processor_combined_153 at h
  obtain ⟨q1, e2, h⟩ := Option.bind_eq_some_iff.mp h
  refine xu_callv (q := 17) (r := (some q1.1)) (av := [.int y1, .int y2]) (st := []) (w1 := (mk q1.2 t)) e_65 hk_65 rfl (m_Processor_logical _ _ _ _ _ e2) rfl rfl rfl rfl rfl ?_
  cases h
  exact xu_iret e_65 hk_65 rfl rfl rfl
set_option maxRecDepth 100000 in
set_option maxHeartbeats 4000000 in
theorem m_Processor_combined (x1 x2 x3 : Int32) (s t : xS) (q : (Int32 × xS)) (h : f_Processor_combined x1 x2 x3 s = some q) : xMet 65 [.ref 17, .int x1, .int x2, .int x3] (mk s t) (some q.1) (mk q.2 t) := by
  refine xMet_of hk_65 rfl rfl rfl ?_
  refine xOK_eq (fr := (0, [some (.ref 17), some (.int x1), some (.int x2), some (.int x3), none], [])) rfl ?_
  unfold f_Processor_combined at h
  refine xOK_steps (fr' := (4, [some (.ref 17), some (.int x1), some (.int x2), some (.int x3), none], [.ref 17, .int (x3 ^^^ (-1 : Int32))])) (w' := (mk s t)) (ob := true) e_65 hk_65 4 rfl rfl ?_
  obtain ⟨q3, e4, h⟩ := Option.bind_eq_some_iff.mp h
  refine xu_callv (q := 17) (r := (some q3.1)) (av := []) (st := [.int (x3 ^^^ (-1 : Int32))]) (w1 := (mk q3.2 t)) e_65 hk_65 rfl (m_Processor_mask  _ _ _ e4) rfl rfl rfl rfl rfl ?_
  refine xOK_steps (fr' := (8, [some (.ref 17), some (.int x1), some (.int x2), some (.int x3), some (.int ((x3 ^^^ (-1 : Int32)) &&& q3.1))], [.int x1])) (w' := (mk q3.2 t)) (ob := true) e_65 hk_65 3 rfl rfl ?_
  by_cases c5 : (x1 < (5 : Int32) ∨ (15 : Int32) < x1)
  · have h := xif_pos c5 h
    refine xu_tswOut (t := 71) e_65 hk_65 rfl c5 rfl rfl rfl ?_
    refine xOK_steps (fr' := (72, [some (.ref 17), some (.int x1), some (.int x2), some (.int x3), some (.int ((x3 ^^^ (-1 : Int32)) &&& q3.1))], [.int x3])) (w' := (mk q3.2 t)) (ob := true) e_65 hk_65 1 rfl rfl ?_
    cases h
    exact xu_iret e_65 hk_65 rfl rfl rfl
  have h := xif_neg c5 h
  by_cases c6 : x1 = (5 : Int32)
  · have h := xif_pos c6 h
    refine xu_tswJ (t := 9) e_65 hk_65 rfl c6 (by decide) (by decide) rfl rfl ?_
    refine xOK_steps (fr' := (13, [some (.ref 17), some (.int x1), some (.int x2), some (.int x3), some (.int ((x3 ^^^ (-1 : Int32)) &&& q3.1))], [.int (0 : Int32), .int x3, .int x2, .ref 17])) (w' := (mk q3.2 t)) (ob := true) e_65 hk_65 4 rfl rfl ?_
    obtain ⟨q7, e8, h⟩ := Option.bind_eq_some_iff.mp h
    refine xu_callv (q := 17) (r := (some q7.1)) (av := [.int x2, .int x3, .int (0 : Int32)]) (st := []) (w1 := (mk q7.2 t)) e_65 hk_65 rfl (m_Processor_sum _ _ _ _ _ _ e8) rfl rfl rfl rfl rfl ?_
    cases h
    exact xu_iret e_65 hk_65 rfl rfl rfl
  have h := xif_neg c6 h
  by_cases c9 : x1 = (6 : Int32)
  · have h := xif_pos c9 h
    refine xu_tswJ (t := 15) e_65 hk_65 rfl c9 (by decide) (by decide) rfl rfl ?_
    refine xOK_steps (fr' := (19, [some (.ref 17), some (.int x1), some (.int x2), some (.int x3), some (.int ((x3 ^^^ (-1 : Int32)) &&& q3.1))], [.ref 17, .int x3, .int x2, .ref 17])) (w' := (mk q3.2 t)) (ob := true) e_65 hk_65 4 rfl rfl ?_
    obtain ⟨q10, e11, h⟩ := Option.bind_eq_some_iff.mp h
    refine xu_callv (q := 17) (r := (some q10.1)) (av := []) (st := [.int x3, .int x2, .ref 17]) (w1 := (mk q10.2 t)) e_65 hk_65 rfl (m_Processor_carry  _ _ _ e11) rfl rfl rfl rfl rfl ?_
    obtain ⟨q12, e13, h⟩ := Option.bind_eq_some_iff.mp h
    refine xu_callv (q := 17) (r := (some q12.1)) (av := [.int x2, .int x3, .int q10.1]) (st := []) (w1 := (mk q12.2 t)) e_65 hk_65 rfl (m_Processor_sum _ _ _ _ _ _ e13) rfl rfl rfl rfl rfl ?_
    cases h
    exact xu_iret e_65 hk_65 rfl rfl rfl
  have h := xif_neg c9 h
  by_cases c14 : x1 = (7 : Int32)
  · have h := xif_pos c14 h
    refine xu_tswJ (t := 22) e_65 hk_65 rfl c14 (by decide) (by decide) rfl rfl ?_
    refine xOK_steps (fr' := (26, [some (.ref 17), some (.int x1), some (.int x2), some (.int x3), some (.int ((x3 ^^^ (-1 : Int32)) &&& q3.1))], [.ref 17, .int ((x3 ^^^ (-1 : Int32)) &&& q3.1), .int x2, .ref 17])) (w' := (mk q3.2 t)) (ob := true) e_65 hk_65 4 rfl rfl ?_
    obtain ⟨q15, e16, h⟩ := Option.bind_eq_some_iff.mp h
    refine xu_callv (q := 17) (r := (some q15.1)) (av := []) (st := [.int ((x3 ^^^ (-1 : Int32)) &&& q3.1), .int x2, .ref 17]) (w1 := (mk q15.2 t)) e_65 hk_65 rfl (m_Processor_carry  _ _ _ e16) rfl rfl rfl rfl rfl ?_
    obtain ⟨q17, e18, h⟩ := Option.bind_eq_some_iff.mp h
    refine xu_callv (q := 17) (r := (some q17.1)) (av := [.int x2, .int ((x3 ^^^ (-1 : Int32)) &&& q3.1), .int q15.1]) (st := []) (w1 := (mk q17.2 t)) e_65 hk_65 rfl (m_Processor_sum _ _ _ _ _ _ e18) rfl rfl rfl rfl rfl ?_
    cases h
    exact xu_iret e_65 hk_65 rfl rfl rfl
  have h := xif_neg c14 h
  by_cases c19 : x1 = (8 : Int32)
  · have h := xif_pos c19 h
    refine xu_tswJ (t := 29) e_65 hk_65 rfl c19 (by decide) (by decide) rfl rfl ?_
    refine xOK_steps (fr' := (33, [some (.ref 17), some (.int x1), some (.int x2), some (.int x3), some (.int ((x3 ^^^ (-1 : Int32)) &&& q3.1))], [.int (1 : Int32), .int ((x3 ^^^ (-1 : Int32)) &&& q3.1), .int x2, .ref 17])) (w' := (mk q3.2 t)) (ob := true) e_65 hk_65 4 rfl rfl ?_
    obtain ⟨q20, e21, h⟩ := Option.bind_eq_some_iff.mp h
    refine xu_callv (q := 17) (r := (some q20.1)) (av := [.int x2, .int ((x3 ^^^ (-1 : Int32)) &&& q3.1), .int (1 : Int32)]) (st := []) (w1 := (mk q20.2 t)) e_65 hk_65 rfl (m_Processor_sum _ _ _ _ _ _ e21) rfl rfl rfl rfl rfl ?_
    cases h
    exact xu_iret e_65 hk_65 rfl rfl rfl
  have h := xif_neg c19 h
  by_cases c22 : x1 = (9 : Int32)
  · have h := xif_pos c22 h
    refine xu_tswJ (t := 29) e_65 hk_65 rfl c22 (by decide) (by decide) rfl rfl ?_
    refine xOK_steps (fr' := (33, [some (.ref 17), some (.int x1), some (.int x2), some (.int x3), some (.int ((x3 ^^^ (-1 : Int32)) &&& q3.1))], [.int (1 : Int32), .int ((x3 ^^^ (-1 : Int32)) &&& q3.1), .int x2, .ref 17])) (w' := (mk q3.2 t)) (ob := true) e_65 hk_65 4 rfl rfl ?_
    obtain ⟨q23, e24, h⟩ := Option.bind_eq_some_iff.mp h
    refine xu_callv (q := 17) (r := (some q23.1)) (av := [.int x2, .int ((x3 ^^^ (-1 : Int32)) &&& q3.1), .int (1 : Int32)]) (st := []) (w1 := (mk q23.2 t)) e_65 hk_65 rfl (m_Processor_sum _ _ _ _ _ _ e24) rfl rfl rfl rfl rfl ?_
    cases h
    exact xu_iret e_65 hk_65 rfl rfl rfl
  have h := xif_neg c22 h
  by_cases c25 : x1 = (10 : Int32)
  · have h := xif_pos c25 h
    refine xu_tswJ (t := 35) e_65 hk_65 rfl c25 (by decide) (by decide) rfl rfl ?_
    refine xOK_steps (fr' := (38, [some (.ref 17), some (.int x1), some (.int x2), some (.int x3), some (.int ((x3 ^^^ (-1 : Int32)) &&& q3.1))], [.int x3, .int x2, .ref 17])) (w' := (mk q3.2 t)) (ob := true) e_65 hk_65 3 rfl rfl ?_
    obtain ⟨q26, e27, h⟩ := Option.bind_eq_some_iff.mp h
    refine xu_callv (q := 17) (r := (some q26.1)) (av := [.int x2, .int x3]) (st := []) (w1 := (mk q26.2 t)) e_65 hk_65 rfl (m_Processor_decimalSum _ _ _ _ _ e27) rfl rfl rfl rfl rfl ?_
    cases h
    exact xu_iret e_65 hk_65 rfl rfl rfl
  have h := xif_neg c25 h
  by_cases c28 : x1 = (11 : Int32)
  · have h := xif_pos c28 h
    refine xu_tswJ (t := 40) e_65 hk_65 rfl c28 (by decide) (by decide) rfl rfl ?_
    refine xOK_steps (fr' := (45, [some (.ref 17), some (.int x1), some (.int x2), some (.int x3), some (.int ((x3 ^^^ (-1 : Int32)) &&& q3.1))], [.int (0 : Int32), .int (x2 &&& x3), .ref 17])) (w' := (mk q3.2 t)) (ob := true) e_65 hk_65 5 rfl rfl ?_
    obtain ⟨q29, e30, h⟩ := Option.bind_eq_some_iff.mp h
    refine xu_callv (q := 17) (r := (some q29.1)) (av := [.int (x2 &&& x3), .int (0 : Int32)]) (st := []) (w1 := (mk q29.2 t)) e_65 hk_65 rfl (m_Processor_logical _ _ _ _ _ e30) rfl rfl rfl rfl rfl ?_
    cases h
    exact xu_iret e_65 hk_65 rfl rfl rfl
  have h := xif_neg c28 h
  by_cases c31 : x1 = (12 : Int32)
  · have h := xif_pos c31 h
    refine xu_tswJ (t := 47) e_65 hk_65 rfl c31 (by decide) (by decide) rfl rfl ?_
    refine xOK_steps (fr' := (50, [some (.ref 17), some (.int x1), some (.int x2), some (.int x3), some (.int ((x3 ^^^ (-1 : Int32)) &&& q3.1))], [.int (x2 &&& ((x3 ^^^ (-1 : Int32)) &&& q3.1))])) (w' := (mk q3.2 t)) (ob := true) e_65 hk_65 3 rfl rfl ?_
    cases h
    exact xu_iret e_65 hk_65 rfl rfl rfl
  have h := xif_neg c31 h
  by_cases c32 : x1 = (13 : Int32)
  · have h := xif_pos c32 h
    refine xu_tswJ (t := 51) e_65 hk_65 rfl c32 (by decide) (by decide) rfl rfl ?_
    refine xOK_steps (fr' := (54, [some (.ref 17), some (.int x1), some (.int x2), some (.int x3), some (.int ((x3 ^^^ (-1 : Int32)) &&& q3.1))], [.int (x2 ||| x3)])) (w' := (mk q3.2 t)) (ob := true) e_65 hk_65 3 rfl rfl ?_
    cases h
    exact xu_iret e_65 hk_65 rfl rfl rfl
  have h := xif_neg c32 h
  by_cases c33 : x1 = (14 : Int32)
  · have h := xif_pos c33 h
    refine xu_tswJ (t := 55) e_65 hk_65 rfl c33 (by decide) (by decide) rfl rfl ?_
    refine xOK_steps (fr' := (63, [some (.ref 17), some (.int x1), some (.int x2), some (.int x3), some (.int ((x3 ^^^ (-1 : Int32)) &&& q3.1))], [.ref 17, .int (x2 &&& x3), .int (x2 ^^^ x3), .ref 17])) (w' := (mk q3.2 t)) (ob := true) e_65 hk_65 8 rfl rfl ?_
    obtain ⟨q34, e35, h⟩ := Option.bind_eq_some_iff.mp h
    refine xu_callv (q := 17) (r := (some q34.1)) (av := []) (st := [.int (x2 &&& x3), .int (x2 ^^^ x3), .ref 17]) (w1 := (mk q34.2 t)) e_65 hk_65 rfl (m_Processor_highest  _ _ _ e35) rfl rfl rfl rfl rfl ?_
    refine xOK_steps (fr' := (65, [some (.ref 17), some (.int x1), some (.int x2), some (.int x3), some (.int ((x3 ^^^ (-1 : Int32)) &&& q3.1))], [.int ((x2 &&& x3) &&& q34.1), .int (x2 ^^^ x3), .ref 17])) (w' := (mk q34.2 t)) (ob := true) e_65 hk_65 1 rfl rfl ?_
    refine xu_if_eq e_65 hk_65 rfl (fun c36 => ?_) (fun c36 => ?_)
    · have h := xif_pos c36 h
      refine xOK_steps (fr' := (69, [some (.ref 17), some (.int x1), some (.int x2), some (.int x3), some (.int ((x3 ^^^ (-1 : Int32)) &&& q3.1))], [.int (0 : Int32), .int (x2 ^^^ x3), .ref 17])) (w' := (mk q34.2 t)) (ob := true) e_65 hk_65 1 rfl rfl ?_
      refine xOK_fg [0, 1, 2, 3, 4] ?_
      exact t_Processor_combined_153 t q _ _ _ h
    · have h := xif_neg c36 h
      refine xOK_steps (fr' := (69, [some (.ref 17), some (.int x1), some (.int x2), some (.int x3), some (.int ((x3 ^^^ (-1 : Int32)) &&& q3.1))], [.int (1 : Int32), .int (x2 ^^^ x3), .ref 17])) (w' := (mk q34.2 t)) (ob := true) e_65 hk_65 2 rfl rfl ?_
      refine xOK_fg [0, 1, 2, 3, 4] ?_
      exact t_Processor_combined_153 t q _ _ _ h
  have h := xif_neg c33 h
  by_cases c37 : x1 = (15 : Int32)
  · have h := xif_pos c37 h
    refine xu_tswJ (t := 40) e_65 hk_65 rfl c37 (by decide) (by decide) rfl rfl ?_
    refine xOK_steps (fr' := (45, [some (.ref 17), some (.int x1), some (.int x2), some (.int x3), some (.int ((x3 ^^^ (-1 : Int32)) &&& q3.1))], [.int (0 : Int32), .int (x2 &&& x3), .ref 17])) (w' := (mk q3.2 t)) (ob := true) e_65 hk_65 5 rfl rfl ?_
    obtain ⟨q38, e39, h⟩ := Option.bind_eq_some_iff.mp h
    refine xu_callv (q := 17) (r := (some q38.1)) (av := [.int (x2 &&& x3), .int (0 : Int32)]) (st := []) (w1 := (mk q38.2 t)) e_65 hk_65 rfl (m_Processor_logical _ _ _ _ _ e39) rfl rfl rfl rfl rfl ?_
    cases h
    exact xu_iret e_65 hk_65 rfl rfl rfl
  have h := xif_neg c37 h
  cases h
set_option maxRecDepth 100000 in
set_option maxHeartbeats 4000000 in
theorem t_Processor_findDestination_31 (t : xS) (q : xS) (s : xS) (h : f_Processor_findDestination_31  s = some q) : xOK 74 none (xEnd 74 none (mk q t)) (18, [none, none, none], []) (mk s t) 0 0 := by
  unfold f_Processor_findDestination_31 at h
  cases h
  exact xu_vret e_74 hk_74 rfl rfl
set_option maxRecDepth 100000 in
set_option maxHeartbeats 4000000 in
theorem m_Processor_findDestination (x1 x2 : Int32) (s t : xS) (q : xS) (h : f_Processor_findDestination x1 x2 s = some q) : xMet 74 [.ref 17, .int x1, .int x2] (mk s t) none (mk q t) := by
  refine xMet_of hk_74 rfl rfl rfl ?_
  refine xOK_eq (fr := (0, [some (.ref 17), some (.int x1), some (.int x2)], [])) rfl ?_
  unfold f_Processor_findDestination at h
  refine xOK_steps (fr' := (1, [some (.ref 17), some (.int x1), some (.int x2)], [.int x2])) (w' := (mk s t)) (ob := true) e_74 hk_74 1 rfl rfl ?_
  refine xu_if_ne e_74 hk_74 rfl (fun c1 => ?_) (fun c1 => ?_)
  · have h := xif_neg c1 h
    refine xOK_steps (fr' := (11, [some (.ref 17), some (.int x1), some (.int x2)], [.int x1, .ref 17, .int (2 : Int32), .ref 17])) (w' := (mk s t)) (ob := true) e_74 hk_74 4 rfl rfl ?_
    obtain ⟨q2, e3, h⟩ := Option.bind_eq_some_iff.mp h
    refine xu_callv (q := 17) (r := (some q2.1)) (av := [.int x1]) (st := [.int (2 : Int32), .ref 17]) (w1 := (mk q2.2 t)) e_74 hk_74 rfl (m_Processor_base _ _ _ _ e3) rfl rfl rfl rfl rfl ?_
    refine xOK_steps (fr' := (13, [some (.ref 17), some (.int x1), some (.int x2)], [.ref 17, .int q2.1, .int (2 : Int32), .ref 17])) (w' := (mk q2.2 t)) (ob := true) e_74 hk_74 1 rfl rfl ?_
    obtain ⟨q4, e5, h⟩ := Option.bind_eq_some_iff.mp h
    refine xu_callv (q := 17) (r := (some q4.1)) (av := []) (st := [.int q2.1, .int (2 : Int32), .ref 17]) (w1 := (mk q4.2 t)) e_74 hk_74 rfl (m_Processor_nextWord  _ _ _ e5) rfl rfl rfl rfl rfl ?_
    refine xOK_steps (fr' := (17, [some (.ref 17), some (.int x1), some (.int x2)], [.int ((q2.1 + q4.1) &&& (65535 : Int32)), .int (2 : Int32), .ref 17])) (w' := (mk q4.2 t)) (ob := true) e_74 hk_74 3 rfl rfl ?_
    obtain ⟨q6, e7, h⟩ := Option.bind_eq_some_iff.mp h
    refine xu_callv (q := 17) (r := none) (av := [.int (2 : Int32), .int ((q2.1 + q4.1) &&& (65535 : Int32))]) (st := []) (w1 := (mk q6 t)) e_74 hk_74 rfl (m_Processor_find _ _ _ _ _ e7) rfl rfl rfl rfl rfl ?_
    refine xOK_fg [0, 1, 2] ?_
    exact t_Processor_findDestination_31 t q  _ h
  · have h := xif_pos c1 h
    refine xOK_steps (fr' := (5, [some (.ref 17), some (.int x1), some (.int x2)], [.int x1, .int (1 : Int32), .ref 17])) (w' := (mk s t)) (ob := true) e_74 hk_74 3 rfl rfl ?_
    obtain ⟨q8, e9, h⟩ := Option.bind_eq_some_iff.mp h
    refine xu_callv (q := 17) (r := none) (av := [.int (1 : Int32), .int x1]) (st := []) (w1 := (mk q8 t)) e_74 hk_74 rfl (m_Processor_find _ _ _ _ _ e9) rfl rfl rfl rfl rfl ?_
    refine xOK_steps (fr' := (18, [some (.ref 17), some (.int x1), some (.int x2)], [])) (w' := (mk q8 t)) (ob := true) e_74 hk_74 1 rfl rfl ?_
    refine xOK_fg [0, 1, 2] ?_
    exact t_Processor_findDestination_31 t q  _ h
set_option maxRecDepth 100000 in
set_option maxHeartbeats 4000000 in
theorem t_Processor_twoOperands_109 (t : xS) (q : xS) (s : xS) (h : f_Processor_twoOperands_109  s = some q) : xOK 61 none (xEnd 61 none (mk q t)) (67, [none, none, none, none, none, none], []) (mk s t) 0 0 := by
  unfold f_Processor_twoOperands_109 at h
  cases h
  exact xu_vret e_61 hk_61 rfl rfl
set_option maxRecDepth 100000 in
set_option maxHeartbeats 4000000 in
theorem t_Processor_twoOperands_96 (t : xS) (q : xS) (s : xS) (h : f_Processor_twoOperands_96  s = some q) : xOK 61 none (xEnd 61 none (mk q t)) (61, [some (.ref 17), none, none, none, none, none], []) (mk s t) 0 0 := by
  unfold f_Processor_twoOperands_96 at h
  refine xOK_steps (fr' := (62, [some (.ref 17), none, none, none, none, none], [.ref 17])) (w' := (mk s t)) (ob := true) e_61 hk_61 1 rfl rfl ?_
  obtain ⟨q1, e2, h⟩ := Option.bind_eq_some_iff.mp h
  refine xu_callv (q := 17) (r := none) (av := []) (st := []) (w1 := (mk q1 t)) e_61 hk_61 rfl (m_Processor_setFlags  _ _ _ e2) rfl rfl rfl rfl rfl ?_
  refine xOK_steps (fr' := (67, [some (.ref 17), none, none, none, none, none], [])) (w' := (mk q1 t)) (ob := true) e_61 hk_61 1 rfl rfl ?_
  refine xOK_fg [0] ?_
  exact t_Processor_twoOperands_109 t q  _ h
set_option maxRecDepth 100000 in
set_option maxHeartbeats 4000000 in
theorem t_Processor_twoOperands_72 (t : xS) (q : xS) (x2 x3 y0 : Int32) (s : xS) (h : f_Processor_twoOperands_72 x2 x3 y0 s = some q) : xOK 61 none (xEnd 61 none (mk q t)) (48, [some (.ref 17), none, some (.int x2), some (.int x3), none, none], [.int y0]) (mk s t) 0 0 := by
  unfold f_Processor_twoOperands_72 at h
  refine xOK_steps (fr' := (53, [some (.ref 17), none, some (.int x2), some (.int x3), some (.int y0), none], [.int x3, .int y0, .int x2, .ref 17])) (w' := (mk s t)) (ob := true) e_61 hk_61 5 rfl rfl ?_
  obtain ⟨q3, e4, h⟩ := Option.bind_eq_some_iff.mp h
  refine xu_callv (q := 17) (r := (some q3.1)) (av := [.int x2, .int y0, .int x3]) (st := []) (w1 := (mk q3.2 t)) e_61 hk_61 rfl (m_Processor_combined _ _ _ _ _ _ e4) rfl rfl rfl rfl rfl ?_
  refine xOK_steps (fr' := (57, [some (.ref 17), none, some (.int x2), some (.int x3), some (.int y0), some (.int q3.1)], [.int (9 : Int32), .int x2])) (w' := (mk q3.2 t)) (ob := true) e_61 hk_61 3 rfl rfl ?_
  refine xu_icmp_eq e_61 hk_61 rfl (fun c5 => ?_) (fun c5 => ?_)
  · have h := xif_pos c5 h
    refine xOK_fg [2, 3, 4, 5] ?_
    exact t_Processor_twoOperands_96 t q  _ h
  · have h := xif_neg c5 h
    refine xOK_steps (fr' := (60, [some (.ref 17), none, some (.int x2), some (.int x3), some (.int y0), some (.int q3.1)], [.int (11 : Int32), .int x2])) (w' := (mk q3.2 t)) (ob := true) e_61 hk_61 2 rfl rfl ?_
    refine xu_icmp_ne e_61 hk_61 rfl (fun c6 => ?_) (fun c6 => ?_)
    · have h := xif_neg c6 h
      refine xOK_steps (fr' := (66, [some (.ref 17), none, some (.int x2), some (.int x3), some (.int y0), some (.int q3.1)], [.int q3.1, .ref 17])) (w' := (mk q3.2 t)) (ob := true) e_61 hk_61 2 rfl rfl ?_
      obtain ⟨q7, e8, h⟩ := Option.bind_eq_some_iff.mp h
      refine xu_callv (q := 17) (r := none) (av := [.int q3.1]) (st := []) (w1 := (mk q7 t)) e_61 hk_61 rfl (m_Processor_deliver _ _ _ _ e8) rfl rfl rfl rfl rfl ?_
      refine xOK_fg [0, 2, 3, 4, 5] ?_
      exact t_Processor_twoOperands_109 t q  _ h
    · have h := xif_pos c6 h
      refine xOK_fg [2, 3, 4, 5] ?_
      exact t_Processor_twoOperands_96 t q  _ h
set_option maxRecDepth 100000 in
set_option maxHeartbeats 4000000 in
theorem t_Processor_twoOperands_21 (t : xS) (q : xS) (x1 x2 y1 : Int32) (s : xS) (h : f_Processor_twoOperands_21 x1 x2 y1 s = some q) : xOK 61 none (xEnd 61 none (mk q t)) (15, [some (.ref 17), some (.int x1), some (.int x2), none, none, none], [.int y1, .ref 17]) (mk s t) 0 0 := by
  unfold f_Processor_twoOperands_21 at h
  by_cases o9 : xbl y1 = true
  case neg => have h := xif_neg o9 h; cases h
  have h := xif_pos o9 h
  refine xOK_steps (fr' := (27, [some (.ref 17), some (.int x1), some (.int x2), none, none, none], [.int ((x1 >>> ((4 : Int32) &&& 31)) &&& (3 : Int32)), .int ((x1 >>> ((8 : Int32) &&& 31)) &&& (15 : Int32)), .ref 17])) (w' := (mk (xsc s 13 y1) t)) (ob := xbl y1 && (true)) e_61 hk_61 12 rfl (xand o9 rfl) ?_
  obtain ⟨q10, e11, h⟩ := Option.bind_eq_some_iff.mp h
  refine xu_callv (q := 17) (r := none) (av := [.int ((x1 >>> ((8 : Int32) &&& 31)) &&& (15 : Int32)), .int ((x1 >>> ((4 : Int32) &&& 31)) &&& (3 : Int32))]) (st := []) (w1 := (mk q10 t)) e_61 hk_61 rfl (m_Processor_findSource _ _ _ _ _ e11) rfl rfl rfl rfl rfl ?_
  refine xOK_steps (fr' := (29, [some (.ref 17), some (.int x1), some (.int x2), none, none, none], [.ref 17])) (w' := (mk q10 t)) (ob := true) e_61 hk_61 1 rfl rfl ?_
  obtain ⟨q12, e13, h⟩ := Option.bind_eq_some_iff.mp h
  refine xu_callv (q := 17) (r := (some q12.1)) (av := []) (st := []) (w1 := (mk q12.2 t)) e_61 hk_61 rfl (m_Processor_operand  _ _ _ e13) rfl rfl rfl rfl rfl ?_
  refine xOK_steps (fr' := (40, [some (.ref 17), some (.int x1), some (.int x2), some (.int q12.1), none, none], [.int ((x1 >>> ((7 : Int32) &&& 31)) &&& (1 : Int32)), .int (x1 &&& (15 : Int32)), .ref 17])) (w' := (mk q12.2 t)) (ob := true) e_61 hk_61 10 rfl rfl ?_
  obtain ⟨q14, e15, h⟩ := Option.bind_eq_some_iff.mp h
  refine xu_callv (q := 17) (r := none) (av := [.int (x1 &&& (15 : Int32)), .int ((x1 >>> ((7 : Int32) &&& 31)) &&& (1 : Int32))]) (st := []) (w1 := (mk q14 t)) e_61 hk_61 rfl (m_Processor_findDestination _ _ _ _ _ e15) rfl rfl rfl rfl rfl ?_
  refine xOK_steps (fr' := (43, [some (.ref 17), some (.int x1), some (.int x2), some (.int q12.1), none, none], [.int (4 : Int32), .int x2])) (w' := (mk q14 t)) (ob := true) e_61 hk_61 2 rfl rfl ?_
  refine xu_icmp_ne e_61 hk_61 rfl (fun c16 => ?_) (fun c16 => ?_)
  · have h := xif_neg c16 h
    refine xOK_steps (fr' := (47, [some (.ref 17), some (.int x1), some (.int x2), some (.int q12.1), none, none], [.ref 17])) (w' := (mk q14 t)) (ob := true) e_61 hk_61 1 rfl rfl ?_
    obtain ⟨q17, e18, h⟩ := Option.bind_eq_some_iff.mp h
    refine xu_callv (q := 17) (r := (some q17.1)) (av := []) (st := []) (w1 := (mk q17.2 t)) e_61 hk_61 rfl (m_Processor_operand  _ _ _ e18) rfl rfl rfl rfl rfl ?_
    refine xOK_fg [1] ?_
    exact t_Processor_twoOperands_72 t q _ _ _ _ h
  · have h := xif_pos c16 h
    refine xOK_steps (fr' := (48, [some (.ref 17), some (.int x1), some (.int x2), some (.int q12.1), none, none], [.int (0 : Int32)])) (w' := (mk q14 t)) (ob := true) e_61 hk_61 2 rfl rfl ?_
    refine xOK_fg [1] ?_
    exact t_Processor_twoOperands_72 t q _ _ _ _ h
set_option maxRecDepth 100000 in
set_option maxHeartbeats 4000000 in
theorem m_Processor_twoOperands (x1 : Int32) (s t : xS) (q : xS) (h : f_Processor_twoOperands x1 s = some q) : xMet 61 [.ref 17, .int x1] (mk s t) none (mk q t) := by
  refine xMet_of hk_61 rfl rfl rfl ?_
  refine xOK_eq (fr := (0, [some (.ref 17), some (.int x1), none, none, none, none], [])) rfl ?_
  unfold f_Processor_twoOperands at h
  refine xOK_steps (fr' := (11, [some (.ref 17), some (.int x1), some (.int (x1 >>> ((12 : Int32) &&& 31))), none, none, none], [.int (1 : Int32), .int ((x1 >>> ((6 : Int32) &&& 31)) &&& (1 : Int32)), .ref 17])) (w' := (mk s t)) (ob := true) e_61 hk_61 11 rfl rfl ?_
  refine xu_icmp_ne e_61 hk_61 rfl (fun c19 => ?_) (fun c19 => ?_)
  · have h := xif_neg c19 h
    refine xOK_steps (fr' := (15, [some (.ref 17), some (.int x1), some (.int (x1 >>> ((12 : Int32) &&& 31))), none, none, none], [.int (0 : Int32), .ref 17])) (w' := (mk s t)) (ob := true) e_61 hk_61 1 rfl rfl ?_
    exact t_Processor_twoOperands_21 t q _ _ _ _ h
  · have h := xif_pos c19 h
    refine xOK_steps (fr' := (15, [some (.ref 17), some (.int x1), some (.int (x1 >>> ((12 : Int32) &&& 31))), none, none, none], [.int (1 : Int32), .ref 17])) (w' := (mk s t)) (ob := true) e_61 hk_61 2 rfl rfl ?_
    exact t_Processor_twoOperands_21 t q _ _ _ _ h
set_option maxRecDepth 100000 in
set_option maxHeartbeats 4000000 in
theorem t_Processor_execute_55 (t : xS) (q : xS) (s : xS) (h : f_Processor_execute_55  s = some q) : xOK 60 none (xEnd 60 none (mk q t)) (32, [none, none], []) (mk s t) 0 0 := by
  unfold f_Processor_execute_55 at h
  cases h
  exact xu_vret e_60 hk_60 rfl rfl
set_option maxRecDepth 100000 in
set_option maxHeartbeats 4000000 in
theorem m_Processor_execute (s t : xS) (q : xS) (h : f_Processor_execute  s = some q) : xMet 60 [.ref 17] (mk s t) none (mk q t) := by
  refine xMet_of hk_60 rfl rfl rfl ?_
  refine xOK_eq (fr := (0, [some (.ref 17), none], [])) rfl ?_
  unfold f_Processor_execute at h
  refine xOK_steps (fr' := (1, [some (.ref 17), none], [.ref 17])) (w' := (mk s t)) (ob := true) e_60 hk_60 1 rfl rfl ?_
  obtain ⟨q1, e2, h⟩ := Option.bind_eq_some_iff.mp h
  refine xu_callv (q := 17) (r := (some q1.1)) (av := []) (st := []) (w1 := (mk q1.2 t)) e_60 hk_60 rfl (m_Processor_nextWord  _ _ _ e2) rfl rfl rfl rfl rfl ?_
  refine xOK_steps (fr' := (10, [some (.ref 17), some (.int q1.1)], [.int (4 : Int32), .int (q1.1 >>> ((12 : Int32) &&& 31))])) (w' := (mk (xsc q1.2 17 (0 : Int32)) t)) (ob := true) e_60 hk_60 8 rfl rfl ?_
  refine xu_icmp_lt e_60 hk_60 rfl (fun c3 => ?_) (fun c3 => ?_)
  · have h := xif_pos c3 h
    refine xOK_steps (fr' := (19, [some (.ref 17), some (.int q1.1)], [.int (2 : Int32), .int (q1.1 >>> ((12 : Int32) &&& 31))])) (w' := (mk (xsc q1.2 17 (0 : Int32)) t)) (ob := true) e_60 hk_60 4 rfl rfl ?_
    refine xu_icmp_lt e_60 hk_60 rfl (fun c4 => ?_) (fun c4 => ?_)
    · have h := xif_pos c4 h
      refine xOK_steps (fr' := (28, [some (.ref 17), some (.int q1.1)], [.int (4 : Int32), .int (q1.1 >>> ((10 : Int32) &&& 31))])) (w' := (mk (xsc q1.2 17 (0 : Int32)) t)) (ob := true) e_60 hk_60 4 rfl rfl ?_
      refine xu_icmp_ne e_60 hk_60 rfl (fun c5 => ?_) (fun c5 => ?_)
      · have h := xif_neg c5 h
        refine xOK_fg [0, 1] ?_
        exact t_Processor_execute_55 t q  _ h
      · have h := xif_pos c5 h
        refine xOK_steps (fr' := (31, [some (.ref 17), some (.int q1.1)], [.int q1.1, .ref 17])) (w' := (mk (xsc q1.2 17 (0 : Int32)) t)) (ob := true) e_60 hk_60 2 rfl rfl ?_
        obtain ⟨q6, e7, h⟩ := Option.bind_eq_some_iff.mp h
        refine xu_callv (q := 17) (r := none) (av := [.int q1.1]) (st := []) (w1 := (mk q6 t)) e_60 hk_60 rfl (m_Processor_oneOperand _ _ _ _ e7) rfl rfl rfl rfl rfl ?_
        refine xOK_fg [0, 1] ?_
        exact t_Processor_execute_55 t q  _ h
    · have h := xif_neg c4 h
      refine xOK_steps (fr' := (22, [some (.ref 17), some (.int q1.1)], [.int q1.1, .ref 17])) (w' := (mk (xsc q1.2 17 (0 : Int32)) t)) (ob := true) e_60 hk_60 2 rfl rfl ?_
      obtain ⟨q8, e9, h⟩ := Option.bind_eq_some_iff.mp h
      refine xu_callv (q := 17) (r := none) (av := [.int q1.1]) (st := []) (w1 := (mk q8 t)) e_60 hk_60 rfl (m_Processor_jump _ _ _ _ e9) rfl rfl rfl rfl rfl ?_
      refine xOK_steps (fr' := (32, [some (.ref 17), some (.int q1.1)], [])) (w' := (mk q8 t)) (ob := true) e_60 hk_60 1 rfl rfl ?_
      refine xOK_fg [0, 1] ?_
      exact t_Processor_execute_55 t q  _ h
  · have h := xif_neg c3 h
    refine xOK_steps (fr' := (13, [some (.ref 17), some (.int q1.1)], [.int q1.1, .ref 17])) (w' := (mk (xsc q1.2 17 (0 : Int32)) t)) (ob := true) e_60 hk_60 2 rfl rfl ?_
    obtain ⟨q10, e11, h⟩ := Option.bind_eq_some_iff.mp h
    refine xu_callv (q := 17) (r := none) (av := [.int q1.1]) (st := []) (w1 := (mk q10 t)) e_60 hk_60 rfl (m_Processor_twoOperands _ _ _ _ e11) rfl rfl rfl rfl rfl ?_
    refine xOK_steps (fr' := (32, [some (.ref 17), some (.int q1.1)], [])) (w' := (mk q10 t)) (ob := true) e_60 hk_60 1 rfl rfl ?_
    refine xOK_fg [0, 1] ?_
    exact t_Processor_execute_55 t q  _ h
set_option maxRecDepth 100000 in
set_option maxHeartbeats 4000000 in
theorem t_C_run_68 (t : xS) (q : (Int32 × xS)) (x2 : Int32) (s : xS) (h : f_C_run_68 x2 s = some q) : xOK 6 none (xEnd 6 (some q.1) (mk q.2 t)) (34, [none, none, some (.int x2), none], []) (mk s t) 0 0 := by
  unfold f_C_run_68 at h
  refine xOK_steps (fr' := (35, [none, none, some (.int x2), none], [.int x2])) (w' := (mk s t)) (ob := true) e_6 hk_6 1 rfl rfl ?_
  cases h
  exact xu_iret e_6 hk_6 rfl rfl rfl
set_option maxRecDepth 100000 in
set_option maxHeartbeats 4000000 in
theorem t_C_run_62 (t : xS) (q : (Int32 × xS)) (lp : Int32 → Int32 → Int32 → xS → Option (Int32 × xS)) (hlp : ∀ (x1 x2 x3 : Int32) (s : xS), lp x1 x2 x3 s = some q → xOK 6 none (xEnd 6 (some q.1) (mk q.2 t)) (15, [some (.ref 0), some (.int x1), some (.int x2), some (.int x3)], []) (mk s t) 0 0) (x1 x2 x3 : Int32) (s : xS) (h : f_C_run_62 lp x1 x2 x3 s = some q) : xOK 6 none (xEnd 6 (some q.1) (mk q.2 t)) (32, [some (.ref 0), some (.int x1), some (.int x2), some (.int x3)], []) (mk s t) 0 0 := by
  unfold f_C_run_62 at h
  refine xOK_steps (fr' := (15, [some (.ref 0), some (.int x1), some (.int x2), some (.int (x3 + (1 : Int32)))], [])) (w' := (mk s t)) (ob := true) e_6 hk_6 2 rfl rfl ?_
  exact hlp _ _ _ _ h
set_option maxRecDepth 100000 in
set_option maxHeartbeats 4000000 in
theorem t_C_run_52 (t : xS) (q : (Int32 × xS)) (lp : Int32 → Int32 → Int32 → xS → Option (Int32 × xS)) (hlp : ∀ (x1 x2 x3 : Int32) (s : xS), lp x1 x2 x3 s = some q → xOK 6 none (xEnd 6 (some q.1) (mk q.2 t)) (15, [some (.ref 0), some (.int x1), some (.int x2), some (.int x3)], []) (mk s t) 0 0) (x1 x2 x3 : Int32) (s : xS) (h : f_C_run_52 lp x1 x2 x3 s = some q) : xOK 6 none (xEnd 6 (some q.1) (mk q.2 t)) (28, [some (.ref 0), some (.int x1), some (.int x2), some (.int x3)], []) (mk s t) 0 0 := by
  unfold f_C_run_52 at h
  refine xOK_steps (fr' := (29, [some (.ref 0), some (.int x1), some (.int x2), some (.int x3)], [.ref 0])) (w' := (mk s t)) (ob := true) e_6 hk_6 1 rfl rfl ?_
  obtain ⟨q1, e2, h⟩ := Option.bind_eq_some_iff.mp h
  refine xu_callv (q := 0) (r := (some q1.1)) (av := []) (st := []) (w1 := (mk q1.2 t)) e_6 hk_6 rfl (m_C_endStep  _ _ _ e2) rfl rfl rfl rfl rfl ?_
  refine xu_if_eq e_6 hk_6 rfl (fun c3 => ?_) (fun c3 => ?_)
  · have h := xif_pos c3 h
    exact t_C_run_62 t q _ hlp _ _ _ _ h
  · have h := xif_neg c3 h
    refine xOK_steps (fr' := (32, [some (.ref 0), some (.int x1), some (.int (x2 + (1 : Int32))), some (.int x3)], [])) (w' := (mk q1.2 t)) (ob := true) e_6 hk_6 1 rfl rfl ?_
    exact t_C_run_62 t q _ hlp _ _ _ _ h
set_option maxRecDepth 100000 in
set_option maxHeartbeats 4000000 in
theorem t_C_run_25 (t : xS) (q : (Int32 × xS)) : ∀ (n : Nat), ∀ (x1 x2 x3 : Int32) (s : xS), f_C_run_25 n x1 x2 x3 s = some q → xOK 6 none (xEnd 6 (some q.1) (mk q.2 t)) (15, [some (.ref 0), some (.int x1), some (.int x2), some (.int x3)], []) (mk s t) 0 0 := by
  intro n
  induction n with
  | zero => intro x1 x2 x3 s h; cases h
  | succ n ih =>
    intro x1 x2 x3 s h
    unfold f_C_run_25 at h
    refine xOK_steps (fr' := (17, [some (.ref 0), some (.int x1), some (.int x2), some (.int x3)], [.int x1, .int x3])) (w' := (mk s t)) (ob := true) e_6 hk_6 2 rfl rfl ?_
    refine xu_icmp_ge e_6 hk_6 rfl (fun c4 => ?_) (fun c4 => ?_)
    · have h := xif_pos c4 h
      refine xOK_fg [0, 1, 3] ?_
      exact t_C_run_68 t q _ _ h
    · have h := xif_neg c4 h
      refine xOK_steps (fr' := (21, [some (.ref 0), some (.int x1), some (.int x2), some (.int x3)], [.int (1 : Int32), .int (s.1 0)])) (w' := (mk s t)) (ob := true) e_6 hk_6 3 rfl rfl ?_
      refine xu_icmp_ne e_6 hk_6 rfl (fun c5 => ?_) (fun c5 => ?_)
      · have h := xif_neg c5 h
        refine xOK_fg [0, 1, 3] ?_
        exact t_C_run_68 t q _ _ h
      · have h := xif_pos c5 h
        refine xOK_steps (fr' := (23, [some (.ref 0), some (.int x1), some (.int x2), some (.int x3)], [.ref 0])) (w' := (mk s t)) (ob := true) e_6 hk_6 1 rfl rfl ?_
        obtain ⟨q6, e7, h⟩ := Option.bind_eq_some_iff.mp h
        refine xu_callv (q := 0) (r := (some q6.1)) (av := []) (st := []) (w1 := (mk q6.2 t)) e_6 hk_6 rfl (m_C_beginStep  _ _ _ e7) rfl rfl rfl rfl rfl ?_
        refine xu_if_eq e_6 hk_6 rfl (fun c8 => ?_) (fun c8 => ?_)
        · have h := xif_pos c8 h
          exact t_C_run_52 t q _ ih _ _ _ _ h
        · have h := xif_neg c8 h
          refine xOK_steps (fr' := (27, [some (.ref 0), some (.int x1), some (.int x2), some (.int x3)], [.ref 17])) (w' := (mk q6.2 t)) (ob := true) e_6 hk_6 2 rfl rfl ?_
          obtain ⟨q9, e10, h⟩ := Option.bind_eq_some_iff.mp h
          refine xu_callv (q := 17) (r := none) (av := []) (st := []) (w1 := (mk q9 t)) e_6 hk_6 rfl (m_Processor_execute  _ _ _ e10) rfl rfl rfl rfl rfl ?_
          exact t_C_run_52 t q _ ih _ _ _ _ h
set_option maxRecDepth 100000 in
set_option maxHeartbeats 4000000 in
theorem t_C_run_19 (t : xS) (q : (Int32 × xS)) (s : xS) (h : f_C_run_19  s = some q) : xOK 6 none (xEnd 6 (some q.1) (mk q.2 t)) (9, [none, none, none, none], []) (mk s t) 0 0 := by
  unfold f_C_run_19 at h
  refine xOK_steps (fr' := (10, [none, none, none, none], [.int (-1 : Int32)])) (w' := (mk s t)) (ob := true) e_6 hk_6 1 rfl rfl ?_
  cases h
  exact xu_iret e_6 hk_6 rfl rfl rfl
set_option maxRecDepth 100000 in
set_option maxHeartbeats 4000000 in
theorem m_C_run (x1 : Int32) (s t : xS) (q : (Int32 × xS)) (h : f_C_run x1 s = some q) : xMet 6 [.ref 0, .int x1] (mk s t) (some q.1) (mk q.2 t) := by
  refine xMet_of hk_6 rfl rfl rfl ?_
  refine xOK_eq (fr := (0, [some (.ref 0), some (.int x1), none, none], [])) rfl ?_
  unfold f_C_run at h
  refine xOK_steps (fr' := (3, [some (.ref 0), some (.int x1), none, none], [.int (1 : Int32), .int (s.1 0)])) (w' := (mk s t)) (ob := true) e_6 hk_6 3 rfl rfl ?_
  refine xu_icmp_ne e_6 hk_6 rfl (fun c11 => ?_) (fun c11 => ?_)
  · have h := xif_neg c11 h
    refine xOK_fg [0, 1] ?_
    exact t_C_run_19 t q  _ h
  · have h := xif_pos c11 h
    refine xOK_steps (fr' := (5, [some (.ref 0), some (.int x1), none, none], [.int x1])) (w' := (mk s t)) (ob := true) e_6 hk_6 1 rfl rfl ?_
    refine xu_if_lt e_6 hk_6 rfl (fun c12 => ?_) (fun c12 => ?_)
    · have h := xif_pos c12 h
      refine xOK_fg [0, 1] ?_
      exact t_C_run_19 t q  _ h
    · have h := xif_neg c12 h
      refine xOK_steps (fr' := (8, [some (.ref 0), some (.int x1), none, none], [.int (200 : Int32), .int x1])) (w' := (mk s t)) (ob := true) e_6 hk_6 2 rfl rfl ?_
      refine xu_icmp_le e_6 hk_6 rfl (fun c13 => ?_) (fun c13 => ?_)
      · have h := xif_pos c13 h
        refine xOK_steps (fr' := (15, [some (.ref 0), some (.int x1), some (.int (0 : Int32)), some (.int (0 : Int32))], [])) (w' := (mk s t)) (ob := true) e_6 hk_6 4 rfl rfl ?_
        exact t_C_run_25 t q _ _ _ _ _ h
      · have h := xif_neg c13 h
        refine xOK_fg [0, 1] ?_
        exact t_C_run_19 t q  _ h
set_option maxRecDepth 100000 in
set_option maxHeartbeats 4000000 in
theorem t_Keeper_recover_19 (t : xS) (q : (Int32 × xS)) (s : xS) (h : f_Keeper_recover_19  s = some q) : xOK 91 none (xEnd 91 (some q.1) (mk q.2 t)) (9, [some (.ref 19)], []) (mk s t) 0 0 := by
  unfold f_Keeper_recover_19 at h
  refine xOK_steps (fr' := (17, [some (.ref 19)], [.int (16 : Int32), .int (0 : Int32), .ref 18, .int (0 : Int32), .ref 21])) (w' := (mk s t)) (ob := true) e_91 hk_91 8 rfl rfl ?_
  refine xu_copy (n := 16) (q0 := 21) (q1 := 18) (w1 := (mk (xsf s 10 (va_cpy (s.2 11) (s.2 10) 0 0 16)) t)) e_91 hk_91 rfl rfl rfl rfl rfl rfl ?_
  refine xOK_steps (fr' := (26, [some (.ref 19)], [.int (16 : Int32), .int (0 : Int32), .ref 16, .int (0 : Int32), .ref 22])) (w' := (mk (xsf s 10 (va_cpy (s.2 11) (s.2 10) 0 0 16)) t)) (ob := true) e_91 hk_91 8 rfl rfl ?_
  refine xu_copy (n := 16) (q0 := 22) (q1 := 16) (w1 := (mk (xsf (xsf s 10 (va_cpy (s.2 11) (s.2 10) 0 0 16)) 9 (va_cpy (s.2 12) (s.2 9) 0 0 16)) t)) e_91 hk_91 rfl rfl rfl rfl rfl rfl ?_
  refine xOK_steps (fr' := (29, [some (.ref 19)], [.ref 9])) (w' := (mk (xsf (xsf s 10 (va_cpy (s.2 11) (s.2 10) 0 0 16)) 9 (va_cpy (s.2 12) (s.2 9) 0 0 16)) t)) (ob := true) e_91 hk_91 2 rfl rfl ?_
  obtain ⟨q1, e2, h⟩ := Option.bind_eq_some_iff.mp h
  refine xu_callv (q := 9) (r := none) (av := []) (st := []) (w1 := (mk q1 t)) e_91 hk_91 rfl (m_Section_begin  _ _ _ e2) rfl rfl rfl rfl rfl ?_
  refine xOK_steps (fr' := (31, [some (.ref 19)], [.int (1 : Int32)])) (w' := (mk q1 t)) (ob := true) e_91 hk_91 1 rfl rfl ?_
  cases h
  exact xu_iret e_91 hk_91 rfl rfl rfl
set_option maxRecDepth 100000 in
set_option maxHeartbeats 4000000 in
theorem m_Keeper_recover (s t : xS) (q : (Int32 × xS)) (h : f_Keeper_recover  s = some q) : xMet 91 [.ref 19] (mk s t) (some q.1) (mk q.2 t) := by
  refine xMet_of hk_91 rfl rfl rfl ?_
  refine xOK_eq (fr := (0, [some (.ref 19)], [])) rfl ?_
  unfold f_Keeper_recover at h
  refine xOK_steps (fr' := (3, [some (.ref 19)], [.int (s.1 22)])) (w' := (mk s t)) (ob := true) e_91 hk_91 3 rfl rfl ?_
  refine xu_if_ne e_91 hk_91 rfl (fun c3 => ?_) (fun c3 => ?_)
  · have h := xif_neg c3 h
    exact t_Keeper_recover_19 t q  _ h
  · have h := xif_pos c3 h
    refine xOK_steps (fr' := (5, [some (.ref 19)], [.ref 19])) (w' := (mk s t)) (ob := true) e_91 hk_91 1 rfl rfl ?_
    obtain ⟨q4, e5, h⟩ := Option.bind_eq_some_iff.mp h
    refine xu_callv (q := 19) (r := (some q4.1)) (av := []) (st := []) (w1 := (mk q4.2 t)) e_91 hk_91 rfl (m_Keeper_finish  _ _ _ e5) rfl rfl rfl rfl rfl ?_
    refine xu_if_ne e_91 hk_91 rfl (fun c6 => ?_) (fun c6 => ?_)
    · have h := xif_neg c6 h
      exact t_Keeper_recover_19 t q  _ h
    · have h := xif_pos c6 h
      refine xOK_steps (fr' := (8, [some (.ref 19)], [.int (0 : Int32)])) (w' := (mk q4.2 t)) (ob := true) e_91 hk_91 1 rfl rfl ?_
      cases h
      exact xu_iret e_91 hk_91 rfl rfl rfl
set_option maxRecDepth 100000 in
set_option maxHeartbeats 4000000 in
theorem t_C_boot_49 (t : xS) (q : (Int32 × xS)) (y1 : Int32) (s : xS) (h : f_C_boot_49 y1 s = some q) : xOK 7 none (xEnd 7 (some q.1) (mk q.2 t)) (25, [none], [.int y1, .ref 0]) (mk s t) 0 0 := by
  unfold f_C_boot_49 at h
  refine xOK_steps (fr' := (27, [none], [.int (1 : Int32)])) (w' := (mk (xsc s 0 y1) t)) (ob := true) e_7 hk_7 2 rfl rfl ?_
  cases h
  exact xu_iret e_7 hk_7 rfl rfl rfl
set_option maxRecDepth 100000 in
set_option maxHeartbeats 4000000 in
theorem m_C_boot (s t : xS) (q : (Int32 × xS)) (h : f_C_boot  s = some q) : xMet 7 [.ref 0] (mk s t) (some q.1) (mk q.2 t) := by
  refine xMet_of hk_7 rfl rfl rfl ?_
  refine xOK_eq (fr := (0, [some (.ref 0)], [])) rfl ?_
  unfold f_C_boot at h
  refine xOK_steps (fr' := (3, [some (.ref 0)], [.int (2 : Int32), .int (s.1 0)])) (w' := (mk s t)) (ob := true) e_7 hk_7 3 rfl rfl ?_
  refine xu_icmp_eq e_7 hk_7 rfl (fun c1 => ?_) (fun c1 => ?_)
  · have h := xif_pos c1 h
    refine xOK_steps (fr' := (12, [some (.ref 0)], [.ref 19])) (w' := (mk (xsc s 1 (1 : Int32)) t)) (ob := true) e_7 hk_7 6 rfl rfl ?_
    obtain ⟨q2, e3, h⟩ := Option.bind_eq_some_iff.mp h
    refine xu_callv (q := 19) (r := (some q2.1)) (av := []) (st := []) (w1 := (mk q2.2 t)) e_7 hk_7 rfl (m_Keeper_recover  _ _ _ e3) rfl rfl rfl rfl rfl ?_
    refine xu_if_ne e_7 hk_7 rfl (fun c4 => ?_) (fun c4 => ?_)
    · have h := xif_neg c4 h
      refine xOK_steps (fr' := (21, [some (.ref 0)], [.int (q2.2.1 21), .ref 0])) (w' := (mk q2.2 t)) (ob := true) e_7 hk_7 5 rfl rfl ?_
      refine xu_if_eq e_7 hk_7 rfl (fun c5 => ?_) (fun c5 => ?_)
      · have h := xif_pos c5 h
        refine xOK_steps (fr' := (25, [some (.ref 0)], [.int (1 : Int32), .ref 0])) (w' := (mk q2.2 t)) (ob := true) e_7 hk_7 1 rfl rfl ?_
        refine xOK_fg [0] ?_
        exact t_C_boot_49 t q _ _ h
      · have h := xif_neg c5 h
        refine xOK_steps (fr' := (25, [some (.ref 0)], [.int (3 : Int32), .ref 0])) (w' := (mk q2.2 t)) (ob := true) e_7 hk_7 2 rfl rfl ?_
        refine xOK_fg [0] ?_
        exact t_C_boot_49 t q _ _ h
    · have h := xif_pos c4 h
      refine xOK_steps (fr' := (15, [some (.ref 0)], [.int (0 : Int32)])) (w' := (mk q2.2 t)) (ob := true) e_7 hk_7 1 rfl rfl ?_
      cases h
      exact xu_iret e_7 hk_7 rfl rfl rfl
  · have h := xif_neg c1 h
    refine xOK_steps (fr' := (5, [some (.ref 0)], [.int (0 : Int32)])) (w' := (mk s t)) (ob := true) e_7 hk_7 1 rfl rfl ?_
    cases h
    exact xu_iret e_7 hk_7 rfl rfl rfl
set_option maxRecDepth 100000 in
set_option maxHeartbeats 4000000 in
theorem m_C_state (s t : xS) (q : (Int32 × xS)) (h : f_C_state  s = some q) : xMet 8 [.ref 0] (mk s t) (some q.1) (mk q.2 t) := by
  refine xMet_of hk_8 rfl rfl rfl ?_
  refine xOK_eq (fr := (0, [some (.ref 0)], [])) rfl ?_
  unfold f_C_state at h
  refine xOK_steps (fr' := (2, [some (.ref 0)], [.int (s.1 0)])) (w' := (mk s t)) (ob := true) e_8 hk_8 2 rfl rfl ?_
  cases h
  exact xu_iret e_8 hk_8 rfl rfl rfl
set_option maxRecDepth 100000 in
set_option maxHeartbeats 4000000 in
theorem t_C_register_23 (t : xS) (q : (Int32 × xS)) (y0 : Int32) (s : xS) (h : f_C_register_23 y0 s = some q) : xOK 9 none (xEnd 9 (some q.1) (mk q.2 t)) (12, [none, none], [.int y0]) (mk s t) 0 0 := by
  unfold f_C_register_23 at h
  cases h
  exact xu_iret e_9 hk_9 rfl rfl rfl
set_option maxRecDepth 100000 in
set_option maxHeartbeats 4000000 in
theorem t_C_register_10 (t : xS) (q : (Int32 × xS)) (s : xS) (h : f_C_register_10  s = some q) : xOK 9 none (xEnd 9 (some q.1) (mk q.2 t)) (5, [none, none], []) (mk s t) 0 0 := by
  unfold f_C_register_10 at h
  refine xOK_steps (fr' := (12, [none, none], [.int (0 : Int32)])) (w' := (mk s t)) (ob := true) e_9 hk_9 2 rfl rfl ?_
  exact t_C_register_23 t q _ _ h
set_option maxRecDepth 100000 in
set_option maxHeartbeats 4000000 in
theorem m_C_register (x1 : Int32) (s t : xS) (q : (Int32 × xS)) (h : f_C_register x1 s = some q) : xMet 9 [.ref 0, .int x1] (mk s t) (some q.1) (mk q.2 t) := by
  refine xMet_of hk_9 rfl rfl rfl ?_
  refine xOK_eq (fr := (0, [some (.ref 0), some (.int x1)], [])) rfl ?_
  unfold f_C_register at h
  refine xOK_steps (fr' := (1, [some (.ref 0), some (.int x1)], [.int x1])) (w' := (mk s t)) (ob := true) e_9 hk_9 1 rfl rfl ?_
  refine xu_if_lt e_9 hk_9 rfl (fun c1 => ?_) (fun c1 => ?_)
  · have h := xif_pos c1 h
    refine xOK_fg [0, 1] ?_
    exact t_C_register_10 t q  _ h
  · have h := xif_neg c1 h
    refine xOK_steps (fr' := (4, [some (.ref 0), some (.int x1)], [.int (16 : Int32), .int x1])) (w' := (mk s t)) (ob := true) e_9 hk_9 2 rfl rfl ?_
    refine xu_icmp_lt e_9 hk_9 rfl (fun c2 => ?_) (fun c2 => ?_)
    · have h := xif_pos c2 h
      by_cases o3 : xin x1 16 = true
      case neg => have h := xif_neg o3 h; cases h
      have h := xif_pos o3 h
      refine xOK_steps (fr' := (12, [some (.ref 0), some (.int x1)], [.int ((s.2 10) (x1).toNatClampNeg)])) (w' := (mk s t)) (ob := xin x1 16 && (true)) e_9 hk_9 5 rfl (xand o3 rfl) ?_
      refine xOK_fg [0, 1] ?_
      exact t_C_register_23 t q _ _ h
    · have h := xif_neg c2 h
      refine xOK_fg [0, 1] ?_
      exact t_C_register_10 t q  _ h
set_option maxRecDepth 100000 in
set_option maxHeartbeats 4000000 in
theorem m_C_memory (x1 : Int32) (s t : xS) (q : (Int32 × xS)) (h : f_C_memory x1 s = some q) : xMet 10 [.ref 0, .int x1] (mk s t) (some q.1) (mk q.2 t) := by
  refine xMet_of hk_10 rfl rfl rfl ?_
  refine xOK_eq (fr := (0, [some (.ref 0), some (.int x1)], [])) rfl ?_
  unfold f_C_memory at h
  refine xOK_steps (fr' := (3, [some (.ref 0), some (.int x1)], [.int x1, .ref 15])) (w' := (mk s t)) (ob := true) e_10 hk_10 3 rfl rfl ?_
  obtain ⟨q1, e2, h⟩ := Option.bind_eq_some_iff.mp h
  refine xu_callv (q := 15) (r := (some q1.1)) (av := [.int x1]) (st := []) (w1 := (mk q1.2 t)) e_10 hk_10 rfl (m_Bus_peek _ _ _ _ e2) rfl rfl rfl rfl rfl ?_
  cases h
  exact xu_iret e_10 hk_10 rfl rfl rfl
set_option maxRecDepth 100000 in
set_option maxHeartbeats 4000000 in
theorem t_C_fram_20 (t : xS) (q : (Int32 × xS)) (y0 : Int32) (s : xS) (h : f_C_fram_20 y0 s = some q) : xOK 11 none (xEnd 11 (some q.1) (mk q.2 t)) (10, [none, none], [.int y0]) (mk s t) 0 0 := by
  unfold f_C_fram_20 at h
  cases h
  exact xu_iret e_11 hk_11 rfl rfl rfl
set_option maxRecDepth 100000 in
set_option maxHeartbeats 4000000 in
theorem m_C_fram (x1 : Int32) (s t : xS) (q : (Int32 × xS)) (h : f_C_fram x1 s = some q) : xMet 11 [.ref 0, .int x1] (mk s t) (some q.1) (mk q.2 t) := by
  refine xMet_of hk_11 rfl rfl rfl ?_
  refine xOK_eq (fr := (0, [some (.ref 0), some (.int x1)], [])) rfl ?_
  unfold f_C_fram at h
  refine xOK_steps (fr' := (1, [some (.ref 0), some (.int x1)], [.int x1])) (w' := (mk s t)) (ob := true) e_11 hk_11 1 rfl rfl ?_
  obtain ⟨q1, e2, h⟩ := Option.bind_eq_some_iff.mp h
  refine xu_calls (r := (some q1)) (av := [.int x1]) (st := []) (w1 := (mk s t)) e_11 hk_11 rfl rfl (m_C_isFramWord _ _ _ _ e2) rfl rfl rfl rfl ?_
  refine xu_if_eq e_11 hk_11 rfl (fun c3 => ?_) (fun c3 => ?_)
  · have h := xif_pos c3 h
    refine xOK_steps (fr' := (10, [some (.ref 0), some (.int x1)], [.int (0 : Int32)])) (w' := (mk s t)) (ob := true) e_11 hk_11 1 rfl rfl ?_
    refine xOK_fg [0, 1] ?_
    exact t_C_fram_20 t q _ _ h
  · have h := xif_neg c3 h
    by_cases o4 : xin x1 128 = true
    case neg => have h := xif_neg o4 h; cases h
    have h := xif_pos o4 h
    refine xOK_steps (fr' := (10, [some (.ref 0), some (.int x1)], [.int ((s.2 1) (x1).toNatClampNeg)])) (w' := (mk s t)) (ob := xin x1 128 && (true)) e_11 hk_11 6 rfl (xand o4 rfl) ?_
    refine xOK_fg [0, 1] ?_
    exact t_C_fram_20 t q _ _ h
set_option maxRecDepth 100000 in
set_option maxHeartbeats 4000000 in
theorem t_C_radio_41 (t : xS) (q : (Int32 × xS)) (y0 : Int32) (s : xS) (h : f_C_radio_41 y0 s = some q) : xOK 12 none (xEnd 12 (some q.1) (mk q.2 t)) (21, [none, none], [.int y0]) (mk s t) 0 0 := by
  unfold f_C_radio_41 at h
  cases h
  exact xu_iret e_12 hk_12 rfl rfl rfl
set_option maxRecDepth 100000 in
set_option maxHeartbeats 4000000 in
theorem t_C_radio_28 (t : xS) (q : (Int32 × xS)) (s : xS) (h : f_C_radio_28  s = some q) : xOK 12 none (xEnd 12 (some q.1) (mk q.2 t)) (14, [none, none], []) (mk s t) 0 0 := by
  unfold f_C_radio_28 at h
  refine xOK_steps (fr' := (21, [none, none], [.int (0 : Int32)])) (w' := (mk s t)) (ob := true) e_12 hk_12 2 rfl rfl ?_
  exact t_C_radio_41 t q _ _ h
set_option maxRecDepth 100000 in
set_option maxHeartbeats 4000000 in
theorem m_C_radio (x1 : Int32) (s t : xS) (q : (Int32 × xS)) (h : f_C_radio x1 s = some q) : xMet 12 [.ref 0, .int x1] (mk s t) (some q.1) (mk q.2 t) := by
  refine xMet_of hk_12 rfl rfl rfl ?_
  refine xOK_eq (fr := (0, [some (.ref 0), some (.int x1)], [])) rfl ?_
  unfold f_C_radio at h
  refine xOK_steps (fr' := (2, [some (.ref 0), some (.int x1)], [.int (-1 : Int32), .int x1])) (w' := (mk s t)) (ob := true) e_12 hk_12 2 rfl rfl ?_
  refine xu_icmp_ne e_12 hk_12 rfl (fun c1 => ?_) (fun c1 => ?_)
  · have h := xif_neg c1 h
    refine xOK_steps (fr' := (8, [some (.ref 0), some (.int x1)], [.int x1])) (w' := (mk s t)) (ob := true) e_12 hk_12 1 rfl rfl ?_
    refine xu_if_lt e_12 hk_12 rfl (fun c2 => ?_) (fun c2 => ?_)
    · have h := xif_pos c2 h
      refine xOK_fg [0, 1] ?_
      exact t_C_radio_28 t q  _ h
    · have h := xif_neg c2 h
      refine xOK_steps (fr' := (13, [some (.ref 0), some (.int x1)], [.int (s.1 4), .int x1])) (w' := (mk s t)) (ob := true) e_12 hk_12 4 rfl rfl ?_
      refine xu_icmp_lt e_12 hk_12 rfl (fun c3 => ?_) (fun c3 => ?_)
      · have h := xif_pos c3 h
        by_cases o4 : xin x1 200 = true
        case neg => have h := xif_neg o4 h; cases h
        have h := xif_pos o4 h
        refine xOK_steps (fr' := (21, [some (.ref 0), some (.int x1)], [.int ((s.2 3) (x1).toNatClampNeg)])) (w' := (mk s t)) (ob := xin x1 200 && (true)) e_12 hk_12 5 rfl (xand o4 rfl) ?_
        refine xOK_fg [0, 1] ?_
        exact t_C_radio_41 t q _ _ h
      · have h := xif_neg c3 h
        refine xOK_fg [0, 1] ?_
        exact t_C_radio_28 t q  _ h
  · have h := xif_pos c1 h
    refine xOK_steps (fr' := (6, [some (.ref 0), some (.int x1)], [.int (s.1 4)])) (w' := (mk s t)) (ob := true) e_12 hk_12 3 rfl rfl ?_
    cases h
    exact xu_iret e_12 hk_12 rfl rfl rfl
set_option maxRecDepth 100000 in
set_option maxHeartbeats 4000000 in
theorem m_C_waiting (s t : xS) (q : (Int32 × xS)) (h : f_C_waiting  s = some q) : xMet 13 [.ref 0] (mk s t) (some q.1) (mk q.2 t) := by
  refine xMet_of hk_13 rfl rfl rfl ?_
  refine xOK_eq (fr := (0, [some (.ref 0)], [])) rfl ?_
  unfold f_C_waiting at h
  refine xOK_steps (fr' := (3, [some (.ref 0)], [.int (s.1 6)])) (w' := (mk s t)) (ob := true) e_13 hk_13 3 rfl rfl ?_
  cases h
  exact xu_iret e_13 hk_13 rfl rfl rfl
set_option maxRecDepth 100000 in
set_option maxHeartbeats 4000000 in
theorem m_C_writes (s t : xS) (q : (Int32 × xS)) (h : f_C_writes  s = some q) : xMet 14 [.ref 0] (mk s t) (some q.1) (mk q.2 t) := by
  refine xMet_of hk_14 rfl rfl rfl ?_
  refine xOK_eq (fr := (0, [some (.ref 0)], [])) rfl ?_
  unfold f_C_writes at h
  refine xOK_steps (fr' := (3, [some (.ref 0)], [.int (s.1 2)])) (w' := (mk s t)) (ob := true) e_14 hk_14 3 rfl rfl ?_
  cases h
  exact xu_iret e_14 hk_14 rfl rfl rfl
set_option maxRecDepth 100000 in
set_option maxHeartbeats 4000000 in
theorem m_C_flips (s t : xS) (q : (Int32 × xS)) (h : f_C_flips  s = some q) : xMet 15 [.ref 0] (mk s t) (some q.1) (mk q.2 t) := by
  refine xMet_of hk_15 rfl rfl rfl ?_
  refine xOK_eq (fr := (0, [some (.ref 0)], [])) rfl ?_
  unfold f_C_flips at h
  refine xOK_steps (fr' := (3, [some (.ref 0)], [.int (s.1 18)])) (w' := (mk s t)) (ob := true) e_15 hk_15 3 rfl rfl ?_
  cases h
  exact xu_iret e_15 hk_15 rfl rfl rfl
set_option maxRecDepth 100000 in
set_option maxHeartbeats 4000000 in
theorem m_C_retired (s t : xS) (q : (Int32 × xS)) (h : f_C_retired  s = some q) : xMet 16 [.ref 0] (mk s t) (some q.1) (mk q.2 t) := by
  refine xMet_of hk_16 rfl rfl rfl ?_
  refine xOK_eq (fr := (0, [some (.ref 0)], [])) rfl ?_
  unfold f_C_retired at h
  refine xOK_steps (fr' := (8, [some (.ref 0)], [.int ((s.1 19) + (s.1 9))])) (w' := (mk s t)) (ob := true) e_16 hk_16 8 rfl rfl ?_
  cases h
  exact xu_iret e_16 hk_16 rfl rfl rfl
set_option maxRecDepth 100000 in
set_option maxHeartbeats 4000000 in
theorem m_C_section (s t : xS) (q : (Int32 × xS)) (h : f_C_section  s = some q) : xMet 17 [.ref 0] (mk s t) (some q.1) (mk q.2 t) := by
  refine xMet_of hk_17 rfl rfl rfl ?_
  refine xOK_eq (fr := (0, [some (.ref 0)], [])) rfl ?_
  unfold f_C_section at h
  refine xOK_steps (fr' := (23, [some (.ref 0)], [.int ((((s.1 7) + ((32 : Int32) * (s.1 10))) + ((256 : Int32) * (s.1 11))) + ((2048 : Int32) * (s.1 3)))])) (w' := (mk s t)) (ob := true) e_17 hk_17 23 rfl rfl ?_
  cases h
  exact xu_iret e_17 hk_17 rfl rfl rfl
