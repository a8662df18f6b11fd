set_option maxRecDepth 100000 in
set_option maxHeartbeats 4000000 in
theorem t_L_law_447 (n0 : Nat) (f0 : Nat → Int32) (q : Int32) (lp : Int32 → xS → xS → Option Int32) (hlp : ∀ (x3 : Int32) (s t : xS), lp x3 s t = some q → xOK 148 (some (n0, f0)) (xEndL q) (10, [some (.ref 1000000), some (.ref 0), some (.ref 27), some (.int x3)], []) (mk s t) 43 1496) (x3 : Int32) (s t : xS) (h : f_L_law_447 n0 f0 lp x3 s t = some q) : xOK 148 (some (n0, f0)) (xEndL q) (251, [some (.ref 1000000), some (.ref 0), some (.ref 27), some (.int x3)], []) (mk s t) 43 1496 := by
  unfold f_L_law_447 at h
  refine xOK_steps (fr' := (10, [some (.ref 1000000), some (.ref 0), some (.ref 27), some (.int (x3 + (3 : Int32)))], [])) (w' := (mk s t)) (ob := true) e_148 hk_148 2 rfl rfl ?_
  exact hlp _ _ _ h
set_option maxRecDepth 100000 in
set_option maxHeartbeats 4000000 in
theorem t_L_law_18 (n0 : Nat) (f0 : Nat → Int32) (q : Int32) : ∀ (n : Nat), ∀ (x3 : Int32) (s t : xS), f_L_law_18 n0 f0 n x3 s t = some q → xOK 148 (some (n0, f0)) (xEndL q) (10, [some (.ref 1000000), some (.ref 0), some (.ref 27), some (.int x3)], []) (mk s t) 43 1496 := by
  intro n
  induction n with
  | zero => intro x3 s t h; cases h
  | succ n ih =>
    intro x3 s t h
    unfold f_L_law_18 at h
    refine xOK_steps (fr' := (15, [some (.ref 1000000), some (.ref 0), some (.ref 27), some (.int x3)], [.int ((Int32.ofNat n0) - (3 : Int32)), .int x3])) (w' := (mk s t)) (ob := true) e_148 hk_148 5 rfl rfl ?_
    refine xu_icmp_gt e_148 hk_148 rfl (fun c1 => ?_) (fun c1 => ?_)
    · have h := xif_pos c1 h
      refine xOK_steps (fr' := (254, [some (.ref 1000000), some (.ref 0), some (.ref 27), some (.int x3)], [.int (1 : Int32)])) (w' := (mk s t)) (ob := true) e_148 hk_148 1 rfl rfl ?_
      cases h
      exact xu_lret e_148 hk_148 rfl rfl
    · have h := xif_neg c1 h
      by_cases o2 : xin x3 n0 = true
      case neg => have h := xif_neg o2 h; cases h
      have h := xif_pos o2 h
      refine xOK_steps (fr' := (21, [some (.ref 1000000), some (.ref 0), some (.ref 27), some (.int x3)], [.int ((f0 (x3).toNatClampNeg) &&& (31 : Int32))])) (w' := (mk s t)) (ob := xin x3 n0 && (true)) e_148 hk_148 5 rfl (xand o2 rfl) ?_
      by_cases c3 : (((f0 (x3).toNatClampNeg) &&& (31 : Int32)) < (0 : Int32) ∨ (16 : Int32) < ((f0 (x3).toNatClampNeg) &&& (31 : Int32)))
      · have h := xif_pos c3 h
        refine xu_tswOut (t := 251) e_148 hk_148 rfl c3 rfl rfl rfl ?_
        exact t_L_law_447 n0 f0 q _ ih _ _ _ h
      have h := xif_neg c3 h
      by_cases c4 : ((f0 (x3).toNatClampNeg) &&& (31 : Int32)) = (0 : Int32)
      · have h := xif_pos c4 h
        refine xu_tswJ (t := 22) e_148 hk_148 rfl c4 (by decide) (by decide) rfl rfl ?_
        by_cases o5 : xin (x3 + (1 : Int32)) n0 = true
        case neg => have h := xif_neg o5 h; cases h
        have h := xif_pos o5 h
        by_cases o6 : xin (x3 + (2 : Int32)) n0 = true
        case neg => have h := xif_neg o6 h; cases h
        have h := xif_pos o6 h
        refine xOK_steps (fr' := (33, [some (.ref 1000000), some (.ref 0), some (.ref 27), some (.int x3)], [.int (f0 (x3 + (2 : Int32)).toNatClampNeg), .int (f0 (x3 + (1 : Int32)).toNatClampNeg), .ref 0])) (w' := (mk s t)) (ob := xin (x3 + (1 : Int32)) n0 && (xin (x3 + (2 : Int32)) n0 && (true))) e_148 hk_148 11 rfl (xand o5 (xand o6 rfl)) ?_
        obtain ⟨q7, e8, h⟩ := Option.bind_eq_some_iff.mp h
        refine xu_callv (q := 0) (r := (some q7.1)) (av := [.int (f0 (x3 + (1 : Int32)).toNatClampNeg), .int (f0 (x3 + (2 : Int32)).toNatClampNeg)]) (st := []) (w1 := (mk q7.2 t)) e_148 hk_148 rfl (m_C_load _ _ _ _ _ e8) rfl rfl rfl rfl rfl ?_
        by_cases o9 : xin (x3 + (1 : Int32)) n0 = true
        case neg => have h := xif_neg o9 h; cases h
        have h := xif_pos o9 h
        by_cases o10 : xin (x3 + (2 : Int32)) n0 = true
        case neg => have h := xif_neg o10 h; cases h
        have h := xif_pos o10 h
        refine xOK_steps (fr' := (45, [some (.ref 1000000), some (.ref 0), some (.ref 27), some (.int x3)], [.int (f0 (x3 + (2 : Int32)).toNatClampNeg), .int (f0 (x3 + (1 : Int32)).toNatClampNeg), .ref 27, .int q7.1])) (w' := (mk q7.2 t)) (ob := xin (x3 + (1 : Int32)) n0 && (xin (x3 + (2 : Int32)) n0 && (true))) e_148 hk_148 11 rfl (xand o9 (xand o10 rfl)) ?_
        obtain ⟨q11, e12, h⟩ := Option.bind_eq_some_iff.mp h
        refine xu_callv (q := 27) (r := (some q11.1)) (av := [.int (f0 (x3 + (1 : Int32)).toNatClampNeg), .int (f0 (x3 + (2 : Int32)).toNatClampNeg)]) (st := [.int q7.1]) (w1 := (mk q7.2 q11.2)) e_148 hk_148 rfl (m_M_load _ _ _ _ _ e12) rfl rfl rfl rfl rfl ?_
        refine xu_icmp_eq e_148 hk_148 rfl (fun c13 => ?_) (fun c13 => ?_)
        · have h := xif_pos c13 h
          exact t_L_law_447 n0 f0 q _ ih _ _ _ h
        · have h := xif_neg c13 h
          refine xOK_steps (fr' := (48, [some (.ref 1000000), some (.ref 0), some (.ref 27), some (.int x3)], [.int (0 : Int32)])) (w' := (mk q7.2 q11.2)) (ob := true) e_148 hk_148 1 rfl rfl ?_
          cases h
          exact xu_lret e_148 hk_148 rfl rfl
      have h := xif_neg c4 h
      by_cases c14 : ((f0 (x3).toNatClampNeg) &&& (31 : Int32)) = (1 : Int32)
      · have h := xif_pos c14 h
        refine xu_tswJ (t := 49) e_148 hk_148 rfl c14 (by decide) (by decide) rfl rfl ?_
        by_cases o15 : xin (x3 + (1 : Int32)) n0 = true
        case neg => have h := xif_neg o15 h; cases h
        have h := xif_pos o15 h
        refine xOK_steps (fr' := (55, [some (.ref 1000000), some (.ref 0), some (.ref 27), some (.int x3)], [.int (f0 (x3 + (1 : Int32)).toNatClampNeg), .ref 0])) (w' := (mk s t)) (ob := xin (x3 + (1 : Int32)) n0 && (true)) e_148 hk_148 6 rfl (xand o15 rfl) ?_
        obtain ⟨q16, e17, h⟩ := Option.bind_eq_some_iff.mp h
        refine xu_callv (q := 0) (r := (some q16.1)) (av := [.int (f0 (x3 + (1 : Int32)).toNatClampNeg)]) (st := []) (w1 := (mk q16.2 t)) e_148 hk_148 rfl (m_C_start _ _ _ _ e17) rfl rfl rfl rfl rfl ?_
        by_cases o18 : xin (x3 + (1 : Int32)) n0 = true
        case neg => have h := xif_neg o18 h; cases h
        have h := xif_pos o18 h
        refine xOK_steps (fr' := (62, [some (.ref 1000000), some (.ref 0), some (.ref 27), some (.int x3)], [.int (f0 (x3 + (1 : Int32)).toNatClampNeg), .ref 27, .int q16.1])) (w' := (mk q16.2 t)) (ob := xin (x3 + (1 : Int32)) n0 && (true)) e_148 hk_148 6 rfl (xand o18 rfl) ?_
        obtain ⟨q19, e20, h⟩ := Option.bind_eq_some_iff.mp h
        refine xu_callv (q := 27) (r := (some q19.1)) (av := [.int (f0 (x3 + (1 : Int32)).toNatClampNeg)]) (st := [.int q16.1]) (w1 := (mk q16.2 q19.2)) e_148 hk_148 rfl (m_M_start _ _ _ _ e20) rfl rfl rfl rfl rfl ?_
        refine xu_icmp_eq e_148 hk_148 rfl (fun c21 => ?_) (fun c21 => ?_)
        · have h := xif_pos c21 h
          exact t_L_law_447 n0 f0 q _ ih _ _ _ h
        · have h := xif_neg c21 h
          refine xOK_steps (fr' := (65, [some (.ref 1000000), some (.ref 0), some (.ref 27), some (.int x3)], [.int (0 : Int32)])) (w' := (mk q16.2 q19.2)) (ob := true) e_148 hk_148 1 rfl rfl ?_
          cases h
          exact xu_lret e_148 hk_148 rfl rfl
      have h := xif_neg c14 h
      by_cases c22 : ((f0 (x3).toNatClampNeg) &&& (31 : Int32)) = (2 : Int32)
      · have h := xif_pos c22 h
        refine xu_tswJ (t := 66) e_148 hk_148 rfl c22 (by decide) (by decide) rfl rfl ?_
        by_cases o23 : xin (x3 + (1 : Int32)) n0 = true
        case neg => have h := xif_neg o23 h; cases h
        have h := xif_pos o23 h
        refine xOK_steps (fr' := (72, [some (.ref 1000000), some (.ref 0), some (.ref 27), some (.int x3)], [.int (f0 (x3 + (1 : Int32)).toNatClampNeg), .ref 0])) (w' := (mk s t)) (ob := xin (x3 + (1 : Int32)) n0 && (true)) e_148 hk_148 6 rfl (xand o23 rfl) ?_
        obtain ⟨q24, e25, h⟩ := Option.bind_eq_some_iff.mp h
        refine xu_callv (q := 0) (r := (some q24.1)) (av := [.int (f0 (x3 + (1 : Int32)).toNatClampNeg)]) (st := []) (w1 := (mk q24.2 t)) e_148 hk_148 rfl (m_C_sample _ _ _ _ e25) rfl rfl rfl rfl rfl ?_
        by_cases o26 : xin (x3 + (1 : Int32)) n0 = true
        case neg => have h := xif_neg o26 h; cases h
        have h := xif_pos o26 h
        refine xOK_steps (fr' := (79, [some (.ref 1000000), some (.ref 0), some (.ref 27), some (.int x3)], [.int (f0 (x3 + (1 : Int32)).toNatClampNeg), .ref 27, .int q24.1])) (w' := (mk q24.2 t)) (ob := xin (x3 + (1 : Int32)) n0 && (true)) e_148 hk_148 6 rfl (xand o26 rfl) ?_
        obtain ⟨q27, e28, h⟩ := Option.bind_eq_some_iff.mp h
        refine xu_callv (q := 27) (r := (some q27.1)) (av := [.int (f0 (x3 + (1 : Int32)).toNatClampNeg)]) (st := [.int q24.1]) (w1 := (mk q24.2 q27.2)) e_148 hk_148 rfl (m_M_sample _ _ _ _ e28) rfl rfl rfl rfl rfl ?_
        refine xu_icmp_eq e_148 hk_148 rfl (fun c29 => ?_) (fun c29 => ?_)
        · have h := xif_pos c29 h
          exact t_L_law_447 n0 f0 q _ ih _ _ _ h
        · have h := xif_neg c29 h
          refine xOK_steps (fr' := (82, [some (.ref 1000000), some (.ref 0), some (.ref 27), some (.int x3)], [.int (0 : Int32)])) (w' := (mk q24.2 q27.2)) (ob := true) e_148 hk_148 1 rfl rfl ?_
          cases h
          exact xu_lret e_148 hk_148 rfl rfl
      have h := xif_neg c22 h
      by_cases c30 : ((f0 (x3).toNatClampNeg) &&& (31 : Int32)) = (3 : Int32)
      · have h := xif_pos c30 h
        refine xu_tswJ (t := 83) e_148 hk_148 rfl c30 (by decide) (by decide) rfl rfl ?_
        by_cases o31 : xin (x3 + (1 : Int32)) n0 = true
        case neg => have h := xif_neg o31 h; cases h
        have h := xif_pos o31 h
        refine xOK_steps (fr' := (89, [some (.ref 1000000), some (.ref 0), some (.ref 27), some (.int x3)], [.int (f0 (x3 + (1 : Int32)).toNatClampNeg), .ref 0])) (w' := (mk s t)) (ob := xin (x3 + (1 : Int32)) n0 && (true)) e_148 hk_148 6 rfl (xand o31 rfl) ?_
        obtain ⟨q32, e33, h⟩ := Option.bind_eq_some_iff.mp h
        refine xu_callv (q := 0) (r := (some q32.1)) (av := [.int (f0 (x3 + (1 : Int32)).toNatClampNeg)]) (st := []) (w1 := (mk q32.2 t)) e_148 hk_148 rfl (m_C_failWrite _ _ _ _ e33) rfl rfl rfl rfl rfl ?_
        by_cases o34 : xin (x3 + (1 : Int32)) n0 = true
        case neg => have h := xif_neg o34 h; cases h
        have h := xif_pos o34 h
        refine xOK_steps (fr' := (96, [some (.ref 1000000), some (.ref 0), some (.ref 27), some (.int x3)], [.int (f0 (x3 + (1 : Int32)).toNatClampNeg), .ref 27, .int q32.1])) (w' := (mk q32.2 t)) (ob := xin (x3 + (1 : Int32)) n0 && (true)) e_148 hk_148 6 rfl (xand o34 rfl) ?_
        obtain ⟨q35, e36, h⟩ := Option.bind_eq_some_iff.mp h
        refine xu_callv (q := 27) (r := (some q35.1)) (av := [.int (f0 (x3 + (1 : Int32)).toNatClampNeg)]) (st := [.int q32.1]) (w1 := (mk q32.2 q35.2)) e_148 hk_148 rfl (m_M_failWrite _ _ _ _ e36) rfl rfl rfl rfl rfl ?_
        refine xu_icmp_eq e_148 hk_148 rfl (fun c37 => ?_) (fun c37 => ?_)
        · have h := xif_pos c37 h
          exact t_L_law_447 n0 f0 q _ ih _ _ _ h
        · have h := xif_neg c37 h
          refine xOK_steps (fr' := (99, [some (.ref 1000000), some (.ref 0), some (.ref 27), some (.int x3)], [.int (0 : Int32)])) (w' := (mk q32.2 q35.2)) (ob := true) e_148 hk_148 1 rfl rfl ?_
          cases h
          exact xu_lret e_148 hk_148 rfl rfl
      have h := xif_neg c30 h
      by_cases c38 : ((f0 (x3).toNatClampNeg) &&& (31 : Int32)) = (4 : Int32)
      · have h := xif_pos c38 h
        refine xu_tswJ (t := 100) e_148 hk_148 rfl c38 (by decide) (by decide) rfl rfl ?_
        by_cases o39 : xin (x3 + (1 : Int32)) n0 = true
        case neg => have h := xif_neg o39 h; cases h
        have h := xif_pos o39 h
        refine xOK_steps (fr' := (106, [some (.ref 1000000), some (.ref 0), some (.ref 27), some (.int x3)], [.int (f0 (x3 + (1 : Int32)).toNatClampNeg), .ref 0])) (w' := (mk s t)) (ob := xin (x3 + (1 : Int32)) n0 && (true)) e_148 hk_148 6 rfl (xand o39 rfl) ?_
        obtain ⟨q40, e41, h⟩ := Option.bind_eq_some_iff.mp h
        refine xu_callv (q := 0) (r := (some q40.1)) (av := [.int (f0 (x3 + (1 : Int32)).toNatClampNeg)]) (st := []) (w1 := (mk q40.2 t)) e_148 hk_148 rfl (m_C_failStep _ _ _ _ e41) rfl rfl rfl rfl rfl ?_
        by_cases o42 : xin (x3 + (1 : Int32)) n0 = true
        case neg => have h := xif_neg o42 h; cases h
        have h := xif_pos o42 h
        refine xOK_steps (fr' := (113, [some (.ref 1000000), some (.ref 0), some (.ref 27), some (.int x3)], [.int (f0 (x3 + (1 : Int32)).toNatClampNeg), .ref 27, .int q40.1])) (w' := (mk q40.2 t)) (ob := xin (x3 + (1 : Int32)) n0 && (true)) e_148 hk_148 6 rfl (xand o42 rfl) ?_
        obtain ⟨q43, e44, h⟩ := Option.bind_eq_some_iff.mp h
        refine xu_callv (q := 27) (r := (some q43.1)) (av := [.int (f0 (x3 + (1 : Int32)).toNatClampNeg)]) (st := [.int q40.1]) (w1 := (mk q40.2 q43.2)) e_148 hk_148 rfl (m_M_failStep _ _ _ _ e44) rfl rfl rfl rfl rfl ?_
        refine xu_icmp_eq e_148 hk_148 rfl (fun c45 => ?_) (fun c45 => ?_)
        · have h := xif_pos c45 h
          exact t_L_law_447 n0 f0 q _ ih _ _ _ h
        · have h := xif_neg c45 h
          refine xOK_steps (fr' := (116, [some (.ref 1000000), some (.ref 0), some (.ref 27), some (.int x3)], [.int (0 : Int32)])) (w' := (mk q40.2 q43.2)) (ob := true) e_148 hk_148 1 rfl rfl ?_
          cases h
          exact xu_lret e_148 hk_148 rfl rfl
      have h := xif_neg c38 h
      by_cases c46 : ((f0 (x3).toNatClampNeg) &&& (31 : Int32)) = (5 : Int32)
      · have h := xif_pos c46 h
        refine xu_tswJ (t := 117) e_148 hk_148 rfl c46 (by decide) (by decide) rfl rfl ?_
        by_cases o47 : xin (x3 + (1 : Int32)) n0 = true
        case neg => have h := xif_neg o47 h; cases h
        have h := xif_pos o47 h
        refine xOK_steps (fr' := (123, [some (.ref 1000000), some (.ref 0), some (.ref 27), some (.int x3)], [.int (f0 (x3 + (1 : Int32)).toNatClampNeg), .ref 0])) (w' := (mk s t)) (ob := xin (x3 + (1 : Int32)) n0 && (true)) e_148 hk_148 6 rfl (xand o47 rfl) ?_
        obtain ⟨q48, e49, h⟩ := Option.bind_eq_some_iff.mp h
        refine xu_callv (q := 0) (r := (some q48.1)) (av := [.int (f0 (x3 + (1 : Int32)).toNatClampNeg)]) (st := []) (w1 := (mk q48.2 t)) e_148 hk_148 rfl (m_C_run _ _ _ _ e49) rfl rfl rfl rfl rfl ?_
        by_cases o50 : xin (x3 + (1 : Int32)) n0 = true
        case neg => have h := xif_neg o50 h; cases h
        have h := xif_pos o50 h
        refine xOK_steps (fr' := (130, [some (.ref 1000000), some (.ref 0), some (.ref 27), some (.int x3)], [.int (f0 (x3 + (1 : Int32)).toNatClampNeg), .ref 27, .int q48.1])) (w' := (mk q48.2 t)) (ob := xin (x3 + (1 : Int32)) n0 && (true)) e_148 hk_148 6 rfl (xand o50 rfl) ?_
        obtain ⟨q51, e52, h⟩ := Option.bind_eq_some_iff.mp h
        refine xu_callv (q := 27) (r := (some q51.1)) (av := [.int (f0 (x3 + (1 : Int32)).toNatClampNeg)]) (st := [.int q48.1]) (w1 := (mk q48.2 q51.2)) e_148 hk_148 rfl (m_M_run _ _ _ _ e52) rfl rfl rfl rfl rfl ?_
        refine xu_icmp_eq e_148 hk_148 rfl (fun c53 => ?_) (fun c53 => ?_)
        · have h := xif_pos c53 h
          exact t_L_law_447 n0 f0 q _ ih _ _ _ h
        · have h := xif_neg c53 h
          refine xOK_steps (fr' := (133, [some (.ref 1000000), some (.ref 0), some (.ref 27), some (.int x3)], [.int (0 : Int32)])) (w' := (mk q48.2 q51.2)) (ob := true) e_148 hk_148 1 rfl rfl ?_
          cases h
          exact xu_lret e_148 hk_148 rfl rfl
      have h := xif_neg c46 h
      by_cases c54 : ((f0 (x3).toNatClampNeg) &&& (31 : Int32)) = (6 : Int32)
      · have h := xif_pos c54 h
        refine xu_tswJ (t := 134) e_148 hk_148 rfl c54 (by decide) (by decide) rfl rfl ?_
        refine xOK_steps (fr' := (135, [some (.ref 1000000), some (.ref 0), some (.ref 27), some (.int x3)], [.ref 0])) (w' := (mk s t)) (ob := true) e_148 hk_148 1 rfl rfl ?_
        obtain ⟨q55, e56, h⟩ := Option.bind_eq_some_iff.mp h
        refine xu_callv (q := 0) (r := (some q55.1)) (av := []) (st := []) (w1 := (mk q55.2 t)) e_148 hk_148 rfl (m_C_boot  _ _ _ e56) rfl rfl rfl rfl rfl ?_
        refine xOK_steps (fr' := (137, [some (.ref 1000000), some (.ref 0), some (.ref 27), some (.int x3)], [.ref 27, .int q55.1])) (w' := (mk q55.2 t)) (ob := true) e_148 hk_148 1 rfl rfl ?_
        obtain ⟨q57, e58, h⟩ := Option.bind_eq_some_iff.mp h
        refine xu_callv (q := 27) (r := (some q57.1)) (av := []) (st := [.int q55.1]) (w1 := (mk q55.2 q57.2)) e_148 hk_148 rfl (m_M_boot  _ _ _ e58) rfl rfl rfl rfl rfl ?_
        refine xu_icmp_eq e_148 hk_148 rfl (fun c59 => ?_) (fun c59 => ?_)
        · have h := xif_pos c59 h
          exact t_L_law_447 n0 f0 q _ ih _ _ _ h
        · have h := xif_neg c59 h
          refine xOK_steps (fr' := (140, [some (.ref 1000000), some (.ref 0), some (.ref 27), some (.int x3)], [.int (0 : Int32)])) (w' := (mk q55.2 q57.2)) (ob := true) e_148 hk_148 1 rfl rfl ?_
          cases h
          exact xu_lret e_148 hk_148 rfl rfl
      have h := xif_neg c54 h
      by_cases c60 : ((f0 (x3).toNatClampNeg) &&& (31 : Int32)) = (7 : Int32)
      · have h := xif_pos c60 h
        refine xu_tswJ (t := 141) e_148 hk_148 rfl c60 (by decide) (by decide) rfl rfl ?_
        refine xOK_steps (fr' := (142, [some (.ref 1000000), some (.ref 0), some (.ref 27), some (.int x3)], [.ref 0])) (w' := (mk s t)) (ob := true) e_148 hk_148 1 rfl rfl ?_
        obtain ⟨q61, e62, h⟩ := Option.bind_eq_some_iff.mp h
        refine xu_callv (q := 0) (r := (some q61.1)) (av := []) (st := []) (w1 := (mk q61.2 t)) e_148 hk_148 rfl (m_C_state  _ _ _ e62) rfl rfl rfl rfl rfl ?_
        refine xOK_steps (fr' := (144, [some (.ref 1000000), some (.ref 0), some (.ref 27), some (.int x3)], [.ref 27, .int q61.1])) (w' := (mk q61.2 t)) (ob := true) e_148 hk_148 1 rfl rfl ?_
        obtain ⟨q63, e64, h⟩ := Option.bind_eq_some_iff.mp h
        refine xu_callv (q := 27) (r := (some q63.1)) (av := []) (st := [.int q61.1]) (w1 := (mk q61.2 q63.2)) e_148 hk_148 rfl (m_M_state  _ _ _ e64) rfl rfl rfl rfl rfl ?_
        refine xu_icmp_eq e_148 hk_148 rfl (fun c65 => ?_) (fun c65 => ?_)
        · have h := xif_pos c65 h
          exact t_L_law_447 n0 f0 q _ ih _ _ _ h
        · have h := xif_neg c65 h
          refine xOK_steps (fr' := (147, [some (.ref 1000000), some (.ref 0), some (.ref 27), some (.int x3)], [.int (0 : Int32)])) (w' := (mk q61.2 q63.2)) (ob := true) e_148 hk_148 1 rfl rfl ?_
          cases h
          exact xu_lret e_148 hk_148 rfl rfl
      have h := xif_neg c60 h
      by_cases c66 : ((f0 (x3).toNatClampNeg) &&& (31 : Int32)) = (8 : Int32)
      · have h := xif_pos c66 h
        refine xu_tswJ (t := 148) e_148 hk_148 rfl c66 (by decide) (by decide) rfl rfl ?_
        by_cases o67 : xin (x3 + (1 : Int32)) n0 = true
        case neg => have h := xif_neg o67 h; cases h
        have h := xif_pos o67 h
        refine xOK_steps (fr' := (154, [some (.ref 1000000), some (.ref 0), some (.ref 27), some (.int x3)], [.int (f0 (x3 + (1 : Int32)).toNatClampNeg), .ref 0])) (w' := (mk s t)) (ob := xin (x3 + (1 : Int32)) n0 && (true)) e_148 hk_148 6 rfl (xand o67 rfl) ?_
        obtain ⟨q68, e69, h⟩ := Option.bind_eq_some_iff.mp h
        refine xu_callv (q := 0) (r := (some q68.1)) (av := [.int (f0 (x3 + (1 : Int32)).toNatClampNeg)]) (st := []) (w1 := (mk q68.2 t)) e_148 hk_148 rfl (m_C_register _ _ _ _ e69) rfl rfl rfl rfl rfl ?_
        by_cases o70 : xin (x3 + (1 : Int32)) n0 = true
        case neg => have h := xif_neg o70 h; cases h
        have h := xif_pos o70 h
        refine xOK_steps (fr' := (161, [some (.ref 1000000), some (.ref 0), some (.ref 27), some (.int x3)], [.int (f0 (x3 + (1 : Int32)).toNatClampNeg), .ref 27, .int q68.1])) (w' := (mk q68.2 t)) (ob := xin (x3 + (1 : Int32)) n0 && (true)) e_148 hk_148 6 rfl (xand o70 rfl) ?_
        obtain ⟨q71, e72, h⟩ := Option.bind_eq_some_iff.mp h
        refine xu_callv (q := 27) (r := (some q71.1)) (av := [.int (f0 (x3 + (1 : Int32)).toNatClampNeg)]) (st := [.int q68.1]) (w1 := (mk q68.2 q71.2)) e_148 hk_148 rfl (m_M_register _ _ _ _ e72) rfl rfl rfl rfl rfl ?_
        refine xu_icmp_eq e_148 hk_148 rfl (fun c73 => ?_) (fun c73 => ?_)
        · have h := xif_pos c73 h
          exact t_L_law_447 n0 f0 q _ ih _ _ _ h
        · have h := xif_neg c73 h
          refine xOK_steps (fr' := (164, [some (.ref 1000000), some (.ref 0), some (.ref 27), some (.int x3)], [.int (0 : Int32)])) (w' := (mk q68.2 q71.2)) (ob := true) e_148 hk_148 1 rfl rfl ?_
          cases h
          exact xu_lret e_148 hk_148 rfl rfl
      have h := xif_neg c66 h
      by_cases c74 : ((f0 (x3).toNatClampNeg) &&& (31 : Int32)) = (9 : Int32)
      · have h := xif_pos c74 h
        refine xu_tswJ (t := 165) e_148 hk_148 rfl c74 (by decide) (by decide) rfl rfl ?_
        by_cases o75 : xin (x3 + (1 : Int32)) n0 = true
        case neg => have h := xif_neg o75 h; cases h
        have h := xif_pos o75 h
        refine xOK_steps (fr' := (171, [some (.ref 1000000), some (.ref 0), some (.ref 27), some (.int x3)], [.int (f0 (x3 + (1 : Int32)).toNatClampNeg), .ref 0])) (w' := (mk s t)) (ob := xin (x3 + (1 : Int32)) n0 && (true)) e_148 hk_148 6 rfl (xand o75 rfl) ?_
        obtain ⟨q76, e77, h⟩ := Option.bind_eq_some_iff.mp h
        refine xu_callv (q := 0) (r := (some q76.1)) (av := [.int (f0 (x3 + (1 : Int32)).toNatClampNeg)]) (st := []) (w1 := (mk q76.2 t)) e_148 hk_148 rfl (m_C_memory _ _ _ _ e77) rfl rfl rfl rfl rfl ?_
        by_cases o78 : xin (x3 + (1 : Int32)) n0 = true
        case neg => have h := xif_neg o78 h; cases h
        have h := xif_pos o78 h
        refine xOK_steps (fr' := (178, [some (.ref 1000000), some (.ref 0), some (.ref 27), some (.int x3)], [.int (f0 (x3 + (1 : Int32)).toNatClampNeg), .ref 27, .int q76.1])) (w' := (mk q76.2 t)) (ob := xin (x3 + (1 : Int32)) n0 && (true)) e_148 hk_148 6 rfl (xand o78 rfl) ?_
        obtain ⟨q79, e80, h⟩ := Option.bind_eq_some_iff.mp h
        refine xu_callv (q := 27) (r := (some q79.1)) (av := [.int (f0 (x3 + (1 : Int32)).toNatClampNeg)]) (st := [.int q76.1]) (w1 := (mk q76.2 q79.2)) e_148 hk_148 rfl (m_M_memory _ _ _ _ e80) rfl rfl rfl rfl rfl ?_
        refine xu_icmp_eq e_148 hk_148 rfl (fun c81 => ?_) (fun c81 => ?_)
        · have h := xif_pos c81 h
          exact t_L_law_447 n0 f0 q _ ih _ _ _ h
        · have h := xif_neg c81 h
          refine xOK_steps (fr' := (181, [some (.ref 1000000), some (.ref 0), some (.ref 27), some (.int x3)], [.int (0 : Int32)])) (w' := (mk q76.2 q79.2)) (ob := true) e_148 hk_148 1 rfl rfl ?_
          cases h
          exact xu_lret e_148 hk_148 rfl rfl
      have h := xif_neg c74 h
      by_cases c82 : ((f0 (x3).toNatClampNeg) &&& (31 : Int32)) = (10 : Int32)
      · have h := xif_pos c82 h
        refine xu_tswJ (t := 182) e_148 hk_148 rfl c82 (by decide) (by decide) rfl rfl ?_
        by_cases o83 : xin (x3 + (1 : Int32)) n0 = true
        case neg => have h := xif_neg o83 h; cases h
        have h := xif_pos o83 h
        refine xOK_steps (fr' := (188, [some (.ref 1000000), some (.ref 0), some (.ref 27), some (.int x3)], [.int (f0 (x3 + (1 : Int32)).toNatClampNeg), .ref 0])) (w' := (mk s t)) (ob := xin (x3 + (1 : Int32)) n0 && (true)) e_148 hk_148 6 rfl (xand o83 rfl) ?_
        obtain ⟨q84, e85, h⟩ := Option.bind_eq_some_iff.mp h
        refine xu_callv (q := 0) (r := (some q84.1)) (av := [.int (f0 (x3 + (1 : Int32)).toNatClampNeg)]) (st := []) (w1 := (mk q84.2 t)) e_148 hk_148 rfl (m_C_fram _ _ _ _ e85) rfl rfl rfl rfl rfl ?_
        by_cases o86 : xin (x3 + (1 : Int32)) n0 = true
        case neg => have h := xif_neg o86 h; cases h
        have h := xif_pos o86 h
        refine xOK_steps (fr' := (195, [some (.ref 1000000), some (.ref 0), some (.ref 27), some (.int x3)], [.int (f0 (x3 + (1 : Int32)).toNatClampNeg), .ref 27, .int q84.1])) (w' := (mk q84.2 t)) (ob := xin (x3 + (1 : Int32)) n0 && (true)) e_148 hk_148 6 rfl (xand o86 rfl) ?_
        obtain ⟨q87, e88, h⟩ := Option.bind_eq_some_iff.mp h
        refine xu_callv (q := 27) (r := (some q87.1)) (av := [.int (f0 (x3 + (1 : Int32)).toNatClampNeg)]) (st := [.int q84.1]) (w1 := (mk q84.2 q87.2)) e_148 hk_148 rfl (m_M_fram _ _ _ _ e88) rfl rfl rfl rfl rfl ?_
        refine xu_icmp_eq e_148 hk_148 rfl (fun c89 => ?_) (fun c89 => ?_)
        · have h := xif_pos c89 h
          exact t_L_law_447 n0 f0 q _ ih _ _ _ h
        · have h := xif_neg c89 h
          refine xOK_steps (fr' := (198, [some (.ref 1000000), some (.ref 0), some (.ref 27), some (.int x3)], [.int (0 : Int32)])) (w' := (mk q84.2 q87.2)) (ob := true) e_148 hk_148 1 rfl rfl ?_
          cases h
          exact xu_lret e_148 hk_148 rfl rfl
      have h := xif_neg c82 h
      by_cases c90 : ((f0 (x3).toNatClampNeg) &&& (31 : Int32)) = (11 : Int32)
      · have h := xif_pos c90 h
        refine xu_tswJ (t := 199) e_148 hk_148 rfl c90 (by decide) (by decide) rfl rfl ?_
        by_cases o91 : xin (x3 + (1 : Int32)) n0 = true
        case neg => have h := xif_neg o91 h; cases h
        have h := xif_pos o91 h
        refine xOK_steps (fr' := (205, [some (.ref 1000000), some (.ref 0), some (.ref 27), some (.int x3)], [.int (f0 (x3 + (1 : Int32)).toNatClampNeg), .ref 0])) (w' := (mk s t)) (ob := xin (x3 + (1 : Int32)) n0 && (true)) e_148 hk_148 6 rfl (xand o91 rfl) ?_
        obtain ⟨q92, e93, h⟩ := Option.bind_eq_some_iff.mp h
        refine xu_callv (q := 0) (r := (some q92.1)) (av := [.int (f0 (x3 + (1 : Int32)).toNatClampNeg)]) (st := []) (w1 := (mk q92.2 t)) e_148 hk_148 rfl (m_C_radio _ _ _ _ e93) rfl rfl rfl rfl rfl ?_
        by_cases o94 : xin (x3 + (1 : Int32)) n0 = true
        case neg => have h := xif_neg o94 h; cases h
        have h := xif_pos o94 h
        refine xOK_steps (fr' := (212, [some (.ref 1000000), some (.ref 0), some (.ref 27), some (.int x3)], [.int (f0 (x3 + (1 : Int32)).toNatClampNeg), .ref 27, .int q92.1])) (w' := (mk q92.2 t)) (ob := xin (x3 + (1 : Int32)) n0 && (true)) e_148 hk_148 6 rfl (xand o94 rfl) ?_
        obtain ⟨q95, e96, h⟩ := Option.bind_eq_some_iff.mp h
        refine xu_callv (q := 27) (r := (some q95.1)) (av := [.int (f0 (x3 + (1 : Int32)).toNatClampNeg)]) (st := [.int q92.1]) (w1 := (mk q92.2 q95.2)) e_148 hk_148 rfl (m_M_radio _ _ _ _ e96) rfl rfl rfl rfl rfl ?_
        refine xu_icmp_eq e_148 hk_148 rfl (fun c97 => ?_) (fun c97 => ?_)
        · have h := xif_pos c97 h
          exact t_L_law_447 n0 f0 q _ ih _ _ _ h
        · have h := xif_neg c97 h
          refine xOK_steps (fr' := (215, [some (.ref 1000000), some (.ref 0), some (.ref 27), some (.int x3)], [.int (0 : Int32)])) (w' := (mk q92.2 q95.2)) (ob := true) e_148 hk_148 1 rfl rfl ?_
          cases h
          exact xu_lret e_148 hk_148 rfl rfl
      have h := xif_neg c90 h
      by_cases c98 : ((f0 (x3).toNatClampNeg) &&& (31 : Int32)) = (12 : Int32)
      · have h := xif_pos c98 h
        refine xu_tswJ (t := 216) e_148 hk_148 rfl c98 (by decide) (by decide) rfl rfl ?_
        refine xOK_steps (fr' := (217, [some (.ref 1000000), some (.ref 0), some (.ref 27), some (.int x3)], [.ref 0])) (w' := (mk s t)) (ob := true) e_148 hk_148 1 rfl rfl ?_
        obtain ⟨q99, e100, h⟩ := Option.bind_eq_some_iff.mp h
        refine xu_callv (q := 0) (r := (some q99.1)) (av := []) (st := []) (w1 := (mk q99.2 t)) e_148 hk_148 rfl (m_C_waiting  _ _ _ e100) rfl rfl rfl rfl rfl ?_
        refine xOK_steps (fr' := (219, [some (.ref 1000000), some (.ref 0), some (.ref 27), some (.int x3)], [.ref 27, .int q99.1])) (w' := (mk q99.2 t)) (ob := true) e_148 hk_148 1 rfl rfl ?_
        obtain ⟨q101, e102, h⟩ := Option.bind_eq_some_iff.mp h
        refine xu_callv (q := 27) (r := (some q101.1)) (av := []) (st := [.int q99.1]) (w1 := (mk q99.2 q101.2)) e_148 hk_148 rfl (m_M_waiting  _ _ _ e102) rfl rfl rfl rfl rfl ?_
        refine xu_icmp_eq e_148 hk_148 rfl (fun c103 => ?_) (fun c103 => ?_)
        · have h := xif_pos c103 h
          exact t_L_law_447 n0 f0 q _ ih _ _ _ h
        · have h := xif_neg c103 h
          refine xOK_steps (fr' := (222, [some (.ref 1000000), some (.ref 0), some (.ref 27), some (.int x3)], [.int (0 : Int32)])) (w' := (mk q99.2 q101.2)) (ob := true) e_148 hk_148 1 rfl rfl ?_
          cases h
          exact xu_lret e_148 hk_148 rfl rfl
      have h := xif_neg c98 h
      by_cases c104 : ((f0 (x3).toNatClampNeg) &&& (31 : Int32)) = (13 : Int32)
      · have h := xif_pos c104 h
        refine xu_tswJ (t := 223) e_148 hk_148 rfl c104 (by decide) (by decide) rfl rfl ?_
        refine xOK_steps (fr' := (224, [some (.ref 1000000), some (.ref 0), some (.ref 27), some (.int x3)], [.ref 0])) (w' := (mk s t)) (ob := true) e_148 hk_148 1 rfl rfl ?_
        obtain ⟨q105, e106, h⟩ := Option.bind_eq_some_iff.mp h
        refine xu_callv (q := 0) (r := (some q105.1)) (av := []) (st := []) (w1 := (mk q105.2 t)) e_148 hk_148 rfl (m_C_writes  _ _ _ e106) rfl rfl rfl rfl rfl ?_
        refine xOK_steps (fr' := (226, [some (.ref 1000000), some (.ref 0), some (.ref 27), some (.int x3)], [.ref 27, .int q105.1])) (w' := (mk q105.2 t)) (ob := true) e_148 hk_148 1 rfl rfl ?_
        obtain ⟨q107, e108, h⟩ := Option.bind_eq_some_iff.mp h
        refine xu_callv (q := 27) (r := (some q107.1)) (av := []) (st := [.int q105.1]) (w1 := (mk q105.2 q107.2)) e_148 hk_148 rfl (m_M_writes  _ _ _ e108) rfl rfl rfl rfl rfl ?_
        refine xu_icmp_eq e_148 hk_148 rfl (fun c109 => ?_) (fun c109 => ?_)
        · have h := xif_pos c109 h
          exact t_L_law_447 n0 f0 q _ ih _ _ _ h
        · have h := xif_neg c109 h
          refine xOK_steps (fr' := (229, [some (.ref 1000000), some (.ref 0), some (.ref 27), some (.int x3)], [.int (0 : Int32)])) (w' := (mk q105.2 q107.2)) (ob := true) e_148 hk_148 1 rfl rfl ?_
          cases h
          exact xu_lret e_148 hk_148 rfl rfl
      have h := xif_neg c104 h
      by_cases c110 : ((f0 (x3).toNatClampNeg) &&& (31 : Int32)) = (14 : Int32)
      · have h := xif_pos c110 h
        refine xu_tswJ (t := 230) e_148 hk_148 rfl c110 (by decide) (by decide) rfl rfl ?_
        refine xOK_steps (fr' := (231, [some (.ref 1000000), some (.ref 0), some (.ref 27), some (.int x3)], [.ref 0])) (w' := (mk s t)) (ob := true) e_148 hk_148 1 rfl rfl ?_
        obtain ⟨q111, e112, h⟩ := Option.bind_eq_some_iff.mp h
        refine xu_callv (q := 0) (r := (some q111.1)) (av := []) (st := []) (w1 := (mk q111.2 t)) e_148 hk_148 rfl (m_C_flips  _ _ _ e112) rfl rfl rfl rfl rfl ?_
        refine xOK_steps (fr' := (233, [some (.ref 1000000), some (.ref 0), some (.ref 27), some (.int x3)], [.ref 27, .int q111.1])) (w' := (mk q111.2 t)) (ob := true) e_148 hk_148 1 rfl rfl ?_
        obtain ⟨q113, e114, h⟩ := Option.bind_eq_some_iff.mp h
        refine xu_callv (q := 27) (r := (some q113.1)) (av := []) (st := [.int q111.1]) (w1 := (mk q111.2 q113.2)) e_148 hk_148 rfl (m_M_flips  _ _ _ e114) rfl rfl rfl rfl rfl ?_
        refine xu_icmp_eq e_148 hk_148 rfl (fun c115 => ?_) (fun c115 => ?_)
        · have h := xif_pos c115 h
          exact t_L_law_447 n0 f0 q _ ih _ _ _ h
        · have h := xif_neg c115 h
          refine xOK_steps (fr' := (236, [some (.ref 1000000), some (.ref 0), some (.ref 27), some (.int x3)], [.int (0 : Int32)])) (w' := (mk q111.2 q113.2)) (ob := true) e_148 hk_148 1 rfl rfl ?_
          cases h
          exact xu_lret e_148 hk_148 rfl rfl
      have h := xif_neg c110 h
      by_cases c116 : ((f0 (x3).toNatClampNeg) &&& (31 : Int32)) = (15 : Int32)
      · have h := xif_pos c116 h
        refine xu_tswJ (t := 237) e_148 hk_148 rfl c116 (by decide) (by decide) rfl rfl ?_
        refine xOK_steps (fr' := (238, [some (.ref 1000000), some (.ref 0), some (.ref 27), some (.int x3)], [.ref 0])) (w' := (mk s t)) (ob := true) e_148 hk_148 1 rfl rfl ?_
        obtain ⟨q117, e118, h⟩ := Option.bind_eq_some_iff.mp h
        refine xu_callv (q := 0) (r := (some q117.1)) (av := []) (st := []) (w1 := (mk q117.2 t)) e_148 hk_148 rfl (m_C_retired  _ _ _ e118) rfl rfl rfl rfl rfl ?_
        refine xOK_steps (fr' := (240, [some (.ref 1000000), some (.ref 0), some (.ref 27), some (.int x3)], [.ref 27, .int q117.1])) (w' := (mk q117.2 t)) (ob := true) e_148 hk_148 1 rfl rfl ?_
        obtain ⟨q119, e120, h⟩ := Option.bind_eq_some_iff.mp h
        refine xu_callv (q := 27) (r := (some q119.1)) (av := []) (st := [.int q117.1]) (w1 := (mk q117.2 q119.2)) e_148 hk_148 rfl (m_M_retired  _ _ _ e120) rfl rfl rfl rfl rfl ?_
        refine xu_icmp_eq e_148 hk_148 rfl (fun c121 => ?_) (fun c121 => ?_)
        · have h := xif_pos c121 h
          exact t_L_law_447 n0 f0 q _ ih _ _ _ h
        · have h := xif_neg c121 h
          refine xOK_steps (fr' := (243, [some (.ref 1000000), some (.ref 0), some (.ref 27), some (.int x3)], [.int (0 : Int32)])) (w' := (mk q117.2 q119.2)) (ob := true) e_148 hk_148 1 rfl rfl ?_
          cases h
          exact xu_lret e_148 hk_148 rfl rfl
      have h := xif_neg c116 h
      by_cases c122 : ((f0 (x3).toNatClampNeg) &&& (31 : Int32)) = (16 : Int32)
      · have h := xif_pos c122 h
        refine xu_tswJ (t := 244) e_148 hk_148 rfl c122 (by decide) (by decide) rfl rfl ?_
        refine xOK_steps (fr' := (245, [some (.ref 1000000), some (.ref 0), some (.ref 27), some (.int x3)], [.ref 0])) (w' := (mk s t)) (ob := true) e_148 hk_148 1 rfl rfl ?_
        obtain ⟨q123, e124, h⟩ := Option.bind_eq_some_iff.mp h
        refine xu_callv (q := 0) (r := (some q123.1)) (av := []) (st := []) (w1 := (mk q123.2 t)) e_148 hk_148 rfl (m_C_section  _ _ _ e124) rfl rfl rfl rfl rfl ?_
        refine xOK_steps (fr' := (247, [some (.ref 1000000), some (.ref 0), some (.ref 27), some (.int x3)], [.ref 27, .int q123.1])) (w' := (mk q123.2 t)) (ob := true) e_148 hk_148 1 rfl rfl ?_
        obtain ⟨q125, e126, h⟩ := Option.bind_eq_some_iff.mp h
        refine xu_callv (q := 27) (r := (some q125.1)) (av := []) (st := [.int q123.1]) (w1 := (mk q123.2 q125.2)) e_148 hk_148 rfl (m_M_section  _ _ _ e126) rfl rfl rfl rfl rfl ?_
        refine xu_icmp_eq e_148 hk_148 rfl (fun c127 => ?_) (fun c127 => ?_)
        · have h := xif_pos c127 h
          exact t_L_law_447 n0 f0 q _ ih _ _ _ h
        · have h := xif_neg c127 h
          refine xOK_steps (fr' := (250, [some (.ref 1000000), some (.ref 0), some (.ref 27), some (.int x3)], [.int (0 : Int32)])) (w' := (mk q123.2 q125.2)) (ob := true) e_148 hk_148 1 rfl rfl ?_
          cases h
          exact xu_lret e_148 hk_148 rfl rfl
      have h := xif_neg c122 h
      cases h
