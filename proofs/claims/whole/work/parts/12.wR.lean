set_option maxRecDepth 100000 in
set_option maxHeartbeats 4000000 in
theorem t_M_framNow_24 (t : xS) (q : (Int32 × xS)) (y0 : Int32) (s : xS) (h : f_M_framNow_24 y0 s = some q) : xOK 105 none (xEnd 105 (some q.1) (mk t q.2)) (14, [none, none], [.int y0]) (mk t s) 0 0 := by
  unfold f_M_framNow_24 at h
  cases h
  exact xu_iret e_105 hk_105 rfl rfl rfl
set_option maxRecDepth 100000 in
set_option maxHeartbeats 4000000 in
theorem m_M_framNow (x1 : Int32) (s t : xS) (q : (Int32 × xS)) (h : f_M_framNow x1 s = some q) : xMet 105 [.ref 27, .int x1] (mk t s) (some q.1) (mk t q.2) := by
  refine xMet_of hk_105 rfl rfl rfl ?_
  refine xOK_eq (fr := (0, [some (.ref 27), some (.int x1)], [])) rfl ?_
  unfold f_M_framNow at h
  by_cases o1 : xin x1 128 = true
  case neg => have h := xif_neg o1 h; cases h
  have h := xif_pos o1 h
  refine xOK_steps (fr' := (4, [some (.ref 27), some (.int x1)], [.int ((s.2 4) (x1).toNatClampNeg)])) (w' := (mk t s)) (ob := xin x1 128 && (true)) e_105 hk_105 4 rfl (xand o1 rfl) ?_
  refine xu_if_le e_105 hk_105 rfl (fun c2 => ?_) (fun c2 => ?_)
  · have h := xif_pos c2 h
    by_cases o3 : xin x1 128 = true
    case neg => have h := xif_neg o3 h; cases h
    have h := xif_pos o3 h
    refine xOK_steps (fr' := (14, [some (.ref 27), some (.int x1)], [.int ((s.2 2) (x1).toNatClampNeg)])) (w' := (mk t s)) (ob := xin x1 128 && (true)) e_105 hk_105 4 rfl (xand o3 rfl) ?_
    refine xOK_fg [0, 1] ?_
    exact t_M_framNow_24 t q _ _ h
  · have h := xif_neg c2 h
    by_cases o4 : xin x1 128 = true
    case neg => have h := xif_neg o4 h; cases h
    have h := xif_pos o4 h
    refine xOK_steps (fr' := (14, [some (.ref 27), some (.int x1)], [.int ((s.2 5) (x1).toNatClampNeg)])) (w' := (mk t s)) (ob := xin x1 128 && (true)) e_105 hk_105 5 rfl (xand o4 rfl) ?_
    refine xOK_fg [0, 1] ?_
    exact t_M_framNow_24 t q _ _ h
set_option maxRecDepth 100000 in
set_option maxHeartbeats 4000000 in
theorem t_M_plain_76 (t : xS) (q : (Int32 × xS)) (y0 : Int32) (s : xS) (h : f_M_plain_76 y0 s = some q) : xOK 106 none (xEnd 106 (some q.1) (mk t q.2)) (44, [none, none, none], [.int y0]) (mk t s) 0 0 := by
  unfold f_M_plain_76 at h
  cases h
  exact xu_iret e_106 hk_106 rfl rfl rfl
set_option maxRecDepth 100000 in
set_option maxHeartbeats 4000000 in
theorem t_M_plain_46 (t : xS) (q : (Int32 × xS)) (x2 y1 y2 : Int32) (s : xS) (h : f_M_plain_46 x2 y1 y2 s = some q) : xOK 106 none (xEnd 106 (some q.1) (mk t q.2)) (26, [some (.ref 27), none, some (.int x2)], [.int y2, .int y1, .ref 31]) (mk t s) 0 0 := by
  unfold f_M_plain_46 at h
  by_cases o1 : xin y1 128 = true
  case neg => have h := xif_neg o1 h; cases h
  have h := xif_pos o1 h
  refine xOK_steps (fr' := (29, [some (.ref 27), none, some (.int x2)], [.int x2, .ref 27])) (w' := (mk t (xsa s 3 (y1).toNatClampNeg y2))) (ob := xin y1 128 && (true)) e_106 hk_106 3 rfl (xand o1 rfl) ?_
  obtain ⟨q2, e3, h⟩ := Option.bind_eq_some_iff.mp h
  refine xu_callv (q := 27) (r := (some q2.1)) (av := [.int x2]) (st := []) (w1 := (mk t q2.2)) e_106 hk_106 rfl (m_M_framNow _ _ _ _ e3) rfl rfl rfl rfl rfl ?_
  cases h
  exact xu_iret e_106 hk_106 rfl rfl rfl
set_option maxRecDepth 100000 in
set_option maxHeartbeats 4000000 in
theorem t_M_plain_40 (t : xS) (q : (Int32 × xS)) (x2 y1 : Int32) (s : xS) (h : f_M_plain_40 x2 y1 s = some q) : xOK 106 none (xEnd 106 (some q.1) (mk t q.2)) (22, [some (.ref 27), none, some (.int x2)], [.int y1, .ref 31]) (mk t s) 0 0 := by
  unfold f_M_plain_40 at h
  by_cases o4 : xin x2 128 = true
  case neg => have h := xif_neg o4 h; cases h
  have h := xif_pos o4 h
  refine xOK_steps (fr' := (26, [some (.ref 27), none, some (.int x2)], [.int ((s.2 3) (x2).toNatClampNeg), .int y1, .ref 31])) (w' := (mk t s)) (ob := xin x2 128 && (true)) e_106 hk_106 4 rfl (xand o4 rfl) ?_
  exact t_M_plain_46 t q _ _ _ _ h
set_option maxRecDepth 100000 in
set_option maxHeartbeats 4000000 in
theorem m_M_plain (x1 : Int32) (s t : xS) (q : (Int32 × xS)) (h : f_M_plain x1 s = some q) : xMet 106 [.ref 27, .int x1] (mk t s) (some q.1) (mk t q.2) := by
  refine xMet_of hk_106 rfl rfl rfl ?_
  refine xOK_eq (fr := (0, [some (.ref 27), some (.int x1), none], [])) rfl ?_
  unfold f_M_plain at h
  refine xOK_steps (fr' := (1, [some (.ref 27), some (.int x1), none], [.int x1])) (w' := (mk t s)) (ob := true) e_106 hk_106 1 rfl rfl ?_
  obtain ⟨q5, e6, h⟩ := Option.bind_eq_some_iff.mp h
  refine xu_calls (r := (some q5)) (av := [.int x1]) (st := []) (w1 := (mk t s)) e_106 hk_106 rfl rfl (m_M_inFram _ _ _ _ e6) rfl rfl rfl rfl ?_
  refine xu_if_eq e_106 hk_106 rfl (fun c7 => ?_) (fun c7 => ?_)
  · have h := xif_pos c7 h
    refine xOK_steps (fr' := (32, [some (.ref 27), some (.int x1), none], [.int x1])) (w' := (mk t s)) (ob := true) e_106 hk_106 1 rfl rfl ?_
    obtain ⟨q8, e9, h⟩ := Option.bind_eq_some_iff.mp h
    refine xu_calls (r := (some q8)) (av := [.int x1]) (st := []) (w1 := (mk t s)) e_106 hk_106 rfl rfl (m_M_inSram _ _ _ _ e9) rfl rfl rfl rfl ?_
    refine xu_if_eq e_106 hk_106 rfl (fun c10 => ?_) (fun c10 => ?_)
    · have h := xif_pos c10 h
      refine xOK_steps (fr' := (44, [some (.ref 27), some (.int x1), none], [.int (0 : Int32)])) (w' := (mk t s)) (ob := true) e_106 hk_106 1 rfl rfl ?_
      refine xOK_fg [0, 1] ?_
      exact t_M_plain_76 t q _ _ h
    · have h := xif_neg c10 h
      by_cases o11 : xin ((x1 - (512 : Int32)) / (2 : Int32)) 16 = true
      case neg => have h := xif_neg o11 h; cases h
      have h := xif_pos o11 h
      refine xOK_steps (fr' := (44, [some (.ref 27), some (.int x1), none], [.int ((s.2 1) ((x1 - (512 : Int32)) / (2 : Int32)).toNatClampNeg)])) (w' := (mk t s)) (ob := xin ((x1 - (512 : Int32)) / (2 : Int32)) 16 && (true)) e_106 hk_106 9 rfl (xand o11 rfl) ?_
      refine xOK_fg [0, 1] ?_
      exact t_M_plain_76 t q _ _ h
  · have h := xif_neg c7 h
    refine xOK_steps (fr' := (14, [some (.ref 27), some (.int x1), some (.int ((x1 - (1024 : Int32)) / (2 : Int32)))], [.int (s.1 15), .int ((x1 - (1024 : Int32)) / (2 : Int32)), .ref 31])) (w' := (mk t s)) (ob := true) e_106 hk_106 11 rfl rfl ?_
    refine xu_if_eq e_106 hk_106 rfl (fun c12 => ?_) (fun c12 => ?_)
    · have h := xif_pos c12 h
      refine xOK_fg [1] ?_
      exact t_M_plain_40 t q _ _ _ h
    · have h := xif_neg c12 h
      by_cases o13 : xin ((x1 - (1024 : Int32)) / (2 : Int32)) 128 = true
      case neg => have h := xif_neg o13 h; cases h
      have h := xif_pos o13 h
      refine xOK_steps (fr' := (19, [some (.ref 27), some (.int x1), some (.int ((x1 - (1024 : Int32)) / (2 : Int32)))], [.int ((s.2 3) ((x1 - (1024 : Int32)) / (2 : Int32)).toNatClampNeg), .int ((x1 - (1024 : Int32)) / (2 : Int32)), .ref 31])) (w' := (mk t s)) (ob := xin ((x1 - (1024 : Int32)) / (2 : Int32)) 128 && (true)) e_106 hk_106 4 rfl (xand o13 rfl) ?_
      refine xu_if_ne e_106 hk_106 rfl (fun c14 => ?_) (fun c14 => ?_)
      · have h := xif_neg c14 h
        refine xOK_fg [1] ?_
        exact t_M_plain_40 t q _ _ _ h
      · have h := xif_pos c14 h
        refine xOK_steps (fr' := (26, [some (.ref 27), some (.int x1), some (.int ((x1 - (1024 : Int32)) / (2 : Int32)))], [.int (1 : Int32), .int ((x1 - (1024 : Int32)) / (2 : Int32)), .ref 31])) (w' := (mk t s)) (ob := true) e_106 hk_106 2 rfl rfl ?_
        refine xOK_fg [1] ?_
        exact t_M_plain_46 t q _ _ _ _ h
set_option maxRecDepth 100000 in
set_option maxHeartbeats 4000000 in
theorem m_M_fetch (s t : xS) (q : (Int32 × xS)) (h : f_M_fetch  s = some q) : xMet 112 [.ref 27] (mk t s) (some q.1) (mk t q.2) := by
  refine xMet_of hk_112 rfl rfl rfl ?_
  refine xOK_eq (fr := (0, [some (.ref 27), none], [])) rfl ?_
  unfold f_M_fetch at h
  refine xOK_steps (fr' := (5, [some (.ref 27), none], [.int ((s.2 0) 0), .ref 27])) (w' := (mk t s)) (ob := true) e_112 hk_112 5 rfl rfl ?_
  obtain ⟨q1, e2, h⟩ := Option.bind_eq_some_iff.mp h
  refine xu_callv (q := 27) (r := (some q1.1)) (av := [.int ((s.2 0) 0)]) (st := []) (w1 := (mk t q1.2)) e_112 hk_112 rfl (m_M_plain _ _ _ _ e2) rfl rfl rfl rfl rfl ?_
  refine xOK_steps (fr' := (20, [some (.ref 27), some (.int q1.1)], [.int q1.1])) (w' := (mk t (xsa q1.2 0 0 (xrem (((q1.2.2 0) 0) + (2 : Int32)) (65536 : Int32))))) (ob := true) e_112 hk_112 14 rfl rfl ?_
  cases h
  exact xu_iret e_112 hk_112 rfl rfl rfl
set_option maxRecDepth 100000 in
set_option maxHeartbeats 4000000 in
theorem t_M_fresh_2 (t : xS) (q : xS) : ∀ (n : Nat), ∀ (x1 : Int32) (s : xS), f_M_fresh_2 n x1 s = some q → xOK 99 none (xEnd 99 none (mk t q)) (2, [some (.ref 27), some (.int x1)], []) (mk t s) 0 0 := by
  intro n
  induction n with
  | zero => intro x1 s h; cases h
  | succ n ih =>
    intro x1 s h
    unfold f_M_fresh_2 at h
    refine xOK_steps (fr' := (4, [some (.ref 27), some (.int x1)], [.int (128 : Int32), .int x1])) (w' := (mk t s)) (ob := true) e_99 hk_99 2 rfl rfl ?_
    refine xu_icmp_ge e_99 hk_99 rfl (fun c1 => ?_) (fun c1 => ?_)
    · have h := xif_pos c1 h
      refine xOK_steps (fr' := (29, [some (.ref 27), some (.int x1)], [])) (w' := (mk t (xsc (xsc (xsc (xsc s 0 (0 : Int32)) 1 (0 : Int32)) 2 (0 : Int32)) 4 (0 : Int32)))) (ob := true) e_99 hk_99 12 rfl rfl ?_
      cases h
      exact xu_vret e_99 hk_99 rfl rfl
    · have h := xif_neg c1 h
      by_cases o2 : xin x1 128 = true
      case neg => have h := xif_neg o2 h; cases h
      have h := xif_pos o2 h
      by_cases o3 : xin x1 128 = true
      case neg => have h := xif_neg o3 h; cases h
      have h := xif_pos o3 h
      refine xOK_steps (fr' := (2, [some (.ref 27), some (.int (x1 + (1 : Int32)))], [])) (w' := (mk t (xsa (xsa s 3 (x1).toNatClampNeg (0 : Int32)) 4 (x1).toNatClampNeg (0 : Int32)))) (ob := xin x1 128 && (xin x1 128 && (true))) e_99 hk_99 12 rfl (xand o2 (xand o3 rfl)) ?_
      exact ih _ _ h
set_option maxRecDepth 100000 in
set_option maxHeartbeats 4000000 in
theorem m_M_fresh (s t : xS) (q : xS) (h : f_M_fresh  s = some q) : xMet 99 [.ref 27] (mk t s) none (mk t q) := by
  refine xMet_of hk_99 rfl rfl rfl ?_
  refine xOK_eq (fr := (0, [some (.ref 27), none], [])) rfl ?_
  unfold f_M_fresh at h
  refine xOK_steps (fr' := (2, [some (.ref 27), some (.int (0 : Int32))], [])) (w' := (mk t s)) (ob := true) e_99 hk_99 2 rfl rfl ?_
  exact t_M_fresh_2 t q _ _ _ h
set_option maxRecDepth 100000 in
set_option maxHeartbeats 4000000 in
theorem m_M_off (s t : xS) (q : xS) (h : f_M_off  s = some q) : xMet 98 [.ref 27] (mk t s) none (mk t q) := by
  refine xMet_of hk_98 rfl rfl rfl ?_
  refine xOK_eq (fr := (0, [some (.ref 27)], [])) rfl ?_
  unfold f_M_off at h
  refine xOK_steps (fr' := (16, [some (.ref 27)], [.ref 27])) (w' := (mk t (xsc (xsc (xsc (xsc (xsc s 15 (0 : Int32)) 14 (2 : Int32)) 16 (0 : Int32)) 17 (0 : Int32)) 3 (0 : Int32)))) (ob := true) e_98 hk_98 16 rfl rfl ?_
  obtain ⟨q1, e2, h⟩ := Option.bind_eq_some_iff.mp h
  refine xu_callv (q := 27) (r := none) (av := []) (st := []) (w1 := (mk t q1)) e_98 hk_98 rfl (m_M_fresh  _ _ _ e2) rfl rfl rfl rfl rfl ?_
  cases h
  exact xu_vret e_98 hk_98 rfl rfl
set_option maxRecDepth 100000 in
set_option maxHeartbeats 4000000 in
theorem t_M_write_41 (t : xS) (q : (Int32 × xS)) (y1 : Int32) (s : xS) (h : f_M_write_41 y1 s = some q) : xOK 100 none (xEnd 100 (some q.1) (mk t q.2)) (23, [some (.ref 27)], [.int y1, .ref 27]) (mk t s) 0 0 := by
  unfold f_M_write_41 at h
  refine xOK_steps (fr' := (31, [some (.ref 27)], [.int (1 : Int32)])) (w' := (mk t (xsc (xsc s 16 y1) 18 ((s.1 18) + (1 : Int32))))) (ob := true) e_100 hk_100 8 rfl rfl ?_
  cases h
  exact xu_iret e_100 hk_100 rfl rfl rfl
set_option maxRecDepth 100000 in
set_option maxHeartbeats 4000000 in
theorem m_M_write (s t : xS) (q : (Int32 × xS)) (h : f_M_write  s = some q) : xMet 100 [.ref 27] (mk t s) (some q.1) (mk t q.2) := by
  refine xMet_of hk_100 rfl rfl rfl ?_
  refine xOK_eq (fr := (0, [some (.ref 27)], [])) rfl ?_
  unfold f_M_write at h
  refine xOK_steps (fr' := (2, [some (.ref 27)], [.int (s.1 15)])) (w' := (mk t s)) (ob := true) e_100 hk_100 2 rfl rfl ?_
  refine xu_if_ne e_100 hk_100 rfl (fun c1 => ?_) (fun c1 => ?_)
  · have h := xif_neg c1 h
    refine xOK_steps (fr' := (8, [some (.ref 27)], [.int (1 : Int32), .int (s.1 16)])) (w' := (mk t s)) (ob := true) e_100 hk_100 3 rfl rfl ?_
    refine xu_icmp_ne e_100 hk_100 rfl (fun c2 => ?_) (fun c2 => ?_)
    · have h := xif_neg c2 h
      refine xOK_steps (fr' := (16, [some (.ref 27)], [.int (s.1 16), .ref 27])) (w' := (mk t s)) (ob := true) e_100 hk_100 3 rfl rfl ?_
      refine xu_if_le e_100 hk_100 rfl (fun c3 => ?_) (fun c3 => ?_)
      · have h := xif_pos c3 h
        refine xOK_steps (fr' := (23, [some (.ref 27)], [.int (0 : Int32), .ref 27])) (w' := (mk t s)) (ob := true) e_100 hk_100 1 rfl rfl ?_
        exact t_M_write_41 t q _ _ h
      · have h := xif_neg c3 h
        refine xOK_steps (fr' := (23, [some (.ref 27)], [.int ((s.1 16) - (1 : Int32)), .ref 27])) (w' := (mk t s)) (ob := true) e_100 hk_100 5 rfl rfl ?_
        exact t_M_write_41 t q _ _ h
    · have h := xif_pos c2 h
      refine xOK_steps (fr' := (10, [some (.ref 27)], [.ref 27])) (w' := (mk t s)) (ob := true) e_100 hk_100 1 rfl rfl ?_
      obtain ⟨q4, e5, h⟩ := Option.bind_eq_some_iff.mp h
      refine xu_callv (q := 27) (r := none) (av := []) (st := []) (w1 := (mk t q4)) e_100 hk_100 rfl (m_M_off  _ _ _ e5) rfl rfl rfl rfl rfl ?_
      refine xOK_steps (fr' := (12, [some (.ref 27)], [.int (0 : Int32)])) (w' := (mk t q4)) (ob := true) e_100 hk_100 1 rfl rfl ?_
      cases h
      exact xu_iret e_100 hk_100 rfl rfl rfl
  · have h := xif_pos c1 h
    refine xOK_steps (fr' := (4, [some (.ref 27)], [.int (0 : Int32)])) (w' := (mk t s)) (ob := true) e_100 hk_100 1 rfl rfl ?_
    cases h
    exact xu_iret e_100 hk_100 rfl rfl rfl
set_option maxRecDepth 100000 in
set_option maxHeartbeats 4000000 in
theorem t_M_keep_68 (t : xS) (q : xS) (s : xS) (h : f_M_keep_68  s = some q) : xOK 111 none (xEnd 111 none (mk t q)) (42, [none, none, none], []) (mk t s) 0 0 := by
  unfold f_M_keep_68 at h
  cases h
  exact xu_vret e_111 hk_111 rfl rfl
set_option maxRecDepth 100000 in
set_option maxHeartbeats 4000000 in
theorem t_M_keep_39 (t : xS) (q : xS) (x1 x2 : Int32) (s : xS) (h : f_M_keep_39 x1 x2 s = some q) : xOK 111 none (xEnd 111 none (mk t q)) (23, [some (.ref 27), some (.int x1), some (.int x2)], []) (mk t s) 0 0 := by
  unfold f_M_keep_39 at h
  by_cases o1 : xin x1 128 = true
  case neg => have h := xif_neg o1 h; cases h
  have h := xif_pos o1 h
  refine xOK_steps (fr' := (28, [some (.ref 27), some (.int x1), some (.int x2)], [])) (w' := (mk t (xsa s 5 (x1).toNatClampNeg x2))) (ob := xin x1 128 && (true)) e_111 hk_111 5 rfl (xand o1 rfl) ?_
  cases h
  exact xu_vret e_111 hk_111 rfl rfl
set_option maxRecDepth 100000 in
set_option maxHeartbeats 4000000 in
theorem m_M_keep (x1 x2 : Int32) (s t : xS) (q : xS) (h : f_M_keep x1 x2 s = some q) : xMet 111 [.ref 27, .int x1, .int x2] (mk t s) none (mk t q) := by
  refine xMet_of hk_111 rfl rfl rfl ?_
  refine xOK_eq (fr := (0, [some (.ref 27), some (.int x1), some (.int x2)], [])) rfl ?_
  unfold f_M_keep at h
  by_cases o2 : xin x1 128 = true
  case neg => have h := xif_neg o2 h; cases h
  have h := xif_pos o2 h
  refine xOK_steps (fr' := (5, [some (.ref 27), some (.int x1), some (.int x2)], [.int (1 : Int32), .int ((s.2 3) (x1).toNatClampNeg)])) (w' := (mk t s)) (ob := xin x1 128 && (true)) e_111 hk_111 5 rfl (xand o2 rfl) ?_
  refine xu_icmp_ne e_111 hk_111 rfl (fun c3 => ?_) (fun c3 => ?_)
  · have h := xif_neg c3 h
    by_cases o4 : xin x1 128 = true
    case neg => have h := xif_neg o4 h; cases h
    have h := xif_pos o4 h
    refine xOK_steps (fr' := (35, [some (.ref 27), some (.int x1), some (.int x2)], [.ref 27])) (w' := (mk t (xsa s 3 (x1).toNatClampNeg (2 : Int32)))) (ob := xin x1 128 && (true)) e_111 hk_111 6 rfl (xand o4 rfl) ?_
    obtain ⟨q5, e6, h⟩ := Option.bind_eq_some_iff.mp h
    refine xu_callv (q := 27) (r := (some q5.1)) (av := []) (st := []) (w1 := (mk t q5.2)) e_111 hk_111 rfl (m_M_write  _ _ _ e6) rfl rfl rfl rfl rfl ?_
    refine xu_if_eq e_111 hk_111 rfl (fun c7 => ?_) (fun c7 => ?_)
    · have h := xif_pos c7 h
      refine xOK_fg [0, 1, 2] ?_
      exact t_M_keep_68 t q  _ h
    · have h := xif_neg c7 h
      by_cases o8 : xin x1 128 = true
      case neg => have h := xif_neg o8 h; cases h
      have h := xif_pos o8 h
      refine xOK_steps (fr' := (42, [some (.ref 27), some (.int x1), some (.int x2)], [])) (w' := (mk t (xsa q5.2 2 (x1).toNatClampNeg x2))) (ob := xin x1 128 && (true)) e_111 hk_111 5 rfl (xand o8 rfl) ?_
      refine xOK_fg [0, 1, 2] ?_
      exact t_M_keep_68 t q  _ h
  · have h := xif_pos c3 h
    by_cases o9 : xin x1 128 = true
    case neg => have h := xif_neg o9 h; cases h
    have h := xif_pos o9 h
    refine xOK_steps (fr' := (10, [some (.ref 27), some (.int x1), some (.int x2)], [.int ((s.2 4) (x1).toNatClampNeg)])) (w' := (mk t s)) (ob := xin x1 128 && (true)) e_111 hk_111 4 rfl (xand o9 rfl) ?_
    refine xu_if_ne e_111 hk_111 rfl (fun c10 => ?_) (fun c10 => ?_)
    · have h := xif_neg c10 h
      exact t_M_keep_39 t q _ _ _ h
    · have h := xif_pos c10 h
      by_cases o11 : xin x1 128 = true
      case neg => have h := xif_neg o11 h; cases h
      have h := xif_pos o11 h
      refine xOK_steps (fr' := (23, [some (.ref 27), some (.int x1), some (.int x2)], [])) (w' := (mk t (xsa (xsc s 0 ((s.1 0) + (1 : Int32))) 4 (x1).toNatClampNeg ((s.1 0) + (1 : Int32))))) (ob := xin x1 128 && (true)) e_111 hk_111 12 rfl (xand o11 rfl) ?_
      exact t_M_keep_39 t q _ _ _ h
set_option maxRecDepth 100000 in
set_option maxHeartbeats 4000000 in
theorem t_M_store_162 (t : xS) (q : xS) (s : xS) (h : f_M_store_162  s = some q) : xOK 110 none (xEnd 110 none (mk t q)) (87, [none, none, none, none, none, none], []) (mk t s) 0 0 := by
  unfold f_M_store_162 at h
  cases h
  exact xu_vret e_110 hk_110 rfl rfl
set_option maxRecDepth 100000 in
set_option maxHeartbeats 4000000 in
theorem t_M_store_157 (t : xS) (q : xS) (s : xS) (h : f_M_store_157  s = some q) : xOK 110 none (xEnd 110 none (mk t q)) (84, [some (.ref 27), none, none, none, none, none], []) (mk t s) 0 0 := by
  unfold f_M_store_157 at h
  refine xOK_steps (fr' := (87, [some (.ref 27), none, none, none, none, none], [])) (w' := (mk t (xsc s 4 (1 : Int32)))) (ob := true) e_110 hk_110 3 rfl rfl ?_
  refine xOK_fg [0] ?_
  exact t_M_store_162 t q  _ h
set_option maxRecDepth 100000 in
set_option maxHeartbeats 4000000 in
theorem t_M_store_107 (t : xS) (q : xS) (x2 : Int32) (s : xS) (h : f_M_store_107 x2 s = some q) : xOK 110 none (xEnd 110 none (mk t q)) (58, [some (.ref 27), none, some (.int x2), none, none, none], []) (mk t s) 0 0 := by
  unfold f_M_store_107 at h
  refine xOK_steps (fr' := (64, [some (.ref 27), none, some (.int x2), none, none, none], [.int (200 : Int32), .int ((s.1 13) + (s.1 1))])) (w' := (mk t s)) (ob := true) e_110 hk_110 6 rfl rfl ?_
  refine xu_icmp_ge e_110 hk_110 rfl (fun c1 => ?_) (fun c1 => ?_)
  · have h := xif_pos c1 h
    refine xOK_fg [0, 2] ?_
    exact t_M_store_162 t q  _ h
  · have h := xif_neg c1 h
    by_cases o2 : xin (s.1 1) 8 = true
    case neg => have h := xif_neg o2 h; cases h
    have h := xif_pos o2 h
    refine xOK_steps (fr' := (87, [some (.ref 27), none, some (.int x2), none, none, none], [])) (w' := (mk t (xsc (xsa s 6 (s.1 1).toNatClampNeg x2) 1 ((s.1 1) + (1 : Int32))))) (ob := xin (s.1 1) 8 && (true)) e_110 hk_110 13 rfl (xand o2 rfl) ?_
    refine xOK_fg [0, 2] ?_
    exact t_M_store_162 t q  _ h
set_option maxRecDepth 100000 in
set_option maxHeartbeats 4000000 in
theorem t_M_store_76 (t : xS) (q : xS) (x1 x2 x3 x4 y0 : Int32) (s : xS) (h : f_M_store_76 x1 x2 x3 x4 y0 s = some q) : xOK 110 none (xEnd 110 none (mk t q)) (42, [some (.ref 27), some (.int x1), some (.int x2), some (.int x3), some (.int x4), none], [.int y0]) (mk t s) 0 0 := by
  unfold f_M_store_76 at h
  refine xOK_steps (fr' := (49, [some (.ref 27), some (.int x1), some (.int x2), some (.int x3), some (.int x4), some (.int y0)], [.int x3, .int x2, .int x1, .int y0, .int x4, .ref 27])) (w' := (mk t s)) (ob := true) e_110 hk_110 7 rfl rfl ?_
  obtain ⟨q3, e4, h⟩ := Option.bind_eq_some_iff.mp h
  refine xu_calls (r := (some q3)) (av := [.int y0, .int x1, .int x2, .int x3]) (st := [.int x4, .ref 27]) (w1 := (mk t s)) e_110 hk_110 rfl rfl (m_M_merged _ _ _ _ _ _ _ e4) rfl rfl rfl rfl ?_
  obtain ⟨q5, e6, h⟩ := Option.bind_eq_some_iff.mp h
  refine xu_callv (q := 27) (r := none) (av := [.int x4, .int q3]) (st := []) (w1 := (mk t q5)) e_110 hk_110 rfl (m_M_keep _ _ _ _ _ e6) rfl rfl rfl rfl rfl ?_
  refine xOK_steps (fr' := (87, [some (.ref 27), some (.int x1), some (.int x2), some (.int x3), some (.int x4), some (.int y0)], [])) (w' := (mk t q5)) (ob := true) e_110 hk_110 1 rfl rfl ?_
  refine xOK_fg [0, 1, 2, 3, 4, 5] ?_
  exact t_M_store_162 t q  _ h
set_option maxRecDepth 100000 in
set_option maxHeartbeats 4000000 in
theorem m_M_store (x1 x2 x3 : Int32) (s t : xS) (q : xS) (h : f_M_store x1 x2 x3 s = some q) : xMet 110 [.ref 27, .int x1, .int x2, .int x3] (mk t s) none (mk t q) := by
  refine xMet_of hk_110 rfl rfl rfl ?_
  refine xOK_eq (fr := (0, [some (.ref 27), some (.int x1), some (.int x2), some (.int x3), none, none], [])) rfl ?_
  unfold f_M_store at h
  refine xOK_steps (fr' := (2, [some (.ref 27), some (.int x1), some (.int x2), some (.int x3), none, none], [.int (s.1 15)])) (w' := (mk t s)) (ob := true) e_110 hk_110 2 rfl rfl ?_
  refine xu_if_ne e_110 hk_110 rfl (fun c7 => ?_) (fun c7 => ?_)
  · have h := xif_neg c7 h
    refine xOK_steps (fr' := (5, [some (.ref 27), some (.int x1), some (.int x2), some (.int x3), none, none], [.int x1])) (w' := (mk t s)) (ob := true) e_110 hk_110 1 rfl rfl ?_
    obtain ⟨q8, e9, h⟩ := Option.bind_eq_some_iff.mp h
    refine xu_calls (r := (some q8)) (av := [.int x1]) (st := []) (w1 := (mk t s)) e_110 hk_110 rfl rfl (m_M_inSram _ _ _ _ e9) rfl rfl rfl rfl ?_
    refine xu_if_eq e_110 hk_110 rfl (fun c10 => ?_) (fun c10 => ?_)
    · have h := xif_pos c10 h
      refine xOK_steps (fr' := (27, [some (.ref 27), some (.int x1), some (.int x2), some (.int x3), none, none], [.int x1])) (w' := (mk t s)) (ob := true) e_110 hk_110 1 rfl rfl ?_
      obtain ⟨q11, e12, h⟩ := Option.bind_eq_some_iff.mp h
      refine xu_calls (r := (some q11)) (av := [.int x1]) (st := []) (w1 := (mk t s)) e_110 hk_110 rfl rfl (m_M_inFram _ _ _ _ e12) rfl rfl rfl rfl ?_
      refine xu_if_eq e_110 hk_110 rfl (fun c13 => ?_) (fun c13 => ?_)
      · have h := xif_pos c13 h
        refine xOK_steps (fr' := (54, [some (.ref 27), some (.int x1), some (.int x2), some (.int x3), none, none], [.int (18 : Int32), .int x1])) (w' := (mk t s)) (ob := true) e_110 hk_110 2 rfl rfl ?_
        refine xu_icmp_eq e_110 hk_110 rfl (fun c14 => ?_) (fun c14 => ?_)
        · have h := xif_pos c14 h
          refine xOK_fg [1, 3] ?_
          exact t_M_store_107 t q _ _ h
        · have h := xif_neg c14 h
          refine xOK_steps (fr' := (57, [some (.ref 27), some (.int x1), some (.int x2), some (.int x3), none, none], [.int (19 : Int32), .int x1])) (w' := (mk t s)) (ob := true) e_110 hk_110 2 rfl rfl ?_
          refine xu_icmp_ne e_110 hk_110 rfl (fun c15 => ?_) (fun c15 => ?_)
          · have h := xif_neg c15 h
            refine xOK_steps (fr' := (80, [some (.ref 27), some (.int x1), some (.int x2), some (.int x3), none, none], [.int (20 : Int32), .int x1])) (w' := (mk t s)) (ob := true) e_110 hk_110 2 rfl rfl ?_
            refine xu_icmp_eq e_110 hk_110 rfl (fun c16 => ?_) (fun c16 => ?_)
            · have h := xif_pos c16 h
              refine xOK_fg [1, 2, 3] ?_
              exact t_M_store_157 t q  _ h
            · have h := xif_neg c16 h
              refine xOK_steps (fr' := (83, [some (.ref 27), some (.int x1), some (.int x2), some (.int x3), none, none], [.int (21 : Int32), .int x1])) (w' := (mk t s)) (ob := true) e_110 hk_110 2 rfl rfl ?_
              refine xu_icmp_ne e_110 hk_110 rfl (fun c17 => ?_) (fun c17 => ?_)
              · have h := xif_neg c17 h
                refine xOK_fg [0, 1, 2, 3] ?_
                exact t_M_store_162 t q  _ h
              · have h := xif_pos c17 h
                refine xOK_fg [1, 2, 3] ?_
                exact t_M_store_157 t q  _ h
          · have h := xif_pos c15 h
            refine xOK_fg [1, 3] ?_
            exact t_M_store_107 t q _ _ h
      · have h := xif_neg c13 h
        refine xOK_steps (fr' := (36, [some (.ref 27), some (.int x1), some (.int x2), some (.int x3), some (.int ((x1 - (1024 : Int32)) / (2 : Int32))), none], [.int x3])) (w' := (mk t s)) (ob := true) e_110 hk_110 7 rfl rfl ?_
        refine xu_if_eq e_110 hk_110 rfl (fun c18 => ?_) (fun c18 => ?_)
        · have h := xif_pos c18 h
          refine xOK_steps (fr' := (42, [some (.ref 27), some (.int x1), some (.int x2), some (.int x3), some (.int ((x1 - (1024 : Int32)) / (2 : Int32))), none], [.int (0 : Int32)])) (w' := (mk t s)) (ob := true) e_110 hk_110 1 rfl rfl ?_
          exact t_M_store_76 t q _ _ _ _ _ _ h
        · have h := xif_neg c18 h
          refine xOK_steps (fr' := (39, [some (.ref 27), some (.int x1), some (.int x2), some (.int x3), some (.int ((x1 - (1024 : Int32)) / (2 : Int32))), none], [.int x1, .ref 27])) (w' := (mk t s)) (ob := true) e_110 hk_110 2 rfl rfl ?_
          obtain ⟨q19, e20, h⟩ := Option.bind_eq_some_iff.mp h
          refine xu_callv (q := 27) (r := (some q19.1)) (av := [.int x1]) (st := []) (w1 := (mk t q19.2)) e_110 hk_110 rfl (m_M_plain _ _ _ _ e20) rfl rfl rfl rfl rfl ?_
          refine xOK_steps (fr' := (42, [some (.ref 27), some (.int x1), some (.int x2), some (.int x3), some (.int ((x1 - (1024 : Int32)) / (2 : Int32))), none], [.int q19.1])) (w' := (mk t q19.2)) (ob := true) e_110 hk_110 1 rfl rfl ?_
          exact t_M_store_76 t q _ _ _ _ _ _ h
    · have h := xif_neg c10 h
      by_cases o21 : xin ((x1 - (512 : Int32)) / (2 : Int32)) 16 = true
      case neg => have h := xif_neg o21 h; cases h
      have h := xif_pos o21 h
      refine xOK_steps (fr' := (23, [some (.ref 27), some (.int x1), some (.int x2), some (.int x3), some (.int ((x1 - (512 : Int32)) / (2 : Int32))), none], [.int x3, .int x2, .int x1, .int ((s.2 1) ((x1 - (512 : Int32)) / (2 : Int32)).toNatClampNeg), .int ((x1 - (512 : Int32)) / (2 : Int32)), .ref 29])) (w' := (mk t s)) (ob := xin ((x1 - (512 : Int32)) / (2 : Int32)) 16 && (true)) e_110 hk_110 16 rfl (xand o21 rfl) ?_
      obtain ⟨q22, e23, h⟩ := Option.bind_eq_some_iff.mp h
      refine xu_calls (r := (some q22)) (av := [.int ((s.2 1) ((x1 - (512 : Int32)) / (2 : Int32)).toNatClampNeg), .int x1, .int x2, .int x3]) (st := [.int ((x1 - (512 : Int32)) / (2 : Int32)), .ref 29]) (w1 := (mk t s)) e_110 hk_110 rfl rfl (m_M_merged _ _ _ _ _ _ _ e23) rfl rfl rfl rfl ?_
      by_cases o24 : xin ((x1 - (512 : Int32)) / (2 : Int32)) 16 = true
      case neg => have h := xif_neg o24 h; cases h
      have h := xif_pos o24 h
      refine xOK_steps (fr' := (87, [some (.ref 27), some (.int x1), some (.int x2), some (.int x3), some (.int ((x1 - (512 : Int32)) / (2 : Int32))), none], [])) (w' := (mk t (xsa s 1 ((x1 - (512 : Int32)) / (2 : Int32)).toNatClampNeg q22))) (ob := xin ((x1 - (512 : Int32)) / (2 : Int32)) 16 && (true)) e_110 hk_110 2 rfl (xand o24 rfl) ?_
      refine xOK_fg [0, 1, 2, 3, 4] ?_
      exact t_M_store_162 t q  _ h
  · have h := xif_pos c7 h
    cases h
    exact xu_vret e_110 hk_110 rfl rfl
set_option maxRecDepth 100000 in
set_option maxHeartbeats 4000000 in
theorem t_M_put_41 (t : xS) (q : xS) (y1 y2 : Int32) (s : xS) (h : f_M_put_41 y1 y2 s = some q) : xOK 113 none (xEnd 113 none (mk t q)) (25, [none, none, none], [.int y2, .int y1, .ref 28]) (mk t s) 0 0 := by
  unfold f_M_put_41 at h
  by_cases o1 : xin y1 16 = true
  case neg => have h := xif_neg o1 h; cases h
  have h := xif_pos o1 h
  refine xOK_steps (fr' := (26, [none, none, none], [])) (w' := (mk t (xsa s 0 (y1).toNatClampNeg y2))) (ob := xin y1 16 && (true)) e_113 hk_113 1 rfl (xand o1 rfl) ?_
  cases h
  exact xu_vret e_113 hk_113 rfl rfl
set_option maxRecDepth 100000 in
set_option maxHeartbeats 4000000 in
theorem m_M_put (x1 x2 : Int32) (s t : xS) (q : xS) (h : f_M_put x1 x2 s = some q) : xMet 113 [.ref 27, .int x1, .int x2] (mk t s) none (mk t q) := by
  refine xMet_of hk_113 rfl rfl rfl ?_
  refine xOK_eq (fr := (0, [some (.ref 27), some (.int x1), some (.int x2)], [])) rfl ?_
  unfold f_M_put at h
  refine xOK_steps (fr' := (5, [some (.ref 27), some (.int x1), some (.int x2)], [.int (2 : Int32), .int x1, .int x1, .ref 28])) (w' := (mk t s)) (ob := true) e_113 hk_113 5 rfl rfl ?_
  refine xu_icmp_ge e_113 hk_113 rfl (fun c2 => ?_) (fun c2 => ?_)
  · have h := xif_pos c2 h
    refine xOK_steps (fr' := (14, [some (.ref 27), some (.int x1), some (.int x2)], [.int (2 : Int32), .int x1, .int x1, .ref 28])) (w' := (mk t s)) (ob := true) e_113 hk_113 2 rfl rfl ?_
    refine xu_icmp_ne e_113 hk_113 rfl (fun c3 => ?_) (fun c3 => ?_)
    · have h := xif_neg c3 h
      refine xOK_steps (fr' := (21, [some (.ref 27), some (.int x1), some (.int x2)], [.int (3 : Int32), .int x1, .int x1, .ref 28])) (w' := (mk t s)) (ob := true) e_113 hk_113 2 rfl rfl ?_
      refine xu_icmp_ne e_113 hk_113 rfl (fun c4 => ?_) (fun c4 => ?_)
      · have h := xif_neg c4 h
        refine xOK_steps (fr' := (25, [some (.ref 27), some (.int x1), some (.int x2)], [.int x2, .int x1, .ref 28])) (w' := (mk t s)) (ob := true) e_113 hk_113 1 rfl rfl ?_
        refine xOK_fg [0, 1, 2] ?_
        exact t_M_put_41 t q _ _ _ h
      · have h := xif_pos c4 h
        refine xOK_steps (fr' := (25, [some (.ref 27), some (.int x1), some (.int x2)], [.int (0 : Int32), .int x1, .ref 28])) (w' := (mk t s)) (ob := true) e_113 hk_113 2 rfl rfl ?_
        refine xOK_fg [0, 1, 2] ?_
        exact t_M_put_41 t q _ _ _ h
    · have h := xif_pos c3 h
      refine xOK_steps (fr' := (25, [some (.ref 27), some (.int x1), some (.int x2)], [.int (x2 &&& (263 : Int32)), .int x1, .ref 28])) (w' := (mk t s)) (ob := true) e_113 hk_113 4 rfl rfl ?_
      refine xOK_fg [0, 1, 2] ?_
      exact t_M_put_41 t q _ _ _ h
  · have h := xif_neg c2 h
    refine xOK_steps (fr' := (25, [some (.ref 27), some (.int x1), some (.int x2)], [.int ((x2 / (2 : Int32)) * (2 : Int32)), .int x1, .ref 28])) (w' := (mk t s)) (ob := true) e_113 hk_113 6 rfl rfl ?_
    refine xOK_fg [0, 1, 2] ?_
    exact t_M_put_41 t q _ _ _ h
set_option maxRecDepth 100000 in
set_option maxHeartbeats 4000000 in
theorem t_M_back_38 (t : xS) (q : xS) (s : xS) (h : f_M_back_38  s = some q) : xOK 117 none (xEnd 117 none (mk t q)) (20, [none, none, none], []) (mk t s) 0 0 := by
  unfold f_M_back_38 at h
  cases h
  exact xu_vret e_117 hk_117 rfl rfl
set_option maxRecDepth 100000 in
set_option maxHeartbeats 4000000 in
theorem m_M_back (x1 x2 : Int32) (s t : xS) (q : xS) (h : f_M_back x1 x2 s = some q) : xMet 117 [.ref 27, .int x1, .int x2] (mk t s) none (mk t q) := by
  refine xMet_of hk_117 rfl rfl rfl ?_
  refine xOK_eq (fr := (0, [some (.ref 27), some (.int x1), some (.int x2)], [])) rfl ?_
  unfold f_M_back at h
  refine xOK_steps (fr' := (3, [some (.ref 27), some (.int x1), some (.int x2)], [.int (1 : Int32), .int (s.1 20)])) (w' := (mk t s)) (ob := true) e_117 hk_117 3 rfl rfl ?_
  refine xu_icmp_ne e_117 hk_117 rfl (fun c1 => ?_) (fun c1 => ?_)
  · have h := xif_neg c1 h
    refine xOK_steps (fr' := (13, [some (.ref 27), some (.int x1), some (.int x2)], [.int (2 : Int32), .int (s.1 20)])) (w' := (mk t s)) (ob := true) e_117 hk_117 3 rfl rfl ?_
    refine xu_icmp_ne e_117 hk_117 rfl (fun c2 => ?_) (fun c2 => ?_)
    · have h := xif_neg c2 h
      refine xOK_fg [0, 1, 2] ?_
      exact t_M_back_38 t q  _ h
    · have h := xif_pos c2 h
      refine xOK_steps (fr' := (19, [some (.ref 27), some (.int x1), some (.int x2)], [.int x2, .int x1, .int (s.1 21), .ref 27])) (w' := (mk t s)) (ob := true) e_117 hk_117 5 rfl rfl ?_
      obtain ⟨q3, e4, h⟩ := Option.bind_eq_some_iff.mp h
      refine xu_callv (q := 27) (r := none) (av := [.int (s.1 21), .int x1, .int x2]) (st := []) (w1 := (mk t q3)) e_117 hk_117 rfl (m_M_store _ _ _ _ _ _ e4) rfl rfl rfl rfl rfl ?_
      refine xOK_fg [0, 1, 2] ?_
      exact t_M_back_38 t q  _ h
  · have h := xif_pos c1 h
    refine xOK_steps (fr' := (8, [some (.ref 27), some (.int x1), some (.int x2)], [.int x1, .int (s.1 21), .ref 27])) (w' := (mk t s)) (ob := true) e_117 hk_117 4 rfl rfl ?_
    obtain ⟨q5, e6, h⟩ := Option.bind_eq_some_iff.mp h
    refine xu_callv (q := 27) (r := none) (av := [.int (s.1 21), .int x1]) (st := []) (w1 := (mk t q5)) e_117 hk_117 rfl (m_M_put _ _ _ _ _ e6) rfl rfl rfl rfl rfl ?_
    refine xOK_steps (fr' := (20, [some (.ref 27), some (.int x1), some (.int x2)], [])) (w' := (mk t q5)) (ob := true) e_117 hk_117 1 rfl rfl ?_
    refine xOK_fg [0, 1, 2] ?_
    exact t_M_back_38 t q  _ h
set_option maxRecDepth 100000 in
set_option maxHeartbeats 4000000 in
theorem t_M_flags_33 (t : xS) (q : xS) (x1 x2 x5 y0 : Int32) (s : xS) (h : f_M_flags_33 x1 x2 x5 y0 s = some q) : xOK 118 none (xEnd 118 none (mk t q)) (16, [some (.ref 27), some (.int x1), some (.int x2), none, none, some (.int x5), none], [.int y0]) (mk t s) 0 0 := by
  unfold f_M_flags_33 at h
  refine xOK_steps (fr' := (30, [some (.ref 27), some (.int x1), some (.int x2), none, none, some (.int x5), some (.int y0)], [])) (w' := (mk t (xsa s 0 2 (((x1 + x5) + y0) + ((256 : Int32) * x2))))) (ob := true) e_118 hk_118 14 rfl rfl ?_
  cases h
  exact xu_vret e_118 hk_118 rfl rfl
set_option maxRecDepth 100000 in
set_option maxHeartbeats 4000000 in
theorem t_M_flags_25 (t : xS) (q : xS) (x1 x2 x5 y0 y1 : Int32) (s : xS) (h : f_M_flags_25 x1 x2 x5 y0 y1 s = some q) : xOK 118 none (xEnd 118 none (mk t q)) (12, [some (.ref 27), some (.int x1), some (.int x2), none, none, some (.int x5), none], [.int y1, .int y0]) (mk t s) 0 0 := by
  unfold f_M_flags_25 at h
  refine xu_icmp_lt e_118 hk_118 rfl (fun c1 => ?_) (fun c1 => ?_)
  · have h := xif_pos c1 h
    refine xOK_steps (fr' := (16, [some (.ref 27), some (.int x1), some (.int x2), none, none, some (.int x5), none], [.int (0 : Int32)])) (w' := (mk t s)) (ob := true) e_118 hk_118 1 rfl rfl ?_
    exact t_M_flags_33 t q _ _ _ _ _ h
  · have h := xif_neg c1 h
    refine xOK_steps (fr' := (16, [some (.ref 27), some (.int x1), some (.int x2), none, none, some (.int x5), none], [.int (4 : Int32)])) (w' := (mk t s)) (ob := true) e_118 hk_118 2 rfl rfl ?_
    exact t_M_flags_33 t q _ _ _ _ _ h
set_option maxRecDepth 100000 in
set_option maxHeartbeats 4000000 in
theorem t_M_flags_9 (t : xS) (q : xS) (x1 x2 x3 x4 y0 : Int32) (s : xS) (h : f_M_flags_9 x1 x2 x3 x4 y0 s = some q) : xOK 118 none (xEnd 118 none (mk t q)) (5, [some (.ref 27), some (.int x1), some (.int x2), some (.int x3), some (.int x4), none, none], [.int y0]) (mk t s) 0 0 := by
  unfold f_M_flags_9 at h
  refine xOK_steps (fr' := (8, [some (.ref 27), some (.int x1), some (.int x2), some (.int x3), some (.int x4), some (.int y0), none], [.int x4, .int x3])) (w' := (mk t s)) (ob := true) e_118 hk_118 3 rfl rfl ?_
  refine xu_if_eq e_118 hk_118 rfl (fun c2 => ?_) (fun c2 => ?_)
  · have h := xif_pos c2 h
    refine xOK_steps (fr' := (12, [some (.ref 27), some (.int x1), some (.int x2), some (.int x3), some (.int x4), some (.int y0), none], [.int (32768 : Int32), .int x3])) (w' := (mk t s)) (ob := true) e_118 hk_118 1 rfl rfl ?_
    refine xOK_fg [3, 4] ?_
    exact t_M_flags_25 t q _ _ _ _ _ _ h
  · have h := xif_neg c2 h
    refine xOK_steps (fr' := (12, [some (.ref 27), some (.int x1), some (.int x2), some (.int x3), some (.int x4), some (.int y0), none], [.int (128 : Int32), .int x3])) (w' := (mk t s)) (ob := true) e_118 hk_118 2 rfl rfl ?_
    refine xOK_fg [3, 4] ?_
    exact t_M_flags_25 t q _ _ _ _ _ _ h
set_option maxRecDepth 100000 in
set_option maxHeartbeats 4000000 in
theorem m_M_flags (x1 x2 x3 x4 : Int32) (s t : xS) (q : xS) (h : f_M_flags x1 x2 x3 x4 s = some q) : xMet 118 [.ref 27, .int x1, .int x2, .int x3, .int x4] (mk t s) none (mk t q) := by
  refine xMet_of hk_118 rfl rfl rfl ?_
  refine xOK_eq (fr := (0, [some (.ref 27), some (.int x1), some (.int x2), some (.int x3), some (.int x4), none, none], [])) rfl ?_
  unfold f_M_flags at h
  refine xOK_steps (fr' := (1, [some (.ref 27), some (.int x1), some (.int x2), some (.int x3), some (.int x4), none, none], [.int x3])) (w' := (mk t s)) (ob := true) e_118 hk_118 1 rfl rfl ?_
  refine xu_if_ne e_118 hk_118 rfl (fun c3 => ?_) (fun c3 => ?_)
  · have h := xif_neg c3 h
    refine xOK_steps (fr' := (5, [some (.ref 27), some (.int x1), some (.int x2), some (.int x3), some (.int x4), none, none], [.int (0 : Int32)])) (w' := (mk t s)) (ob := true) e_118 hk_118 1 rfl rfl ?_
    exact t_M_flags_9 t q _ _ _ _ _ _ h
  · have h := xif_pos c3 h
    refine xOK_steps (fr' := (5, [some (.ref 27), some (.int x1), some (.int x2), some (.int x3), some (.int x4), none, none], [.int (2 : Int32)])) (w' := (mk t s)) (ob := true) e_118 hk_118 2 rfl rfl ?_
    exact t_M_flags_9 t q _ _ _ _ _ _ h
set_option maxRecDepth 100000 in
set_option maxHeartbeats 4000000 in
theorem t_M_silent_25 (t : xS) (q : (Int32 × xS)) (y0 : Int32) (s : xS) (h : f_M_silent_25 y0 s = some q) : xOK 123 none (xEnd 123 (some q.1) (mk t q.2)) (13, [none, none], [.int y0]) (mk t s) 0 0 := by
  unfold f_M_silent_25 at h
  by_cases o1 : xbl y0 = true
  case neg => have h := xif_neg o1 h; cases h
  have h := xif_pos o1 h
  cases h
  exact xu_iret e_123 hk_123 rfl o1 rfl
set_option maxRecDepth 100000 in
set_option maxHeartbeats 4000000 in
theorem t_M_silent_24 (t : xS) (q : (Int32 × xS)) (s : xS) (h : f_M_silent_24  s = some q) : xOK 123 none (xEnd 123 (some q.1) (mk t q.2)) (12, [none, none], []) (mk t s) 0 0 := by
  unfold f_M_silent_24 at h
  refine xOK_steps (fr' := (13, [none, none], [.int (0 : Int32)])) (w' := (mk t s)) (ob := true) e_123 hk_123 1 rfl rfl ?_
  exact t_M_silent_25 t q _ _ h
set_option maxRecDepth 100000 in
set_option maxHeartbeats 4000000 in
theorem m_M_silent (x1 : Int32) (s t : xS) (q : (Int32 × xS)) (h : f_M_silent x1 s = some q) : xMet 123 [.ref 27, .int x1] (mk t s) (some q.1) (mk t q.2) := by
  refine xMet_of hk_123 rfl rfl rfl ?_
  refine xOK_eq (fr := (0, [some (.ref 27), some (.int x1)], [])) rfl ?_
  unfold f_M_silent at h
  refine xOK_steps (fr' := (1, [some (.ref 27), some (.int x1)], [.int x1])) (w' := (mk t s)) (ob := true) e_123 hk_123 1 rfl rfl ?_
  refine xu_if_eq e_123 hk_123 rfl (fun c2 => ?_) (fun c2 => ?_)
  · have h := xif_pos c2 h
    refine xOK_fg [0, 1] ?_
    exact t_M_silent_24 t q  _ h
  · have h := xif_neg c2 h
    refine xOK_steps (fr' := (5, [some (.ref 27), some (.int x1)], [.int (1 : Int32), .int (s.1 20)])) (w' := (mk t s)) (ob := true) e_123 hk_123 3 rfl rfl ?_
    refine xu_icmp_ne e_123 hk_123 rfl (fun c3 => ?_) (fun c3 => ?_)
    · have h := xif_neg c3 h
      refine xOK_fg [0, 1] ?_
      exact t_M_silent_24 t q  _ h
    · have h := xif_pos c3 h
      refine xOK_steps (fr' := (9, [some (.ref 27), some (.int x1)], [.int (2 : Int32), .int (s.1 21)])) (w' := (mk t s)) (ob := true) e_123 hk_123 3 rfl rfl ?_
      refine xu_icmp_ne e_123 hk_123 rfl (fun c4 => ?_) (fun c4 => ?_)
      · have h := xif_neg c4 h
        refine xOK_fg [0, 1] ?_
        exact t_M_silent_24 t q  _ h
      · have h := xif_pos c4 h
        refine xOK_steps (fr' := (13, [some (.ref 27), some (.int x1)], [.int (1 : Int32)])) (w' := (mk t s)) (ob := true) e_123 hk_123 2 rfl rfl ?_
        refine xOK_fg [0, 1] ?_
        exact t_M_silent_25 t q _ _ h
set_option maxRecDepth 100000 in
set_option maxHeartbeats 4000000 in
theorem t_M_flag_16 (t : xS) (q : (Int32 × xS)) (y0 : Int32) (s : xS) (h : f_M_flag_16 y0 s = some q) : xOK 114 none (xEnd 114 (some q.1) (mk t q.2)) (10, [none, none], [.int y0]) (mk t s) 0 0 := by
  unfold f_M_flag_16 at h
  cases h
  exact xu_iret e_114 hk_114 rfl rfl rfl
set_option maxRecDepth 100000 in
set_option maxHeartbeats 4000000 in
theorem m_M_flag (x1 : Int32) (s t : xS) (q : (Int32 × xS)) (h : f_M_flag x1 s = some q) : xMet 114 [.ref 27, .int x1] (mk t s) (some q.1) (mk t q.2) := by
  refine xMet_of hk_114 rfl rfl rfl ?_
  refine xOK_eq (fr := (0, [some (.ref 27), some (.int x1)], [])) rfl ?_
  unfold f_M_flag at h
  refine xOK_steps (fr' := (6, [some (.ref 27), some (.int x1)], [.int (((s.2 0) 2) &&& x1)])) (w' := (mk t s)) (ob := true) e_114 hk_114 6 rfl rfl ?_
  refine xu_if_eq e_114 hk_114 rfl (fun c1 => ?_) (fun c1 => ?_)
  · have h := xif_pos c1 h
    refine xOK_steps (fr' := (10, [some (.ref 27), some (.int x1)], [.int (0 : Int32)])) (w' := (mk t s)) (ob := true) e_114 hk_114 1 rfl rfl ?_
    refine xOK_fg [0, 1] ?_
    exact t_M_flag_16 t q _ _ h
  · have h := xif_neg c1 h
    refine xOK_steps (fr' := (10, [some (.ref 27), some (.int x1)], [.int (1 : Int32)])) (w' := (mk t s)) (ob := true) e_114 hk_114 2 rfl rfl ?_
    refine xOK_fg [0, 1] ?_
    exact t_M_flag_16 t q _ _ h
set_option maxRecDepth 100000 in
set_option maxHeartbeats 4000000 in
theorem t_M_sense_109 (t : xS) (q : (Int32 × xS)) (x1 y1 : Int32) (s : xS) (h : f_M_sense_109 x1 y1 s = some q) : xOK 107 none (xEnd 107 (some q.1) (mk t q.2)) (62, [some (.ref 27), some (.int x1), none], [.int y1, .ref 27]) (mk t s) 0 0 := by
  unfold f_M_sense_109 at h
  refine xOK_steps (fr' := (64, [some (.ref 27), some (.int x1), none], [.ref 27])) (w' := (mk t (xsc s 12 y1))) (ob := true) e_107 hk_107 2 rfl rfl ?_
  obtain ⟨q1, e2, h⟩ := Option.bind_eq_some_iff.mp h
  refine xu_callv (q := 27) (r := (some q1.1)) (av := []) (st := []) (w1 := (mk t q1.2)) e_107 hk_107 rfl (m_M_write  _ _ _ e2) rfl rfl rfl rfl rfl ?_
  refine xu_if_ne e_107 hk_107 rfl (fun c3 => ?_) (fun c3 => ?_)
  · have h := xif_neg c3 h
    by_cases o4 : xin ((q1.2.1 2) - (1 : Int32)) 8 = true
    case neg => have h := xif_neg o4 h; cases h
    have h := xif_pos o4 h
    refine xOK_steps (fr' := (77, [some (.ref 27), some (.int x1), none], [.ref 27])) (w' := (mk t (xsa q1.2 12 ((q1.2.1 2) - (1 : Int32)).toNatClampNeg x1))) (ob := xin ((q1.2.1 2) - (1 : Int32)) 8 && (true)) e_107 hk_107 9 rfl (xand o4 rfl) ?_
    obtain ⟨q5, e6, h⟩ := Option.bind_eq_some_iff.mp h
    refine xu_callv (q := 27) (r := (some q5.1)) (av := []) (st := []) (w1 := (mk t q5.2)) e_107 hk_107 rfl (m_M_write  _ _ _ e6) rfl rfl rfl rfl rfl ?_
    refine xu_if_ne e_107 hk_107 rfl (fun c7 => ?_) (fun c7 => ?_)
    · have h := xif_neg c7 h
      refine xOK_steps (fr' := (86, [some (.ref 27), some (.int x1), none], [.int x1])) (w' := (mk t (xsc q5.2 11 (q5.2.1 2)))) (ob := true) e_107 hk_107 5 rfl rfl ?_
      cases h
      exact xu_iret e_107 hk_107 rfl rfl rfl
    · have h := xif_pos c7 h
      refine xOK_steps (fr' := (80, [some (.ref 27), some (.int x1), none], [.int (0 : Int32)])) (w' := (mk t q5.2)) (ob := true) e_107 hk_107 1 rfl rfl ?_
      cases h
      exact xu_iret e_107 hk_107 rfl rfl rfl
  · have h := xif_pos c3 h
    refine xOK_steps (fr' := (67, [some (.ref 27), some (.int x1), none], [.int (0 : Int32)])) (w' := (mk t q1.2)) (ob := true) e_107 hk_107 1 rfl rfl ?_
    cases h
    exact xu_iret e_107 hk_107 rfl rfl rfl
set_option maxRecDepth 100000 in
set_option maxHeartbeats 4000000 in
theorem t_M_sense_63 (t : xS) (q : (Int32 × xS)) : ∀ (n : Nat), ∀ (x1 x2 : Int32) (s : xS), f_M_sense_63 n x1 x2 s = some q → xOK 107 none (xEnd 107 (some q.1) (mk t q.2)) (36, [some (.ref 27), some (.int x1), some (.int x2)], []) (mk t s) 0 0 := by
  intro n
  induction n with
  | zero => intro x1 x2 s h; cases h
  | succ n ih =>
    intro x1 x2 s h
    unfold f_M_sense_63 at h
    refine xOK_steps (fr' := (39, [some (.ref 27), some (.int x1), some (.int x2)], [.int (s.1 12), .int x2])) (w' := (mk t s)) (ob := true) e_107 hk_107 3 rfl rfl ?_
    refine xu_icmp_ge e_107 hk_107 rfl (fun c8 => ?_) (fun c8 => ?_)
    · have h := xif_pos c8 h
      refine xOK_steps (fr' := (55, [some (.ref 27), some (.int x1), some (.int x2)], [.int (s.1 12), .ref 27])) (w' := (mk t s)) (ob := true) e_107 hk_107 3 rfl rfl ?_
      refine xu_if_le e_107 hk_107 rfl (fun c9 => ?_) (fun c9 => ?_)
      · have h := xif_pos c9 h
        refine xOK_steps (fr' := (62, [some (.ref 27), some (.int x1), some (.int x2)], [.int (0 : Int32), .ref 27])) (w' := (mk t s)) (ob := true) e_107 hk_107 1 rfl rfl ?_
        refine xOK_fg [2] ?_
        exact t_M_sense_109 t q _ _ _ h
      · have h := xif_neg c9 h
        refine xOK_steps (fr' := (62, [some (.ref 27), some (.int x1), some (.int x2)], [.int ((s.1 12) - (1 : Int32)), .ref 27])) (w' := (mk t s)) (ob := true) e_107 hk_107 5 rfl rfl ?_
        refine xOK_fg [2] ?_
        exact t_M_sense_109 t q _ _ _ h
    · have h := xif_neg c8 h
      by_cases o10 : xin x2 16 = true
      case neg => have h := xif_neg o10 h; cases h
      have h := xif_pos o10 h
      by_cases o11 : xin (x2 - (1 : Int32)) 16 = true
      case neg => have h := xif_neg o11 h; cases h
      have h := xif_pos o11 h
      refine xOK_steps (fr' := (36, [some (.ref 27), some (.int x1), some (.int (x2 + (1 : Int32)))], [])) (w' := (mk t (xsa s 13 (x2 - (1 : Int32)).toNatClampNeg ((s.2 13) (x2).toNatClampNeg)))) (ob := xin x2 16 && (xin (x2 - (1 : Int32)) 16 && (true))) e_107 hk_107 12 rfl (xand o10 (xand o11 rfl)) ?_
      exact ih _ _ _ h
set_option maxRecDepth 100000 in
set_option maxHeartbeats 4000000 in
theorem t_M_sense_60 (t : xS) (q : (Int32 × xS)) (y0 : Int32) (s : xS) (h : f_M_sense_60 y0 s = some q) : xOK 107 none (xEnd 107 (some q.1) (mk t q.2)) (33, [some (.ref 27), none, none], [.int y0]) (mk t s) 0 0 := by
  unfold f_M_sense_60 at h
  refine xOK_steps (fr' := (36, [some (.ref 27), some (.int y0), some (.int (1 : Int32))], [])) (w' := (mk t s)) (ob := true) e_107 hk_107 3 rfl rfl ?_
  exact t_M_sense_63 t q _ _ _ _ h
set_option maxRecDepth 100000 in
set_option maxHeartbeats 4000000 in
theorem m_M_sense (s t : xS) (q : (Int32 × xS)) (h : f_M_sense  s = some q) : xMet 107 [.ref 27] (mk t s) (some q.1) (mk t q.2) := by
  refine xMet_of hk_107 rfl rfl rfl ?_
  refine xOK_eq (fr := (0, [some (.ref 27), none, none], [])) rfl ?_
  unfold f_M_sense at h
  refine xOK_steps (fr' := (10, [some (.ref 27), none, none], [.int ((s.1 2) + (1 : Int32)), .int (s.1 11)])) (w' := (mk t (xsc s 2 ((s.1 2) + (1 : Int32))))) (ob := true) e_107 hk_107 10 rfl rfl ?_
  refine xu_icmp_lt e_107 hk_107 rfl (fun c12 => ?_) (fun c12 => ?_)
  · have h := xif_pos c12 h
    refine xOK_steps (fr' := (21, [some (.ref 27), none, none], [.int (s.1 15)])) (w' := (mk t (xsc s 2 ((s.1 2) + (1 : Int32))))) (ob := true) e_107 hk_107 2 rfl rfl ?_
    refine xu_if_ne e_107 hk_107 rfl (fun c13 => ?_) (fun c13 => ?_)
    · have h := xif_neg c13 h
      refine xOK_steps (fr' := (26, [some (.ref 27), none, none], [.int (s.1 12)])) (w' := (mk t (xsc s 2 ((s.1 2) + (1 : Int32))))) (ob := true) e_107 hk_107 2 rfl rfl ?_
      refine xu_if_le e_107 hk_107 rfl (fun c14 => ?_) (fun c14 => ?_)
      · have h := xif_pos c14 h
        refine xOK_steps (fr' := (33, [some (.ref 27), none, none], [.int (65535 : Int32)])) (w' := (mk t (xsc s 2 ((s.1 2) + (1 : Int32))))) (ob := true) e_107 hk_107 1 rfl rfl ?_
        exact t_M_sense_60 t q _ _ h
      · have h := xif_neg c14 h
        refine xOK_steps (fr' := (33, [some (.ref 27), none, none], [.int ((s.2 13) 0)])) (w' := (mk t (xsc s 2 ((s.1 2) + (1 : Int32))))) (ob := true) e_107 hk_107 5 rfl rfl ?_
        exact t_M_sense_60 t q _ _ h
    · have h := xif_pos c13 h
      refine xOK_steps (fr' := (23, [some (.ref 27), none, none], [.int (0 : Int32)])) (w' := (mk t (xsc s 2 ((s.1 2) + (1 : Int32))))) (ob := true) e_107 hk_107 1 rfl rfl ?_
      cases h
      exact xu_iret e_107 hk_107 rfl rfl rfl
  · have h := xif_neg c12 h
    by_cases o15 : xin (((s.1 2) + (1 : Int32)) - (1 : Int32)) 8 = true
    case neg => have h := xif_neg o15 h; cases h
    have h := xif_pos o15 h
    refine xOK_steps (fr' := (18, [some (.ref 27), none, none], [.int ((s.2 12) (((s.1 2) + (1 : Int32)) - (1 : Int32)).toNatClampNeg)])) (w' := (mk t (xsc s 2 ((s.1 2) + (1 : Int32))))) (ob := xin (((s.1 2) + (1 : Int32)) - (1 : Int32)) 8 && (true)) e_107 hk_107 7 rfl (xand o15 rfl) ?_
    cases h
    exact xu_iret e_107 hk_107 rfl rfl rfl
set_option maxRecDepth 100000 in
set_option maxHeartbeats 4000000 in
theorem t_M_loaded_52 (t : xS) (q : (Int32 × xS)) (y0 : Int32) (s : xS) (h : f_M_loaded_52 y0 s = some q) : xOK 108 none (xEnd 108 (some q.1) (mk t q.2)) (28, [none, none, none, none], [.int y0]) (mk t s) 0 0 := by
  unfold f_M_loaded_52 at h
  cases h
  exact xu_iret e_108 hk_108 rfl rfl rfl
set_option maxRecDepth 100000 in
set_option maxHeartbeats 4000000 in
theorem t_M_loaded_24 (t : xS) (q : (Int32 × xS)) (x1 x2 y0 : Int32) (s : xS) (h : f_M_loaded_24 x1 x2 y0 s = some q) : xOK 108 none (xEnd 108 (some q.1) (mk t q.2)) (12, [none, some (.int x1), some (.int x2), none], [.int y0]) (mk t s) 0 0 := by
  unfold f_M_loaded_24 at h
  refine xOK_steps (fr' := (14, [none, some (.int x1), some (.int x2), some (.int y0)], [.int x2])) (w' := (mk t s)) (ob := true) e_108 hk_108 2 rfl rfl ?_
  refine xu_if_ne e_108 hk_108 rfl (fun c1 => ?_) (fun c1 => ?_)
  · have h := xif_neg c1 h
    refine xOK_steps (fr' := (20, [none, some (.int x1), some (.int x2), some (.int y0)], [.int (xrem x1 (2 : Int32))])) (w' := (mk t s)) (ob := true) e_108 hk_108 3 rfl rfl ?_
    refine xu_if_ne e_108 hk_108 rfl (fun c2 => ?_) (fun c2 => ?_)
    · have h := xif_neg c2 h
      refine xOK_steps (fr' := (28, [none, some (.int x1), some (.int x2), some (.int y0)], [.int (y0 / (256 : Int32))])) (w' := (mk t s)) (ob := true) e_108 hk_108 3 rfl rfl ?_
      refine xOK_fg [1, 2, 3] ?_
      exact t_M_loaded_52 t q _ _ h
    · have h := xif_pos c2 h
      refine xOK_steps (fr' := (28, [none, some (.int x1), some (.int x2), some (.int y0)], [.int (xrem y0 (256 : Int32))])) (w' := (mk t s)) (ob := true) e_108 hk_108 4 rfl rfl ?_
      refine xOK_fg [1, 2, 3] ?_
      exact t_M_loaded_52 t q _ _ h
  · have h := xif_pos c1 h
    refine xOK_steps (fr' := (28, [none, some (.int x1), some (.int x2), some (.int y0)], [.int y0])) (w' := (mk t s)) (ob := true) e_108 hk_108 2 rfl rfl ?_
    refine xOK_fg [1, 2, 3] ?_
    exact t_M_loaded_52 t q _ _ h
set_option maxRecDepth 100000 in
set_option maxHeartbeats 4000000 in
theorem t_M_loaded_12 (t : xS) (q : (Int32 × xS)) (x1 x2 : Int32) (s : xS) (h : f_M_loaded_12 x1 x2 s = some q) : xOK 108 none (xEnd 108 (some q.1) (mk t q.2)) (6, [some (.ref 27), some (.int x1), some (.int x2), none], []) (mk t s) 0 0 := by
  unfold f_M_loaded_12 at h
  refine xOK_steps (fr' := (7, [some (.ref 27), some (.int x1), some (.int x2), none], [.ref 27])) (w' := (mk t s)) (ob := true) e_108 hk_108 1 rfl rfl ?_
  obtain ⟨q3, e4, h⟩ := Option.bind_eq_some_iff.mp h
  refine xu_callv (q := 27) (r := (some q3.1)) (av := []) (st := []) (w1 := (mk t q3.2)) e_108 hk_108 rfl (m_M_sense  _ _ _ e4) rfl rfl rfl rfl rfl ?_
  refine xOK_steps (fr' := (12, [some (.ref 27), some (.int x1), some (.int x2), none], [.int q3.1])) (w' := (mk t q3.2)) (ob := true) e_108 hk_108 1 rfl rfl ?_
  refine xOK_fg [0] ?_
  exact t_M_loaded_24 t q _ _ _ _ h
set_option maxRecDepth 100000 in
set_option maxHeartbeats 4000000 in
theorem m_M_loaded (x1 x2 : Int32) (s t : xS) (q : (Int32 × xS)) (h : f_M_loaded x1 x2 s = some q) : xMet 108 [.ref 27, .int x1, .int x2] (mk t s) (some q.1) (mk t q.2) := by
  refine xMet_of hk_108 rfl rfl rfl ?_
  refine xOK_eq (fr := (0, [some (.ref 27), some (.int x1), some (.int x2), none], [])) rfl ?_
  unfold f_M_loaded at h
  refine xOK_steps (fr' := (2, [some (.ref 27), some (.int x1), some (.int x2), none], [.int (16 : Int32), .int x1])) (w' := (mk t s)) (ob := true) e_108 hk_108 2 rfl rfl ?_
  refine xu_icmp_eq e_108 hk_108 rfl (fun c5 => ?_) (fun c5 => ?_)
  · have h := xif_pos c5 h
    exact t_M_loaded_12 t q _ _ _ h
  · have h := xif_neg c5 h
    refine xOK_steps (fr' := (5, [some (.ref 27), some (.int x1), some (.int x2), none], [.int (17 : Int32), .int x1])) (w' := (mk t s)) (ob := true) e_108 hk_108 2 rfl rfl ?_
    refine xu_icmp_ne e_108 hk_108 rfl (fun c6 => ?_) (fun c6 => ?_)
    · have h := xif_neg c6 h
      refine xOK_steps (fr' := (11, [some (.ref 27), some (.int x1), some (.int x2), none], [.int x1, .ref 27])) (w' := (mk t s)) (ob := true) e_108 hk_108 2 rfl rfl ?_
      obtain ⟨q7, e8, h⟩ := Option.bind_eq_some_iff.mp h
      refine xu_callv (q := 27) (r := (some q7.1)) (av := [.int x1]) (st := []) (w1 := (mk t q7.2)) e_108 hk_108 rfl (m_M_plain _ _ _ _ e8) rfl rfl rfl rfl rfl ?_
      refine xOK_fg [0] ?_
      exact t_M_loaded_24 t q _ _ _ _ h
    · have h := xif_pos c6 h
      exact t_M_loaded_12 t q _ _ _ h
set_option maxRecDepth 100000 in
set_option maxHeartbeats 4000000 in
theorem t_M_indexed_33 (t : xS) (q : (Int32 × xS)) (y0 : Int32) (s : xS) (h : f_M_indexed_33 y0 s = some q) : xOK 115 none (xEnd 115 (some q.1) (mk t q.2)) (19, [some (.ref 27), none, none, none], [.int y0]) (mk t s) 0 0 := by
  unfold f_M_indexed_33 at h
  refine xOK_steps (fr' := (21, [some (.ref 27), none, some (.int y0), none], [.ref 27])) (w' := (mk t s)) (ob := true) e_115 hk_115 2 rfl rfl ?_
  obtain ⟨q1, e2, h⟩ := Option.bind_eq_some_iff.mp h
  refine xu_callv (q := 27) (r := (some q1.1)) (av := []) (st := []) (w1 := (mk t q1.2)) e_115 hk_115 rfl (m_M_fetch  _ _ _ e2) rfl rfl rfl rfl rfl ?_
  refine xOK_steps (fr' := (28, [some (.ref 27), none, some (.int y0), some (.int q1.1)], [.int (xrem (q1.1 + y0) (65536 : Int32))])) (w' := (mk t q1.2)) (ob := true) e_115 hk_115 6 rfl rfl ?_
  cases h
  exact xu_iret e_115 hk_115 rfl rfl rfl
set_option maxRecDepth 100000 in
set_option maxHeartbeats 4000000 in
theorem t_M_indexed_23 (t : xS) (q : (Int32 × xS)) (s : xS) (h : f_M_indexed_23  s = some q) : xOK 115 none (xEnd 115 (some q.1) (mk t q.2)) (13, [some (.ref 27), none, none, none], []) (mk t s) 0 0 := by
  unfold f_M_indexed_23 at h
  refine xOK_steps (fr' := (19, [some (.ref 27), none, none, none], [.int (0 : Int32)])) (w' := (mk t s)) (ob := true) e_115 hk_115 2 rfl rfl ?_
  exact t_M_indexed_33 t q _ _ h
set_option maxRecDepth 100000 in
set_option maxHeartbeats 4000000 in
theorem m_M_indexed (x1 : Int32) (s t : xS) (q : (Int32 × xS)) (h : f_M_indexed x1 s = some q) : xMet 115 [.ref 27, .int x1] (mk t s) (some q.1) (mk t q.2) := by
  refine xMet_of hk_115 rfl rfl rfl ?_
  refine xOK_eq (fr := (0, [some (.ref 27), some (.int x1), none, none], [])) rfl ?_
  unfold f_M_indexed at h
  refine xOK_steps (fr' := (1, [some (.ref 27), some (.int x1), none, none], [.int x1])) (w' := (mk t s)) (ob := true) e_115 hk_115 1 rfl rfl ?_
  refine xu_if_ne e_115 hk_115 rfl (fun c3 => ?_) (fun c3 => ?_)
  · have h := xif_neg c3 h
    refine xOK_steps (fr' := (9, [some (.ref 27), some (.int x1), none, none], [.int (2 : Int32), .int x1])) (w' := (mk t s)) (ob := true) e_115 hk_115 2 rfl rfl ?_
    refine xu_icmp_eq e_115 hk_115 rfl (fun c4 => ?_) (fun c4 => ?_)
    · have h := xif_pos c4 h
      refine xOK_fg [1] ?_
      exact t_M_indexed_23 t q  _ h
    · have h := xif_neg c4 h
      refine xOK_steps (fr' := (12, [some (.ref 27), some (.int x1), none, none], [.int (3 : Int32), .int x1])) (w' := (mk t s)) (ob := true) e_115 hk_115 2 rfl rfl ?_
      refine xu_icmp_ne e_115 hk_115 rfl (fun c5 => ?_) (fun c5 => ?_)
      · have h := xif_neg c5 h
        by_cases o6 : xin x1 16 = true
        case neg => have h := xif_neg o6 h; cases h
        have h := xif_pos o6 h
        refine xOK_steps (fr' := (19, [some (.ref 27), some (.int x1), none, none], [.int ((s.2 0) (x1).toNatClampNeg)])) (w' := (mk t s)) (ob := xin x1 16 && (true)) e_115 hk_115 4 rfl (xand o6 rfl) ?_
        refine xOK_fg [1] ?_
        exact t_M_indexed_33 t q _ _ h
      · have h := xif_pos c5 h
        refine xOK_fg [1] ?_
        exact t_M_indexed_23 t q  _ h
  · have h := xif_pos c3 h
    refine xOK_steps (fr' := (19, [some (.ref 27), some (.int x1), none, none], [.int ((s.2 0) 0)])) (w' := (mk t s)) (ob := true) e_115 hk_115 5 rfl rfl ?_
    refine xOK_fg [1] ?_
    exact t_M_indexed_33 t q _ _ h
set_option maxRecDepth 100000 in
set_option maxHeartbeats 4000000 in
theorem t_M_operand_168 (t : xS) (q : (Int32 × xS)) (x6 : Int32) (s : xS) (h : f_M_operand_168 x6 s = some q) : xOK 116 none (xEnd 116 (some q.1) (mk t q.2)) (100, [none, none, none, none, none, none, some (.int x6)], []) (mk t s) 0 0 := by
  unfold f_M_operand_168 at h
  refine xOK_steps (fr' := (101, [none, none, none, none, none, none, some (.int x6)], [.int x6])) (w' := (mk t s)) (ob := true) e_116 hk_116 1 rfl rfl ?_
  cases h
  exact xu_iret e_116 hk_116 rfl rfl rfl
set_option maxRecDepth 100000 in
set_option maxHeartbeats 4000000 in
theorem t_M_operand_163 (t : xS) (q : (Int32 × xS)) (x6 y1 y2 y3 : Int32) (s : xS) (h : f_M_operand_163 x6 y1 y2 y3 s = some q) : xOK 116 none (xEnd 116 (some q.1) (mk t q.2)) (96, [none, none, none, none, none, none, some (.int x6)], [.int y3, .int y2, .int y1, .ref 28]) (mk t s) 0 0 := by
  unfold f_M_operand_163 at h
  by_cases o1 : xin y1 16 = true
  case neg => have h := xif_neg o1 h; cases h
  have h := xif_pos o1 h
  refine xOK_steps (fr' := (100, [none, none, none, none, none, none, some (.int x6)], [])) (w' := (mk t (xsa s 0 (y1).toNatClampNeg (xrem (y2 + y3) (65536 : Int32))))) (ob := xin y1 16 && (true)) e_116 hk_116 4 rfl (xand o1 rfl) ?_
  exact t_M_operand_168 t q _ _ h
set_option maxRecDepth 100000 in
set_option maxHeartbeats 4000000 in
theorem t_M_operand_162 (t : xS) (q : (Int32 × xS)) (x6 y1 y2 : Int32) (s : xS) (h : f_M_operand_162 x6 y1 y2 s = some q) : xOK 116 none (xEnd 116 (some q.1) (mk t q.2)) (95, [none, none, none, none, none, none, some (.int x6)], [.int y2, .int y1, .ref 28]) (mk t s) 0 0 := by
  unfold f_M_operand_162 at h
  refine xOK_steps (fr' := (96, [none, none, none, none, none, none, some (.int x6)], [.int (2 : Int32), .int y2, .int y1, .ref 28])) (w' := (mk t s)) (ob := true) e_116 hk_116 1 rfl rfl ?_
  exact t_M_operand_163 t q _ _ _ _ _ h
set_option maxRecDepth 100000 in
set_option maxHeartbeats 4000000 in
theorem t_M_operand_120 (t : xS) (q : (Int32 × xS)) (x1 x2 x3 y0 : Int32) (s : xS) (h : f_M_operand_120 x1 x2 x3 y0 s = some q) : xOK 116 none (xEnd 116 (some q.1) (mk t q.2)) (72, [some (.ref 27), some (.int x1), some (.int x2), some (.int x3), none, none, none], [.int y0]) (mk t s) 0 0 := by
  unfold f_M_operand_120 at h
  refine xOK_steps (fr' := (79, [some (.ref 27), some (.int x1), some (.int x2), some (.int x3), none, some (.int y0), none], [.int x3, .int y0, .ref 27])) (w' := (mk t (xsc s 21 y0))) (ob := true) e_116 hk_116 7 rfl rfl ?_
  obtain ⟨q2, e3, h⟩ := Option.bind_eq_some_iff.mp h
  refine xu_callv (q := 27) (r := (some q2.1)) (av := [.int y0, .int x3]) (st := []) (w1 := (mk t q2.2)) e_116 hk_116 rfl (m_M_loaded _ _ _ _ _ e3) rfl rfl rfl rfl rfl ?_
  refine xOK_steps (fr' := (83, [some (.ref 27), some (.int x1), some (.int x2), some (.int x3), none, some (.int y0), some (.int q2.1)], [.int (3 : Int32), .int x2])) (w' := (mk t q2.2)) (ob := true) e_116 hk_116 3 rfl rfl ?_
  refine xu_icmp_ne e_116 hk_116 rfl (fun c4 => ?_) (fun c4 => ?_)
  · have h := xif_neg c4 h
    refine xOK_fg [0, 1, 2, 3, 5] ?_
    exact t_M_operand_168 t q _ _ h
  · have h := xif_pos c4 h
    refine xOK_steps (fr' := (89, [some (.ref 27), some (.int x1), some (.int x2), some (.int x3), none, some (.int y0), some (.int q2.1)], [.int x3, .int y0, .int x1, .ref 28])) (w' := (mk t q2.2)) (ob := true) e_116 hk_116 5 rfl rfl ?_
    refine xu_if_eq e_116 hk_116 rfl (fun c5 => ?_) (fun c5 => ?_)
    · have h := xif_pos c5 h
      refine xOK_fg [0, 1, 2, 3, 5] ?_
      exact t_M_operand_162 t q _ _ _ _ h
    · have h := xif_neg c5 h
      refine xOK_steps (fr' := (92, [some (.ref 27), some (.int x1), some (.int x2), some (.int x3), none, some (.int y0), some (.int q2.1)], [.int (1 : Int32), .int x1, .int y0, .int x1, .ref 28])) (w' := (mk t q2.2)) (ob := true) e_116 hk_116 2 rfl rfl ?_
      refine xu_icmp_eq e_116 hk_116 rfl (fun c6 => ?_) (fun c6 => ?_)
      · have h := xif_pos c6 h
        refine xOK_fg [0, 1, 2, 3, 5] ?_
        exact t_M_operand_162 t q _ _ _ _ h
      · have h := xif_neg c6 h
        refine xOK_steps (fr' := (96, [some (.ref 27), some (.int x1), some (.int x2), some (.int x3), none, some (.int y0), some (.int q2.1)], [.int (1 : Int32), .int y0, .int x1, .ref 28])) (w' := (mk t q2.2)) (ob := true) e_116 hk_116 2 rfl rfl ?_
        refine xOK_fg [0, 1, 2, 3, 5] ?_
        exact t_M_operand_163 t q _ _ _ _ _ h
set_option maxRecDepth 100000 in
set_option maxHeartbeats 4000000 in
theorem t_M_operand_96 (t : xS) (q : (Int32 × xS)) (x1 x2 x3 : Int32) (s : xS) (h : f_M_operand_96 x1 x2 x3 s = some q) : xOK 116 none (xEnd 116 (some q.1) (mk t q.2)) (58, [some (.ref 27), some (.int x1), some (.int x2), some (.int x3), none, none, none], []) (mk t s) 0 0 := by
  unfold f_M_operand_96 at h
  refine xOK_steps (fr' := (63, [some (.ref 27), some (.int x1), some (.int x2), some (.int x3), none, none, none], [.int (1 : Int32), .int x2])) (w' := (mk t (xsc s 20 (2 : Int32)))) (ob := true) e_116 hk_116 5 rfl rfl ?_
  refine xu_icmp_ne e_116 hk_116 rfl (fun c7 => ?_) (fun c7 => ?_)
  · have h := xif_neg c7 h
    by_cases o8 : xin x1 16 = true
    case neg => have h := xif_neg o8 h; cases h
    have h := xif_pos o8 h
    refine xOK_steps (fr' := (72, [some (.ref 27), some (.int x1), some (.int x2), some (.int x3), none, none, none], [.int ((s.2 0) (x1).toNatClampNeg)])) (w' := (mk t (xsc s 20 (2 : Int32)))) (ob := xin x1 16 && (true)) e_116 hk_116 4 rfl (xand o8 rfl) ?_
    exact t_M_operand_120 t q _ _ _ _ _ h
  · have h := xif_pos c7 h
    refine xOK_steps (fr' := (66, [some (.ref 27), some (.int x1), some (.int x2), some (.int x3), none, none, none], [.int x1, .ref 27])) (w' := (mk t (xsc s 20 (2 : Int32)))) (ob := true) e_116 hk_116 2 rfl rfl ?_
    obtain ⟨q9, e10, h⟩ := Option.bind_eq_some_iff.mp h
    refine xu_callv (q := 27) (r := (some q9.1)) (av := [.int x1]) (st := []) (w1 := (mk t q9.2)) e_116 hk_116 rfl (m_M_indexed _ _ _ _ e10) rfl rfl rfl rfl rfl ?_
    refine xOK_steps (fr' := (72, [some (.ref 27), some (.int x1), some (.int x2), some (.int x3), none, none, none], [.int q9.1])) (w' := (mk t q9.2)) (ob := true) e_116 hk_116 1 rfl rfl ?_
    exact t_M_operand_120 t q _ _ _ _ _ h
set_option maxRecDepth 100000 in
set_option maxHeartbeats 4000000 in
theorem t_M_operand_55 (t : xS) (q : (Int32 × xS)) (x1 x2 x3 x4 : Int32) (s : xS) (h : f_M_operand_55 x1 x2 x3 x4 s = some q) : xOK 116 none (xEnd 116 (some q.1) (mk t q.2)) (33, [some (.ref 27), some (.int x1), some (.int x2), some (.int x3), some (.int x4), none, none], []) (mk t s) 0 0 := by
  unfold f_M_operand_55 at h
  refine xOK_steps (fr' := (34, [some (.ref 27), some (.int x1), some (.int x2), some (.int x3), some (.int x4), none, none], [.int x2])) (w' := (mk t s)) (ob := true) e_116 hk_116 1 rfl rfl ?_
  refine xu_if_ne e_116 hk_116 rfl (fun c11 => ?_) (fun c11 => ?_)
  · have h := xif_neg c11 h
    refine xOK_steps (fr' := (49, [some (.ref 27), some (.int x1), some (.int x2), some (.int x3), some (.int x4), none, none], [.int x1])) (w' := (mk t s)) (ob := true) e_116 hk_116 1 rfl rfl ?_
    refine xu_if_ne e_116 hk_116 rfl (fun c12 => ?_) (fun c12 => ?_)
    · have h := xif_neg c12 h
      refine xOK_fg [4] ?_
      exact t_M_operand_96 t q _ _ _ _ h
    · have h := xif_pos c12 h
      refine xOK_steps (fr' := (52, [some (.ref 27), some (.int x1), some (.int x2), some (.int x3), some (.int x4), none, none], [.int (3 : Int32), .int x2])) (w' := (mk t s)) (ob := true) e_116 hk_116 2 rfl rfl ?_
      refine xu_icmp_ne e_116 hk_116 rfl (fun c13 => ?_) (fun c13 => ?_)
      · have h := xif_neg c13 h
        refine xOK_fg [4] ?_
        exact t_M_operand_96 t q _ _ _ _ h
      · have h := xif_pos c13 h
        refine xOK_steps (fr' := (54, [some (.ref 27), some (.int x1), some (.int x2), some (.int x3), some (.int x4), none, none], [.ref 27])) (w' := (mk t s)) (ob := true) e_116 hk_116 1 rfl rfl ?_
        obtain ⟨q14, e15, h⟩ := Option.bind_eq_some_iff.mp h
        refine xu_callv (q := 27) (r := (some q14.1)) (av := []) (st := []) (w1 := (mk t q14.2)) e_116 hk_116 rfl (m_M_fetch  _ _ _ e15) rfl rfl rfl rfl rfl ?_
        by_cases o16 : (!(x4 == 0)) = true
        case neg => have h := xif_neg o16 h; cases h
        have h := xif_pos o16 h
        refine xOK_steps (fr' := (57, [some (.ref 27), some (.int x1), some (.int x2), some (.int x3), some (.int x4), none, none], [.int (xrem q14.1 x4)])) (w' := (mk t q14.2)) (ob := (!(x4 == 0)) && (true)) e_116 hk_116 2 rfl (xand o16 rfl) ?_
        cases h
        exact xu_iret e_116 hk_116 rfl rfl rfl
  · have h := xif_pos c11 h
    by_cases o17 : xin x1 16 = true
    case neg => have h := xif_neg o17 h; cases h
    have h := xif_pos o17 h
    by_cases o18 : (!(x4 == 0)) = true
    case neg => have h := xif_neg o18 h; cases h
    have h := xif_pos o18 h
    refine xOK_steps (fr' := (47, [some (.ref 27), some (.int x1), some (.int x2), some (.int x3), some (.int x4), none, none], [.int (xrem ((s.2 0) (x1).toNatClampNeg) x4)])) (w' := (mk t (xsc (xsc s 20 (1 : Int32)) 21 x1))) (ob := xin x1 16 && ((!(x4 == 0)) && (true))) e_116 hk_116 12 rfl (xand o17 (xand o18 rfl)) ?_
    cases h
    exact xu_iret e_116 hk_116 rfl rfl rfl
set_option maxRecDepth 100000 in
set_option maxHeartbeats 4000000 in
theorem t_M_operand_35 (t : xS) (q : (Int32 × xS)) (x4 y0 : Int32) (s : xS) (h : f_M_operand_35 x4 y0 s = some q) : xOK 116 none (xEnd 116 (some q.1) (mk t q.2)) (18, [none, none, none, none, some (.int x4), none, none], [.int y0]) (mk t s) 0 0 := by
  unfold f_M_operand_35 at h
  by_cases o19 : (!(x4 == 0)) = true
  case neg => have h := xif_neg o19 h; cases h
  have h := xif_pos o19 h
  refine xOK_steps (fr' := (20, [none, none, none, none, some (.int x4), none, none], [.int (xrem y0 x4)])) (w' := (mk t s)) (ob := (!(x4 == 0)) && (true)) e_116 hk_116 2 rfl (xand o19 rfl) ?_
  cases h
  exact xu_iret e_116 hk_116 rfl rfl rfl
set_option maxRecDepth 100000 in
set_option maxHeartbeats 4000000 in
theorem t_M_operand_12 (t : xS) (q : (Int32 × xS)) (x1 x2 x3 y0 : Int32) (s : xS) (h : f_M_operand_12 x1 x2 x3 y0 s = some q) : xOK 116 none (xEnd 116 (some q.1) (mk t q.2)) (5, [some (.ref 27), some (.int x1), some (.int x2), some (.int x3), none, none, none], [.int y0]) (mk t s) 0 0 := by
  unfold f_M_operand_12 at h
  refine xOK_steps (fr' := (11, [some (.ref 27), some (.int x1), some (.int x2), some (.int x3), some (.int y0), none, none], [.int (3 : Int32), .int x1])) (w' := (mk t (xsc s 20 (0 : Int32)))) (ob := true) e_116 hk_116 6 rfl rfl ?_
  refine xu_icmp_ne e_116 hk_116 rfl (fun c20 => ?_) (fun c20 => ?_)
  · have h := xif_neg c20 h
    refine xOK_steps (fr' := (23, [some (.ref 27), some (.int x1), some (.int x2), some (.int x3), some (.int y0), none, none], [.int (2 : Int32), .int x1])) (w' := (mk t (xsc s 20 (0 : Int32)))) (ob := true) e_116 hk_116 2 rfl rfl ?_
    refine xu_icmp_ne e_116 hk_116 rfl (fun c21 => ?_) (fun c21 => ?_)
    · have h := xif_neg c21 h
      exact t_M_operand_55 t q _ _ _ _ _ h
    · have h := xif_pos c21 h
      refine xOK_steps (fr' := (26, [some (.ref 27), some (.int x1), some (.int x2), some (.int x3), some (.int y0), none, none], [.int (1 : Int32), .int x2])) (w' := (mk t (xsc s 20 (0 : Int32)))) (ob := true) e_116 hk_116 2 rfl rfl ?_
      refine xu_icmp_le e_116 hk_116 rfl (fun c22 => ?_) (fun c22 => ?_)
      · have h := xif_pos c22 h
        exact t_M_operand_55 t q _ _ _ _ _ h
      · have h := xif_neg c22 h
        refine xOK_steps (fr' := (32, [some (.ref 27), some (.int x1), some (.int x2), some (.int x3), some (.int y0), none, none], [.int ((4 : Int32) * (x2 - (1 : Int32)))])) (w' := (mk t (xsc s 20 (0 : Int32)))) (ob := true) e_116 hk_116 5 rfl rfl ?_
        cases h
        exact xu_iret e_116 hk_116 rfl rfl rfl
  · have h := xif_pos c20 h
    refine xOK_steps (fr' := (14, [some (.ref 27), some (.int x1), some (.int x2), some (.int x3), some (.int y0), none, none], [.int (3 : Int32), .int x2])) (w' := (mk t (xsc s 20 (0 : Int32)))) (ob := true) e_116 hk_116 2 rfl rfl ?_
    refine xu_icmp_ne e_116 hk_116 rfl (fun c23 => ?_) (fun c23 => ?_)
    · have h := xif_neg c23 h
      refine xOK_steps (fr' := (18, [some (.ref 27), some (.int x1), some (.int x2), some (.int x3), some (.int y0), none, none], [.int x2])) (w' := (mk t (xsc s 20 (0 : Int32)))) (ob := true) e_116 hk_116 1 rfl rfl ?_
      refine xOK_fg [0, 1, 2, 3] ?_
      exact t_M_operand_35 t q _ _ _ h
    · have h := xif_pos c23 h
      refine xOK_steps (fr' := (18, [some (.ref 27), some (.int x1), some (.int x2), some (.int x3), some (.int y0), none, none], [.int (65535 : Int32)])) (w' := (mk t (xsc s 20 (0 : Int32)))) (ob := true) e_116 hk_116 2 rfl rfl ?_
      refine xOK_fg [0, 1, 2, 3] ?_
      exact t_M_operand_35 t q _ _ _ h
set_option maxRecDepth 100000 in
set_option maxHeartbeats 4000000 in
theorem m_M_operand (x1 x2 x3 : Int32) (s t : xS) (q : (Int32 × xS)) (h : f_M_operand x1 x2 x3 s = some q) : xMet 116 [.ref 27, .int x1, .int x2, .int x3] (mk t s) (some q.1) (mk t q.2) := by
  refine xMet_of hk_116 rfl rfl rfl ?_
  refine xOK_eq (fr := (0, [some (.ref 27), some (.int x1), some (.int x2), some (.int x3), none, none, none], [])) rfl ?_
  unfold f_M_operand at h
  refine xOK_steps (fr' := (1, [some (.ref 27), some (.int x1), some (.int x2), some (.int x3), none, none, none], [.int x3])) (w' := (mk t s)) (ob := true) e_116 hk_116 1 rfl rfl ?_
  refine xu_if_eq e_116 hk_116 rfl (fun c24 => ?_) (fun c24 => ?_)
  · have h := xif_pos c24 h
    refine xOK_steps (fr' := (5, [some (.ref 27), some (.int x1), some (.int x2), some (.int x3), none, none, none], [.int (65536 : Int32)])) (w' := (mk t s)) (ob := true) e_116 hk_116 1 rfl rfl ?_
    exact t_M_operand_12 t q _ _ _ _ _ h
  · have h := xif_neg c24 h
    refine xOK_steps (fr' := (5, [some (.ref 27), some (.int x1), some (.int x2), some (.int x3), none, none, none], [.int (256 : Int32)])) (w' := (mk t s)) (ob := true) e_116 hk_116 2 rfl rfl ?_
    exact t_M_operand_12 t q _ _ _ _ _ h
set_option maxRecDepth 100000 in
set_option maxHeartbeats 4000000 in
theorem t_M_one_331 (t : xS) (q : xS) (x3 x6 : Int32) (s : xS) (h : f_M_one_331 x3 x6 s = some q) : xOK 127 none (xEnd 127 none (mk t q)) (197, [some (.ref 27), none, none, some (.int x3), none, none, some (.int x6)], []) (mk t s) 0 0 := by
  unfold f_M_one_331 at h
  refine xOK_steps (fr' := (200, [some (.ref 27), none, none, some (.int x3), none, none, some (.int x6)], [.int x3, .int x6, .ref 27])) (w' := (mk t s)) (ob := true) e_127 hk_127 3 rfl rfl ?_
  obtain ⟨q1, e2, h⟩ := Option.bind_eq_some_iff.mp h
  refine xu_callv (q := 27) (r := none) (av := [.int x6, .int x3]) (st := []) (w1 := (mk t q1)) e_127 hk_127 rfl (m_M_back _ _ _ _ _ e2) rfl rfl rfl rfl rfl ?_
  cases h
  exact xu_vret e_127 hk_127 rfl rfl
set_option maxRecDepth 100000 in
set_option maxHeartbeats 4000000 in
theorem t_M_one_324 (t : xS) (q : xS) (x3 x6 y1 : Int32) (s : xS) (h : f_M_one_324 x3 x6 y1 s = some q) : xOK 127 none (xEnd 127 none (mk t q)) (193, [some (.ref 27), none, none, some (.int x3), none, none, some (.int x6)], [.int y1, .ref 27]) (mk t s) 0 0 := by
  unfold f_M_one_324 at h
  refine xOK_steps (fr' := (196, [some (.ref 27), none, none, some (.int x3), none, none, some (.int x6)], [.int x3, .int x6, .int (0 : Int32), .int y1, .ref 27])) (w' := (mk t s)) (ob := true) e_127 hk_127 3 rfl rfl ?_
  obtain ⟨q3, e4, h⟩ := Option.bind_eq_some_iff.mp h
  refine xu_callv (q := 27) (r := none) (av := [.int y1, .int (0 : Int32), .int x6, .int x3]) (st := []) (w1 := (mk t q3)) e_127 hk_127 rfl (m_M_flags _ _ _ _ _ _ _ e4) rfl rfl rfl rfl rfl ?_
  exact t_M_one_331 t q _ _ _ h
set_option maxRecDepth 100000 in
set_option maxHeartbeats 4000000 in
theorem t_M_one_286 (t : xS) (q : xS) (x1 x3 x4 y0 : Int32) (s : xS) (h : f_M_one_286 x1 x3 x4 y0 s = some q) : xOK 127 none (xEnd 127 none (mk t q)) (172, [some (.ref 27), some (.int x1), none, some (.int x3), some (.int x4), none, none], [.int y0]) (mk t s) 0 0 := by
  unfold f_M_one_286 at h
  refine xOK_steps (fr' := (175, [some (.ref 27), some (.int x1), none, some (.int x3), some (.int x4), none, some (.int y0)], [.int (1 : Int32), .int x1])) (w' := (mk t s)) (ob := true) e_127 hk_127 3 rfl rfl ?_
  refine xu_icmp_eq e_127 hk_127 rfl (fun c5 => ?_) (fun c5 => ?_)
  · have h := xif_pos c5 h
    refine xOK_fg [1, 4] ?_
    exact t_M_one_331 t q _ _ _ h
  · have h := xif_neg c5 h
    refine xOK_steps (fr' := (178, [some (.ref 27), some (.int x1), none, some (.int x3), some (.int x4), none, some (.int y0)], [.int (1 : Int32), .ref 27])) (w' := (mk t s)) (ob := true) e_127 hk_127 2 rfl rfl ?_
    obtain ⟨q6, e7, h⟩ := Option.bind_eq_some_iff.mp h
    refine xu_callv (q := 27) (r := (some q6.1)) (av := [.int (1 : Int32)]) (st := []) (w1 := (mk t q6.2)) e_127 hk_127 rfl (m_M_silent _ _ _ _ e7) rfl rfl rfl rfl rfl ?_
    refine xu_if_ne e_127 hk_127 rfl (fun c8 => ?_) (fun c8 => ?_)
    · have h := xif_neg c8 h
      refine xOK_fg [1, 4] ?_
      exact t_M_one_331 t q _ _ _ h
    · have h := xif_pos c8 h
      refine xOK_steps (fr' := (183, [some (.ref 27), some (.int x1), none, some (.int x3), some (.int x4), none, some (.int y0)], [.int (3 : Int32), .int x1, .ref 27])) (w' := (mk t q6.2)) (ob := true) e_127 hk_127 3 rfl rfl ?_
      refine xu_icmp_ne e_127 hk_127 rfl (fun c9 => ?_) (fun c9 => ?_)
      · have h := xif_neg c9 h
        refine xOK_steps (fr' := (193, [some (.ref 27), some (.int x1), none, some (.int x3), some (.int x4), none, some (.int y0)], [.int (xrem x4 (2 : Int32)), .ref 27])) (w' := (mk t q6.2)) (ob := true) e_127 hk_127 3 rfl rfl ?_
        refine xOK_fg [1, 4] ?_
        exact t_M_one_324 t q _ _ _ _ h
      · have h := xif_pos c9 h
        refine xOK_steps (fr' := (185, [some (.ref 27), some (.int x1), none, some (.int x3), some (.int x4), none, some (.int y0)], [.int y0, .ref 27])) (w' := (mk t q6.2)) (ob := true) e_127 hk_127 1 rfl rfl ?_
        refine xu_if_eq e_127 hk_127 rfl (fun c10 => ?_) (fun c10 => ?_)
        · have h := xif_pos c10 h
          refine xOK_steps (fr' := (193, [some (.ref 27), some (.int x1), none, some (.int x3), some (.int x4), none, some (.int y0)], [.int (0 : Int32), .ref 27])) (w' := (mk t q6.2)) (ob := true) e_127 hk_127 2 rfl rfl ?_
          refine xOK_fg [1, 4] ?_
          exact t_M_one_324 t q _ _ _ _ h
        · have h := xif_neg c10 h
          refine xOK_steps (fr' := (193, [some (.ref 27), some (.int x1), none, some (.int x3), some (.int x4), none, some (.int y0)], [.int (1 : Int32), .ref 27])) (w' := (mk t q6.2)) (ob := true) e_127 hk_127 2 rfl rfl ?_
          refine xOK_fg [1, 4] ?_
          exact t_M_one_324 t q _ _ _ _ h
set_option maxRecDepth 100000 in
set_option maxHeartbeats 4000000 in
theorem t_M_one_285 (t : xS) (q : xS) (x1 x3 x4 y0 y1 : Int32) (s : xS) (h : f_M_one_285 x1 x3 x4 y0 y1 s = some q) : xOK 127 none (xEnd 127 none (mk t q)) (171, [some (.ref 27), some (.int x1), none, some (.int x3), some (.int x4), none, none], [.int y1, .int y0]) (mk t s) 0 0 := by
  unfold f_M_one_285 at h
  refine xOK_steps (fr' := (172, [some (.ref 27), some (.int x1), none, some (.int x3), some (.int x4), none, none], [.int (y0 + y1)])) (w' := (mk t s)) (ob := true) e_127 hk_127 1 rfl rfl ?_
  exact t_M_one_286 t q _ _ _ _ _ h
set_option maxRecDepth 100000 in
set_option maxHeartbeats 4000000 in
theorem t_M_one_201 (t : xS) (q : xS) (s : xS) (h : f_M_one_201  s = some q) : xOK 127 none (xEnd 127 none (mk t q)) (127, [none, none, none, none, none, none, none], []) (mk t s) 0 0 := by
  unfold f_M_one_201 at h
  cases h
  exact xu_vret e_127 hk_127 rfl rfl
set_option maxRecDepth 100000 in
set_option maxHeartbeats 4000000 in
theorem t_M_one_185 (t : xS) (q : xS) (x1 x3 x4 y1 y2 : Int32) (s : xS) (h : f_M_one_185 x1 x3 x4 y1 y2 s = some q) : xOK 127 none (xEnd 127 none (mk t q)) (118, [some (.ref 27), some (.int x1), none, some (.int x3), some (.int x4), none, none], [.int y2, .int y1, .ref 27]) (mk t s) 0 0 := by
  unfold f_M_one_185 at h
  refine xOK_steps (fr' := (119, [some (.ref 27), some (.int x1), none, some (.int x3), some (.int x4), none, none], [.int x3, .int y2, .int y1, .ref 27])) (w' := (mk t s)) (ob := true) e_127 hk_127 1 rfl rfl ?_
  obtain ⟨q11, e12, h⟩ := Option.bind_eq_some_iff.mp h
  refine xu_callv (q := 27) (r := none) (av := [.int y1, .int y2, .int x3]) (st := []) (w1 := (mk t q11)) e_127 hk_127 rfl (m_M_store _ _ _ _ _ _ e12) rfl rfl rfl rfl rfl ?_
  refine xOK_steps (fr' := (122, [some (.ref 27), some (.int x1), none, some (.int x3), some (.int x4), none, none], [.int (5 : Int32), .int x1])) (w' := (mk t q11)) (ob := true) e_127 hk_127 2 rfl rfl ?_
  refine xu_icmp_ne e_127 hk_127 rfl (fun c13 => ?_) (fun c13 => ?_)
  · have h := xif_neg c13 h
    refine xOK_fg [0, 1, 3, 4] ?_
    exact t_M_one_201 t q  _ h
  · have h := xif_pos c13 h
    refine xOK_steps (fr' := (126, [some (.ref 27), some (.int x1), none, some (.int x3), some (.int x4), none, none], [.int x4, .int (0 : Int32), .ref 27])) (w' := (mk t q11)) (ob := true) e_127 hk_127 3 rfl rfl ?_
    obtain ⟨q14, e15, h⟩ := Option.bind_eq_some_iff.mp h
    refine xu_callv (q := 27) (r := none) (av := [.int (0 : Int32), .int x4]) (st := []) (w1 := (mk t q14)) e_127 hk_127 rfl (m_M_put _ _ _ _ _ e15) rfl rfl rfl rfl rfl ?_
    refine xOK_fg [0, 1, 3, 4] ?_
    exact t_M_one_201 t q  _ h
set_option maxRecDepth 100000 in
set_option maxHeartbeats 4000000 in
theorem t_M_one_137 (t : xS) (q : xS) (x1 x3 x4 y0 : Int32) (s : xS) (h : f_M_one_137 x1 x3 x4 y0 s = some q) : xOK 127 none (xEnd 127 none (mk t q)) (88, [some (.ref 27), some (.int x1), none, some (.int x3), some (.int x4), none, none], [.int y0]) (mk t s) 0 0 := by
  unfold f_M_one_137 at h
  refine xOK_steps (fr' := (91, [some (.ref 27), some (.int x1), none, some (.int x3), some (.int x4), some (.int y0), none], [.int (3 : Int32), .int x1])) (w' := (mk t s)) (ob := true) e_127 hk_127 3 rfl rfl ?_
  refine xu_icmp_le e_127 hk_127 rfl (fun c16 => ?_) (fun c16 => ?_)
  · have h := xif_pos c16 h
    refine xOK_steps (fr' := (130, [some (.ref 27), some (.int x1), none, some (.int x3), some (.int x4), some (.int y0), none], [.int (1 : Int32), .int x1])) (w' := (mk t s)) (ob := true) e_127 hk_127 2 rfl rfl ?_
    refine xu_icmp_ne e_127 hk_127 rfl (fun c17 => ?_) (fun c17 => ?_)
    · have h := xif_neg c17 h
      refine xOK_steps (fr' := (143, [some (.ref 27), some (.int x1), none, some (.int x3), some (.int x4), some (.int y0), none], [.int (3 : Int32), .int x1])) (w' := (mk t s)) (ob := true) e_127 hk_127 2 rfl rfl ?_
      refine xu_icmp_ne e_127 hk_127 rfl (fun c18 => ?_) (fun c18 => ?_)
      · have h := xif_neg c18 h
        refine xOK_steps (fr' := (158, [some (.ref 27), some (.int x1), none, some (.int x3), some (.int x4), some (.int y0), none], [.int x1, .int (x4 / (2 : Int32))])) (w' := (mk t s)) (ob := true) e_127 hk_127 4 rfl rfl ?_
        refine xu_if_ne e_127 hk_127 rfl (fun c19 => ?_) (fun c19 => ?_)
        · have h := xif_neg c19 h
          refine xOK_steps (fr' := (167, [some (.ref 27), some (.int x1), none, some (.int x3), some (.int x4), some (.int y0), none], [.int y0, .int x4, .int (x4 / (2 : Int32))])) (w' := (mk t s)) (ob := true) e_127 hk_127 2 rfl rfl ?_
          refine xu_icmp_lt e_127 hk_127 rfl (fun c20 => ?_) (fun c20 => ?_)
          · have h := xif_pos c20 h
            refine xOK_steps (fr' := (171, [some (.ref 27), some (.int x1), none, some (.int x3), some (.int x4), some (.int y0), none], [.int (0 : Int32), .int (x4 / (2 : Int32))])) (w' := (mk t s)) (ob := true) e_127 hk_127 1 rfl rfl ?_
            refine xOK_fg [5] ?_
            exact t_M_one_285 t q _ _ _ _ _ _ h
          · have h := xif_neg c20 h
            refine xOK_steps (fr' := (171, [some (.ref 27), some (.int x1), none, some (.int x3), some (.int x4), some (.int y0), none], [.int y0, .int (x4 / (2 : Int32))])) (w' := (mk t s)) (ob := true) e_127 hk_127 2 rfl rfl ?_
            refine xOK_fg [5] ?_
            exact t_M_one_285 t q _ _ _ _ _ _ h
        · have h := xif_pos c19 h
          refine xOK_steps (fr' := (161, [some (.ref 27), some (.int x1), none, some (.int x3), some (.int x4), some (.int y0), none], [.int (1 : Int32), .ref 27, .int (x4 / (2 : Int32))])) (w' := (mk t s)) (ob := true) e_127 hk_127 2 rfl rfl ?_
          obtain ⟨q21, e22, h⟩ := Option.bind_eq_some_iff.mp h
          refine xu_callv (q := 27) (r := (some q21.1)) (av := [.int (1 : Int32)]) (st := [.int (x4 / (2 : Int32))]) (w1 := (mk t q21.2)) e_127 hk_127 rfl (m_M_flag _ _ _ _ e22) rfl rfl rfl rfl rfl ?_
          refine xOK_steps (fr' := (171, [some (.ref 27), some (.int x1), none, some (.int x3), some (.int x4), some (.int y0), none], [.int (q21.1 * y0), .int (x4 / (2 : Int32))])) (w' := (mk t q21.2)) (ob := true) e_127 hk_127 3 rfl rfl ?_
          refine xOK_fg [5] ?_
          exact t_M_one_285 t q _ _ _ _ _ _ h
      · have h := xif_pos c18 h
        refine xOK_steps (fr' := (148, [some (.ref 27), some (.int x1), none, some (.int x3), some (.int x4), some (.int y0), none], [.int (256 : Int32), .int (xrem x4 (256 : Int32))])) (w' := (mk t s)) (ob := true) e_127 hk_127 4 rfl rfl ?_
        obtain ⟨q23, e24, h⟩ := Option.bind_eq_some_iff.mp h
        refine xu_calls (r := (some q23)) (av := [.int (xrem x4 (256 : Int32)), .int (256 : Int32)]) (st := []) (w1 := (mk t s)) e_127 hk_127 rfl rfl (m_M_signed _ _ _ _ _ e24) rfl rfl rfl rfl ?_
        refine xOK_steps (fr' := (172, [some (.ref 27), some (.int x1), none, some (.int x3), some (.int x4), some (.int y0), none], [.int (xrem (q23 + (65536 : Int32)) (65536 : Int32))])) (w' := (mk t s)) (ob := true) e_127 hk_127 5 rfl rfl ?_
        refine xOK_fg [5] ?_
        exact t_M_one_286 t q _ _ _ _ _ h
    · have h := xif_pos c17 h
      refine xOK_steps (fr' := (172, [some (.ref 27), some (.int x1), none, some (.int x3), some (.int x4), some (.int y0), none], [.int (((xrem x4 (256 : Int32)) * (256 : Int32)) + (x4 / (256 : Int32)))])) (w' := (mk t s)) (ob := true) e_127 hk_127 10 rfl rfl ?_
      refine xOK_fg [5] ?_
      exact t_M_one_286 t q _ _ _ _ _ h
  · have h := xif_neg c16 h
    refine xOK_steps (fr' := (111, [some (.ref 27), some (.int x1), none, some (.int x3), some (.int x4), some (.int y0), none], [.int (4 : Int32), .int x1, .int (((xsa s 0 1 (xrem (((s.2 0) 1) + (65534 : Int32)) (65536 : Int32))).2 0) 1), .ref 27])) (w' := (mk t (xsa s 0 1 (xrem (((s.2 0) 1) + (65534 : Int32)) (65536 : Int32))))) (ob := true) e_127 hk_127 19 rfl rfl ?_
    refine xu_icmp_ne e_127 hk_127 rfl (fun c25 => ?_) (fun c25 => ?_)
    · have h := xif_neg c25 h
      refine xOK_steps (fr' := (118, [some (.ref 27), some (.int x1), none, some (.int x3), some (.int x4), some (.int y0), none], [.int (((xsa s 0 1 (xrem (((s.2 0) 1) + (65534 : Int32)) (65536 : Int32))).2 0) 0), .int (((xsa s 0 1 (xrem (((s.2 0) 1) + (65534 : Int32)) (65536 : Int32))).2 0) 1), .ref 27])) (w' := (mk t (xsa s 0 1 (xrem (((s.2 0) 1) + (65534 : Int32)) (65536 : Int32))))) (ob := true) e_127 hk_127 4 rfl rfl ?_
      refine xOK_fg [5] ?_
      exact t_M_one_185 t q _ _ _ _ _ _ h
    · have h := xif_pos c25 h
      refine xOK_steps (fr' := (118, [some (.ref 27), some (.int x1), none, some (.int x3), some (.int x4), some (.int y0), none], [.int x4, .int (((xsa s 0 1 (xrem (((s.2 0) 1) + (65534 : Int32)) (65536 : Int32))).2 0) 1), .ref 27])) (w' := (mk t (xsa s 0 1 (xrem (((s.2 0) 1) + (65534 : Int32)) (65536 : Int32))))) (ob := true) e_127 hk_127 2 rfl rfl ?_
      refine xOK_fg [5] ?_
      exact t_M_one_185 t q _ _ _ _ _ _ h
set_option maxRecDepth 100000 in
set_option maxHeartbeats 4000000 in
theorem t_M_one_107 (t : xS) (q : xS) (x1 x2 y0 : Int32) (s : xS) (h : f_M_one_107 x1 x2 y0 s = some q) : xOK 127 none (xEnd 127 none (mk t q)) (70, [some (.ref 27), some (.int x1), some (.int x2), none, none, none, none], [.int y0]) (mk t s) 0 0 := by
  unfold f_M_one_107 at h
  refine xOK_steps (fr' := (81, [some (.ref 27), some (.int x1), some (.int x2), some (.int y0), none, none, none], [.int y0, .int (xrem (x2 / (16 : Int32)) (4 : Int32)), .int (xrem x2 (16 : Int32)), .ref 27])) (w' := (mk t s)) (ob := true) e_127 hk_127 11 rfl rfl ?_
  obtain ⟨q26, e27, h⟩ := Option.bind_eq_some_iff.mp h
  refine xu_callv (q := 27) (r := (some q26.1)) (av := [.int (xrem x2 (16 : Int32)), .int (xrem (x2 / (16 : Int32)) (4 : Int32)), .int y0]) (st := []) (w1 := (mk t q26.2)) e_127 hk_127 rfl (m_M_operand _ _ _ _ _ _ e27) rfl rfl rfl rfl rfl ?_
  refine xOK_steps (fr' := (84, [some (.ref 27), some (.int x1), some (.int x2), some (.int y0), some (.int q26.1), none, none], [.int y0])) (w' := (mk t q26.2)) (ob := true) e_127 hk_127 2 rfl rfl ?_
  refine xu_if_eq e_127 hk_127 rfl (fun c28 => ?_) (fun c28 => ?_)
  · have h := xif_pos c28 h
    refine xOK_steps (fr' := (88, [some (.ref 27), some (.int x1), some (.int x2), some (.int y0), some (.int q26.1), none, none], [.int (32768 : Int32)])) (w' := (mk t q26.2)) (ob := true) e_127 hk_127 1 rfl rfl ?_
    refine xOK_fg [2] ?_
    exact t_M_one_137 t q _ _ _ _ _ h
  · have h := xif_neg c28 h
    refine xOK_steps (fr' := (88, [some (.ref 27), some (.int x1), some (.int x2), some (.int y0), some (.int q26.1), none, none], [.int (128 : Int32)])) (w' := (mk t q26.2)) (ob := true) e_127 hk_127 2 rfl rfl ?_
    refine xOK_fg [2] ?_
    exact t_M_one_137 t q _ _ _ _ _ h
set_option maxRecDepth 100000 in
set_option maxHeartbeats 4000000 in
theorem t_M_one_106 (t : xS) (q : xS) (x1 x2 : Int32) (s : xS) (h : f_M_one_106 x1 x2 s = some q) : xOK 127 none (xEnd 127 none (mk t q)) (69, [some (.ref 27), some (.int x1), some (.int x2), none, none, none, none], []) (mk t s) 0 0 := by
  unfold f_M_one_106 at h
  refine xOK_steps (fr' := (70, [some (.ref 27), some (.int x1), some (.int x2), none, none, none, none], [.int (0 : Int32)])) (w' := (mk t s)) (ob := true) e_127 hk_127 1 rfl rfl ?_
  exact t_M_one_107 t q _ _ _ _ h
set_option maxRecDepth 100000 in
set_option maxHeartbeats 4000000 in
theorem m_M_one (x1 x2 : Int32) (s t : xS) (q : xS) (h : f_M_one x1 x2 s = some q) : xMet 127 [.ref 27, .int x1, .int x2] (mk t s) none (mk t q) := by
  refine xMet_of hk_127 rfl rfl rfl ?_
  refine xOK_eq (fr := (0, [some (.ref 27), some (.int x1), some (.int x2), none, none, none, none], [])) rfl ?_
  unfold f_M_one at h
  refine xOK_steps (fr' := (2, [some (.ref 27), some (.int x1), some (.int x2), none, none, none, none], [.int (7 : Int32), .int x1])) (w' := (mk t s)) (ob := true) e_127 hk_127 2 rfl rfl ?_
  refine xu_icmp_ne e_127 hk_127 rfl (fun c29 => ?_) (fun c29 => ?_)
  · have h := xif_neg c29 h
    refine xOK_steps (fr' := (6, [some (.ref 27), some (.int x1), some (.int x2), none, none, none, none], [.int (6 : Int32), .int x1])) (w' := (mk t s)) (ob := true) e_127 hk_127 2 rfl rfl ?_
    refine xu_icmp_ne e_127 hk_127 rfl (fun c30 => ?_) (fun c30 => ?_)
    · have h := xif_neg c30 h
      refine xOK_steps (fr' := (62, [some (.ref 27), some (.int x1), some (.int x2), none, none, none, none], [.int (1 : Int32), .int (xrem (x2 / (64 : Int32)) (2 : Int32))])) (w' := (mk t s)) (ob := true) e_127 hk_127 6 rfl rfl ?_
      refine xu_icmp_ne e_127 hk_127 rfl (fun c31 => ?_) (fun c31 => ?_)
      · have h := xif_neg c31 h
        exact t_M_one_106 t q _ _ _ h
      · have h := xif_pos c31 h
        refine xOK_steps (fr' := (66, [some (.ref 27), some (.int x1), some (.int x2), none, none, none, none], [.int (xrem x1 (2 : Int32))])) (w' := (mk t s)) (ob := true) e_127 hk_127 3 rfl rfl ?_
        refine xu_if_ne e_127 hk_127 rfl (fun c32 => ?_) (fun c32 => ?_)
        · have h := xif_neg c32 h
          exact t_M_one_106 t q _ _ _ h
        · have h := xif_pos c32 h
          refine xOK_steps (fr' := (70, [some (.ref 27), some (.int x1), some (.int x2), none, none, none, none], [.int (1 : Int32)])) (w' := (mk t s)) (ob := true) e_127 hk_127 2 rfl rfl ?_
          exact t_M_one_107 t q _ _ _ _ h
    · have h := xif_pos c30 h
      refine xOK_steps (fr' := (13, [some (.ref 27), some (.int x1), some (.int x2), none, none, none, none], [.int (0 : Int32), .int ((s.2 0) 1), .ref 27])) (w' := (mk t s)) (ob := true) e_127 hk_127 6 rfl rfl ?_
      obtain ⟨q33, e34, h⟩ := Option.bind_eq_some_iff.mp h
      refine xu_callv (q := 27) (r := (some q33.1)) (av := [.int ((s.2 0) 1), .int (0 : Int32)]) (st := []) (w1 := (mk t q33.2)) e_127 hk_127 rfl (m_M_loaded _ _ _ _ _ e34) rfl rfl rfl rfl rfl ?_
      refine xOK_steps (fr' := (18, [some (.ref 27), some (.int x1), some (.int x2), some (.int q33.1), none, none, none], [.int q33.1, .int (2 : Int32), .ref 27])) (w' := (mk t q33.2)) (ob := true) e_127 hk_127 4 rfl rfl ?_
      obtain ⟨q35, e36, h⟩ := Option.bind_eq_some_iff.mp h
      refine xu_callv (q := 27) (r := none) (av := [.int (2 : Int32), .int q33.1]) (st := []) (w1 := (mk t q35)) e_127 hk_127 rfl (m_M_put _ _ _ _ _ e36) rfl rfl rfl rfl rfl ?_
      refine xOK_steps (fr' := (37, [some (.ref 27), some (.int x1), some (.int x2), some (.int q33.1), none, none, none], [.int (0 : Int32), .int (((xsa q35 0 1 (xrem (((q35.2 0) 1) + (2 : Int32)) (65536 : Int32))).2 0) 1), .ref 27])) (w' := (mk t (xsa q35 0 1 (xrem (((q35.2 0) 1) + (2 : Int32)) (65536 : Int32))))) (ob := true) e_127 hk_127 18 rfl rfl ?_
      obtain ⟨q37, e38, h⟩ := Option.bind_eq_some_iff.mp h
      refine xu_callv (q := 27) (r := (some q37.1)) (av := [.int (((xsa q35 0 1 (xrem (((q35.2 0) 1) + (2 : Int32)) (65536 : Int32))).2 0) 1), .int (0 : Int32)]) (st := []) (w1 := (mk t q37.2)) e_127 hk_127 rfl (m_M_loaded _ _ _ _ _ e38) rfl rfl rfl rfl rfl ?_
      refine xOK_steps (fr' := (42, [some (.ref 27), some (.int x1), some (.int x2), some (.int q33.1), some (.int q37.1), none, none], [.int q37.1, .int (0 : Int32), .ref 27])) (w' := (mk t q37.2)) (ob := true) e_127 hk_127 4 rfl rfl ?_
      obtain ⟨q39, e40, h⟩ := Option.bind_eq_some_iff.mp h
      refine xu_callv (q := 27) (r := none) (av := [.int (0 : Int32), .int q37.1]) (st := []) (w1 := (mk t q39)) e_127 hk_127 rfl (m_M_put _ _ _ _ _ e40) rfl rfl rfl rfl rfl ?_
      refine xOK_steps (fr' := (55, [some (.ref 27), some (.int x1), some (.int x2), some (.int q33.1), some (.int q37.1), none, none], [])) (w' := (mk t (xsa q39 0 1 (xrem (((q39.2 0) 1) + (2 : Int32)) (65536 : Int32))))) (ob := true) e_127 hk_127 12 rfl rfl ?_
      cases h
      exact xu_vret e_127 hk_127 rfl rfl
  · have h := xif_pos c29 h
    cases h
    exact xu_vret e_127 hk_127 rfl rfl
set_option maxRecDepth 100000 in
set_option maxHeartbeats 4000000 in
theorem t_M_jump_223 (t : xS) (q : xS) (y1 y2 : Int32) (s : xS) (h : f_M_jump_223 y1 y2 s = some q) : xOK 121 none (xEnd 121 none (mk t q)) (119, [none, none, none, none, none, none, none], [.int y2, .int y1, .ref 28]) (mk t s) 0 0 := by
  unfold f_M_jump_223 at h
  by_cases o1 : xin y1 16 = true
  case neg => have h := xif_neg o1 h; cases h
  have h := xif_pos o1 h
  refine xOK_steps (fr' := (120, [none, none, none, none, none, none, none], [])) (w' := (mk t (xsa s 0 (y1).toNatClampNeg y2))) (ob := xin y1 16 && (true)) e_121 hk_121 1 rfl (xand o1 rfl) ?_
  cases h
  exact xu_vret e_121 hk_121 rfl rfl
set_option maxRecDepth 100000 in
set_option maxHeartbeats 4000000 in
theorem t_M_jump_172 (t : xS) (q : xS) (x1 y0 : Int32) (s : xS) (h : f_M_jump_172 x1 y0 s = some q) : xOK 121 none (xEnd 121 none (mk t q)) (90, [some (.ref 27), some (.int x1), none, none, none, none, none], [.int y0]) (mk t s) 0 0 := by
  unfold f_M_jump_172 at h
  refine xOK_steps (fr' := (95, [some (.ref 27), some (.int x1), none, none, none, some (.int y0), none], [.int (1024 : Int32), .int (xrem x1 (1024 : Int32))])) (w' := (mk t s)) (ob := true) e_121 hk_121 5 rfl rfl ?_
  obtain ⟨q2, e3, h⟩ := Option.bind_eq_some_iff.mp h
  refine xu_calls (r := (some q2)) (av := [.int (xrem x1 (1024 : Int32)), .int (1024 : Int32)]) (st := []) (w1 := (mk t s)) e_121 hk_121 rfl rfl (m_M_signed _ _ _ _ _ e3) rfl rfl rfl rfl ?_
  refine xOK_steps (fr' := (101, [some (.ref 27), some (.int x1), none, none, none, some (.int y0), some (.int q2)], [.int y0, .int (0 : Int32), .ref 28])) (w' := (mk t s)) (ob := true) e_121 hk_121 5 rfl rfl ?_
  refine xu_if_eq e_121 hk_121 rfl (fun c4 => ?_) (fun c4 => ?_)
  · have h := xif_pos c4 h
    refine xOK_steps (fr' := (119, [some (.ref 27), some (.int x1), none, none, none, some (.int y0), some (.int q2)], [.int ((s.2 0) 0), .int (0 : Int32), .ref 28])) (w' := (mk t s)) (ob := true) e_121 hk_121 4 rfl rfl ?_
    refine xOK_fg [0, 1, 5, 6] ?_
    exact t_M_jump_223 t q _ _ _ h
  · have h := xif_neg c4 h
    refine xOK_steps (fr' := (119, [some (.ref 27), some (.int x1), none, none, none, some (.int y0), some (.int q2)], [.int (xrem ((((s.2 0) 0) + ((2 : Int32) * q2)) + (65536 : Int32)) (65536 : Int32)), .int (0 : Int32), .ref 28])) (w' := (mk t s)) (ob := true) e_121 hk_121 13 rfl rfl ?_
    refine xOK_fg [0, 1, 5, 6] ?_
    exact t_M_jump_223 t q _ _ _ h
set_option maxRecDepth 100000 in
set_option maxHeartbeats 4000000 in
theorem m_M_jump (x1 : Int32) (s t : xS) (q : xS) (h : f_M_jump x1 s = some q) : xMet 121 [.ref 27, .int x1] (mk t s) none (mk t q) := by
  refine xMet_of hk_121 rfl rfl rfl ?_
  refine xOK_eq (fr := (0, [some (.ref 27), some (.int x1), none, none, none, none, none], [])) rfl ?_
  unfold f_M_jump at h
  refine xOK_steps (fr' := (2, [some (.ref 27), some (.int x1), none, none, none, none, none], [.int (4 : Int32), .ref 27])) (w' := (mk t s)) (ob := true) e_121 hk_121 2 rfl rfl ?_
  obtain ⟨q5, e6, h⟩ := Option.bind_eq_some_iff.mp h
  refine xu_callv (q := 27) (r := (some q5.1)) (av := [.int (4 : Int32)]) (st := []) (w1 := (mk t q5.2)) e_121 hk_121 rfl (m_M_flag _ _ _ _ e6) rfl rfl rfl rfl rfl ?_
  refine xOK_steps (fr' := (6, [some (.ref 27), some (.int x1), some (.int q5.1), none, none, none, none], [.int (256 : Int32), .ref 27])) (w' := (mk t q5.2)) (ob := true) e_121 hk_121 3 rfl rfl ?_
  obtain ⟨q7, e8, h⟩ := Option.bind_eq_some_iff.mp h
  refine xu_callv (q := 27) (r := (some q7.1)) (av := [.int (256 : Int32)]) (st := []) (w1 := (mk t q7.2)) e_121 hk_121 rfl (m_M_flag _ _ _ _ e8) rfl rfl rfl rfl rfl ?_
  refine xOK_steps (fr' := (15, [some (.ref 27), some (.int x1), some (.int q5.1), some (.int q7.1), some (.int (xrem (x1 / (1024 : Int32)) (8 : Int32))), none, none], [.int (xrem (x1 / (1024 : Int32)) (8 : Int32))])) (w' := (mk t q7.2)) (ob := true) e_121 hk_121 8 rfl rfl ?_
  refine xu_if_ne e_121 hk_121 rfl (fun c9 => ?_) (fun c9 => ?_)
  · have h := xif_neg c9 h
    refine xOK_steps (fr' := (26, [some (.ref 27), some (.int x1), some (.int q5.1), some (.int q7.1), some (.int (xrem (x1 / (1024 : Int32)) (8 : Int32))), none, none], [.int (1 : Int32), .int (xrem (x1 / (1024 : Int32)) (8 : Int32))])) (w' := (mk t q7.2)) (ob := true) e_121 hk_121 2 rfl rfl ?_
    refine xu_icmp_ne e_121 hk_121 rfl (fun c10 => ?_) (fun c10 => ?_)
    · have h := xif_neg c10 h
      refine xOK_steps (fr' := (38, [some (.ref 27), some (.int x1), some (.int q5.1), some (.int q7.1), some (.int (xrem (x1 / (1024 : Int32)) (8 : Int32))), none, none], [.int (2 : Int32), .int (xrem (x1 / (1024 : Int32)) (8 : Int32))])) (w' := (mk t q7.2)) (ob := true) e_121 hk_121 2 rfl rfl ?_
      refine xu_icmp_ne e_121 hk_121 rfl (fun c11 => ?_) (fun c11 => ?_)
      · have h := xif_neg c11 h
        refine xOK_steps (fr' := (49, [some (.ref 27), some (.int x1), some (.int q5.1), some (.int q7.1), some (.int (xrem (x1 / (1024 : Int32)) (8 : Int32))), none, none], [.int (3 : Int32), .int (xrem (x1 / (1024 : Int32)) (8 : Int32))])) (w' := (mk t q7.2)) (ob := true) e_121 hk_121 2 rfl rfl ?_
        refine xu_icmp_ne e_121 hk_121 rfl (fun c12 => ?_) (fun c12 => ?_)
        · have h := xif_neg c12 h
          refine xOK_steps (fr' := (61, [some (.ref 27), some (.int x1), some (.int q5.1), some (.int q7.1), some (.int (xrem (x1 / (1024 : Int32)) (8 : Int32))), none, none], [.int (4 : Int32), .int (xrem (x1 / (1024 : Int32)) (8 : Int32))])) (w' := (mk t q7.2)) (ob := true) e_121 hk_121 2 rfl rfl ?_
          refine xu_icmp_ne e_121 hk_121 rfl (fun c13 => ?_) (fun c13 => ?_)
          · have h := xif_neg c13 h
            refine xOK_steps (fr' := (71, [some (.ref 27), some (.int x1), some (.int q5.1), some (.int q7.1), some (.int (xrem (x1 / (1024 : Int32)) (8 : Int32))), none, none], [.int (5 : Int32), .int (xrem (x1 / (1024 : Int32)) (8 : Int32))])) (w' := (mk t q7.2)) (ob := true) e_121 hk_121 2 rfl rfl ?_
            refine xu_icmp_ne e_121 hk_121 rfl (fun c14 => ?_) (fun c14 => ?_)
            · have h := xif_neg c14 h
              refine xOK_steps (fr' := (81, [some (.ref 27), some (.int x1), some (.int q5.1), some (.int q7.1), some (.int (xrem (x1 / (1024 : Int32)) (8 : Int32))), none, none], [.int (6 : Int32), .int (xrem (x1 / (1024 : Int32)) (8 : Int32))])) (w' := (mk t q7.2)) (ob := true) e_121 hk_121 2 rfl rfl ?_
              refine xu_icmp_ne e_121 hk_121 rfl (fun c15 => ?_) (fun c15 => ?_)
              · have h := xif_neg c15 h
                refine xOK_steps (fr' := (90, [some (.ref 27), some (.int x1), some (.int q5.1), some (.int q7.1), some (.int (xrem (x1 / (1024 : Int32)) (8 : Int32))), none, none], [.int (1 : Int32)])) (w' := (mk t q7.2)) (ob := true) e_121 hk_121 1 rfl rfl ?_
                refine xOK_fg [2, 3, 4] ?_
                exact t_M_jump_172 t q _ _ _ h
              · have h := xif_pos c15 h
                refine xOK_steps (fr' := (84, [some (.ref 27), some (.int x1), some (.int q5.1), some (.int q7.1), some (.int (xrem (x1 / (1024 : Int32)) (8 : Int32))), none, none], [.int q7.1, .int q5.1])) (w' := (mk t q7.2)) (ob := true) e_121 hk_121 2 rfl rfl ?_
                refine xu_icmp_eq e_121 hk_121 rfl (fun c16 => ?_) (fun c16 => ?_)
                · have h := xif_pos c16 h
                  refine xOK_steps (fr' := (90, [some (.ref 27), some (.int x1), some (.int q5.1), some (.int q7.1), some (.int (xrem (x1 / (1024 : Int32)) (8 : Int32))), none, none], [.int (0 : Int32)])) (w' := (mk t q7.2)) (ob := true) e_121 hk_121 2 rfl rfl ?_
                  refine xOK_fg [2, 3, 4] ?_
                  exact t_M_jump_172 t q _ _ _ h
                · have h := xif_neg c16 h
                  refine xOK_steps (fr' := (90, [some (.ref 27), some (.int x1), some (.int q5.1), some (.int q7.1), some (.int (xrem (x1 / (1024 : Int32)) (8 : Int32))), none, none], [.int (1 : Int32)])) (w' := (mk t q7.2)) (ob := true) e_121 hk_121 2 rfl rfl ?_
                  refine xOK_fg [2, 3, 4] ?_
                  exact t_M_jump_172 t q _ _ _ h
            · have h := xif_pos c14 h
              refine xOK_steps (fr' := (74, [some (.ref 27), some (.int x1), some (.int q5.1), some (.int q7.1), some (.int (xrem (x1 / (1024 : Int32)) (8 : Int32))), none, none], [.int q7.1, .int q5.1])) (w' := (mk t q7.2)) (ob := true) e_121 hk_121 2 rfl rfl ?_
              refine xu_icmp_ne e_121 hk_121 rfl (fun c17 => ?_) (fun c17 => ?_)
              · have h := xif_neg c17 h
                refine xOK_steps (fr' := (90, [some (.ref 27), some (.int x1), some (.int q5.1), some (.int q7.1), some (.int (xrem (x1 / (1024 : Int32)) (8 : Int32))), none, none], [.int (0 : Int32)])) (w' := (mk t q7.2)) (ob := true) e_121 hk_121 2 rfl rfl ?_
                refine xOK_fg [2, 3, 4] ?_
                exact t_M_jump_172 t q _ _ _ h
              · have h := xif_pos c17 h
                refine xOK_steps (fr' := (90, [some (.ref 27), some (.int x1), some (.int q5.1), some (.int q7.1), some (.int (xrem (x1 / (1024 : Int32)) (8 : Int32))), none, none], [.int (1 : Int32)])) (w' := (mk t q7.2)) (ob := true) e_121 hk_121 2 rfl rfl ?_
                refine xOK_fg [2, 3, 4] ?_
                exact t_M_jump_172 t q _ _ _ h
          · have h := xif_pos c13 h
            refine xOK_steps (fr' := (64, [some (.ref 27), some (.int x1), some (.int q5.1), some (.int q7.1), some (.int (xrem (x1 / (1024 : Int32)) (8 : Int32))), none, none], [.int (1 : Int32), .int q5.1])) (w' := (mk t q7.2)) (ob := true) e_121 hk_121 2 rfl rfl ?_
            refine xu_icmp_ne e_121 hk_121 rfl (fun c18 => ?_) (fun c18 => ?_)
            · have h := xif_neg c18 h
              refine xOK_steps (fr' := (90, [some (.ref 27), some (.int x1), some (.int q5.1), some (.int q7.1), some (.int (xrem (x1 / (1024 : Int32)) (8 : Int32))), none, none], [.int (0 : Int32)])) (w' := (mk t q7.2)) (ob := true) e_121 hk_121 2 rfl rfl ?_
              refine xOK_fg [2, 3, 4] ?_
              exact t_M_jump_172 t q _ _ _ h
            · have h := xif_pos c18 h
              refine xOK_steps (fr' := (90, [some (.ref 27), some (.int x1), some (.int q5.1), some (.int q7.1), some (.int (xrem (x1 / (1024 : Int32)) (8 : Int32))), none, none], [.int (1 : Int32)])) (w' := (mk t q7.2)) (ob := true) e_121 hk_121 2 rfl rfl ?_
              refine xOK_fg [2, 3, 4] ?_
              exact t_M_jump_172 t q _ _ _ h
        · have h := xif_pos c12 h
          refine xOK_steps (fr' := (52, [some (.ref 27), some (.int x1), some (.int q5.1), some (.int q7.1), some (.int (xrem (x1 / (1024 : Int32)) (8 : Int32))), none, none], [.int (1 : Int32), .ref 27])) (w' := (mk t q7.2)) (ob := true) e_121 hk_121 2 rfl rfl ?_
          obtain ⟨q19, e20, h⟩ := Option.bind_eq_some_iff.mp h
          refine xu_callv (q := 27) (r := (some q19.1)) (av := [.int (1 : Int32)]) (st := []) (w1 := (mk t q19.2)) e_121 hk_121 rfl (m_M_flag _ _ _ _ e20) rfl rfl rfl rfl rfl ?_
          refine xOK_steps (fr' := (54, [some (.ref 27), some (.int x1), some (.int q5.1), some (.int q7.1), some (.int (xrem (x1 / (1024 : Int32)) (8 : Int32))), none, none], [.int (1 : Int32), .int q19.1])) (w' := (mk t q19.2)) (ob := true) e_121 hk_121 1 rfl rfl ?_
          refine xu_icmp_ne e_121 hk_121 rfl (fun c21 => ?_) (fun c21 => ?_)
          · have h := xif_neg c21 h
            refine xOK_steps (fr' := (90, [some (.ref 27), some (.int x1), some (.int q5.1), some (.int q7.1), some (.int (xrem (x1 / (1024 : Int32)) (8 : Int32))), none, none], [.int (0 : Int32)])) (w' := (mk t q19.2)) (ob := true) e_121 hk_121 2 rfl rfl ?_
            refine xOK_fg [2, 3, 4] ?_
            exact t_M_jump_172 t q _ _ _ h
          · have h := xif_pos c21 h
            refine xOK_steps (fr' := (90, [some (.ref 27), some (.int x1), some (.int q5.1), some (.int q7.1), some (.int (xrem (x1 / (1024 : Int32)) (8 : Int32))), none, none], [.int (1 : Int32)])) (w' := (mk t q19.2)) (ob := true) e_121 hk_121 2 rfl rfl ?_
            refine xOK_fg [2, 3, 4] ?_
            exact t_M_jump_172 t q _ _ _ h
      · have h := xif_pos c11 h
        refine xOK_steps (fr' := (41, [some (.ref 27), some (.int x1), some (.int q5.1), some (.int q7.1), some (.int (xrem (x1 / (1024 : Int32)) (8 : Int32))), none, none], [.int (1 : Int32), .ref 27])) (w' := (mk t q7.2)) (ob := true) e_121 hk_121 2 rfl rfl ?_
        obtain ⟨q22, e23, h⟩ := Option.bind_eq_some_iff.mp h
        refine xu_callv (q := 27) (r := (some q22.1)) (av := [.int (1 : Int32)]) (st := []) (w1 := (mk t q22.2)) e_121 hk_121 rfl (m_M_flag _ _ _ _ e23) rfl rfl rfl rfl rfl ?_
        refine xu_if_ne e_121 hk_121 rfl (fun c24 => ?_) (fun c24 => ?_)
        · have h := xif_neg c24 h
          refine xOK_steps (fr' := (90, [some (.ref 27), some (.int x1), some (.int q5.1), some (.int q7.1), some (.int (xrem (x1 / (1024 : Int32)) (8 : Int32))), none, none], [.int (0 : Int32)])) (w' := (mk t q22.2)) (ob := true) e_121 hk_121 2 rfl rfl ?_
          refine xOK_fg [2, 3, 4] ?_
          exact t_M_jump_172 t q _ _ _ h
        · have h := xif_pos c24 h
          refine xOK_steps (fr' := (90, [some (.ref 27), some (.int x1), some (.int q5.1), some (.int q7.1), some (.int (xrem (x1 / (1024 : Int32)) (8 : Int32))), none, none], [.int (1 : Int32)])) (w' := (mk t q22.2)) (ob := true) e_121 hk_121 2 rfl rfl ?_
          refine xOK_fg [2, 3, 4] ?_
          exact t_M_jump_172 t q _ _ _ h
    · have h := xif_pos c10 h
      refine xOK_steps (fr' := (29, [some (.ref 27), some (.int x1), some (.int q5.1), some (.int q7.1), some (.int (xrem (x1 / (1024 : Int32)) (8 : Int32))), none, none], [.int (2 : Int32), .ref 27])) (w' := (mk t q7.2)) (ob := true) e_121 hk_121 2 rfl rfl ?_
      obtain ⟨q25, e26, h⟩ := Option.bind_eq_some_iff.mp h
      refine xu_callv (q := 27) (r := (some q25.1)) (av := [.int (2 : Int32)]) (st := []) (w1 := (mk t q25.2)) e_121 hk_121 rfl (m_M_flag _ _ _ _ e26) rfl rfl rfl rfl rfl ?_
      refine xOK_steps (fr' := (31, [some (.ref 27), some (.int x1), some (.int q5.1), some (.int q7.1), some (.int (xrem (x1 / (1024 : Int32)) (8 : Int32))), none, none], [.int (1 : Int32), .int q25.1])) (w' := (mk t q25.2)) (ob := true) e_121 hk_121 1 rfl rfl ?_
      refine xu_icmp_ne e_121 hk_121 rfl (fun c27 => ?_) (fun c27 => ?_)
      · have h := xif_neg c27 h
        refine xOK_steps (fr' := (90, [some (.ref 27), some (.int x1), some (.int q5.1), some (.int q7.1), some (.int (xrem (x1 / (1024 : Int32)) (8 : Int32))), none, none], [.int (0 : Int32)])) (w' := (mk t q25.2)) (ob := true) e_121 hk_121 2 rfl rfl ?_
        refine xOK_fg [2, 3, 4] ?_
        exact t_M_jump_172 t q _ _ _ h
      · have h := xif_pos c27 h
        refine xOK_steps (fr' := (90, [some (.ref 27), some (.int x1), some (.int q5.1), some (.int q7.1), some (.int (xrem (x1 / (1024 : Int32)) (8 : Int32))), none, none], [.int (1 : Int32)])) (w' := (mk t q25.2)) (ob := true) e_121 hk_121 2 rfl rfl ?_
        refine xOK_fg [2, 3, 4] ?_
        exact t_M_jump_172 t q _ _ _ h
  · have h := xif_pos c9 h
    refine xOK_steps (fr' := (18, [some (.ref 27), some (.int x1), some (.int q5.1), some (.int q7.1), some (.int (xrem (x1 / (1024 : Int32)) (8 : Int32))), none, none], [.int (2 : Int32), .ref 27])) (w' := (mk t q7.2)) (ob := true) e_121 hk_121 2 rfl rfl ?_
    obtain ⟨q28, e29, h⟩ := Option.bind_eq_some_iff.mp h
    refine xu_callv (q := 27) (r := (some q28.1)) (av := [.int (2 : Int32)]) (st := []) (w1 := (mk t q28.2)) e_121 hk_121 rfl (m_M_flag _ _ _ _ e29) rfl rfl rfl rfl rfl ?_
    refine xu_if_ne e_121 hk_121 rfl (fun c30 => ?_) (fun c30 => ?_)
    · have h := xif_neg c30 h
      refine xOK_steps (fr' := (90, [some (.ref 27), some (.int x1), some (.int q5.1), some (.int q7.1), some (.int (xrem (x1 / (1024 : Int32)) (8 : Int32))), none, none], [.int (0 : Int32)])) (w' := (mk t q28.2)) (ob := true) e_121 hk_121 2 rfl rfl ?_
      refine xOK_fg [2, 3, 4] ?_
      exact t_M_jump_172 t q _ _ _ h
    · have h := xif_pos c30 h
      refine xOK_steps (fr' := (90, [some (.ref 27), some (.int x1), some (.int q5.1), some (.int q7.1), some (.int (xrem (x1 / (1024 : Int32)) (8 : Int32))), none, none], [.int (1 : Int32)])) (w' := (mk t q28.2)) (ob := true) e_121 hk_121 2 rfl rfl ?_
      refine xOK_fg [2, 3, 4] ?_
      exact t_M_jump_172 t q _ _ _ h
set_option maxRecDepth 100000 in
set_option maxHeartbeats 4000000 in
theorem t_M_bits_152 (t : xS) (q : (Int32 × xS)) (x6 : Int32) (s : xS) (h : f_M_bits_152 x6 s = some q) : xOK 126 none (xEnd 126 (some q.1) (mk t q.2)) (83, [none, none, none, none, none, none, some (.int x6), none, none], []) (mk t s) 0 0 := by
  unfold f_M_bits_152 at h
  refine xOK_steps (fr' := (84, [none, none, none, none, none, none, some (.int x6), none, none], [.int x6])) (w' := (mk t s)) (ob := true) e_126 hk_126 1 rfl rfl ?_
  cases h
  exact xu_iret e_126 hk_126 rfl rfl rfl
set_option maxRecDepth 100000 in
set_option maxHeartbeats 4000000 in
theorem t_M_bits_143 (t : xS) (q : (Int32 × xS)) (x4 x6 x8 y1 : Int32) (s : xS) (h : f_M_bits_143 x4 x6 x8 y1 s = some q) : xOK 126 none (xEnd 126 (some q.1) (mk t q.2)) (79, [none, none, none, none, some (.int x4), none, some (.int x6), none, some (.int x8)], [.int y1, .ref 27]) (mk t s) 0 0 := by
  unfold f_M_bits_143 at h
  refine xOK_steps (fr' := (82, [none, none, none, none, some (.int x4), none, some (.int x6), none, some (.int x8)], [.int x4, .int x6, .int x8, .int y1, .ref 27])) (w' := (mk t s)) (ob := true) e_126 hk_126 3 rfl rfl ?_
  obtain ⟨q1, e2, h⟩ := Option.bind_eq_some_iff.mp h
  refine xu_callv (q := 27) (r := none) (av := [.int y1, .int x8, .int x6, .int x4]) (st := []) (w1 := (mk t q1)) e_126 hk_126 rfl (m_M_flags _ _ _ _ _ _ _ e2) rfl rfl rfl rfl rfl ?_
  refine xOK_fg [4, 8] ?_
  exact t_M_bits_152 t q _ _ h
set_option maxRecDepth 100000 in
set_option maxHeartbeats 4000000 in
theorem t_M_bits_126 (t : xS) (q : (Int32 × xS)) (x4 x6 x8 y1 : Int32) (s : xS) (h : f_M_bits_126 x4 x6 x8 y1 s = some q) : xOK 126 none (xEnd 126 (some q.1) (mk t q.2)) (71, [some (.ref 27), none, none, none, some (.int x4), none, some (.int x6), none, some (.int x8)], [.int y1, .ref 27]) (mk t s) 0 0 := by
  unfold f_M_bits_126 at h
  obtain ⟨q3, e4, h⟩ := Option.bind_eq_some_iff.mp h
  refine xu_callv (q := 27) (r := (some q3.1)) (av := [.int y1]) (st := []) (w1 := (mk t q3.2)) e_126 hk_126 rfl (m_M_silent _ _ _ _ e4) rfl rfl rfl rfl rfl ?_
  refine xu_if_ne e_126 hk_126 rfl (fun c5 => ?_) (fun c5 => ?_)
  · have h := xif_neg c5 h
    refine xOK_fg [0, 4, 8] ?_
    exact t_M_bits_152 t q _ _ h
  · have h := xif_pos c5 h
    refine xOK_steps (fr' := (75, [some (.ref 27), none, none, none, some (.int x4), none, some (.int x6), none, some (.int x8)], [.int x6, .ref 27])) (w' := (mk t q3.2)) (ob := true) e_126 hk_126 2 rfl rfl ?_
    refine xu_if_eq e_126 hk_126 rfl (fun c6 => ?_) (fun c6 => ?_)
    · have h := xif_pos c6 h
      refine xOK_steps (fr' := (79, [some (.ref 27), none, none, none, some (.int x4), none, some (.int x6), none, some (.int x8)], [.int (0 : Int32), .ref 27])) (w' := (mk t q3.2)) (ob := true) e_126 hk_126 1 rfl rfl ?_
      refine xOK_fg [0] ?_
      exact t_M_bits_143 t q _ _ _ _ _ h
    · have h := xif_neg c6 h
      refine xOK_steps (fr' := (79, [some (.ref 27), none, none, none, some (.int x4), none, some (.int x6), none, some (.int x8)], [.int (1 : Int32), .ref 27])) (w' := (mk t q3.2)) (ob := true) e_126 hk_126 2 rfl rfl ?_
      refine xOK_fg [0] ?_
      exact t_M_bits_143 t q _ _ _ _ _ h
set_option maxRecDepth 100000 in
set_option maxHeartbeats 4000000 in
theorem t_M_bits_107 (t : xS) (q : (Int32 × xS)) (x1 x4 x6 x7 y0 : Int32) (s : xS) (h : f_M_bits_107 x1 x4 x6 x7 y0 s = some q) : xOK 126 none (xEnd 126 (some q.1) (mk t q.2)) (61, [some (.ref 27), some (.int x1), none, none, some (.int x4), none, some (.int x6), some (.int x7), none], [.int y0]) (mk t s) 0 0 := by
  unfold f_M_bits_107 at h
  refine xOK_steps (fr' := (63, [some (.ref 27), some (.int x1), none, none, some (.int x4), none, some (.int x6), some (.int x7), some (.int y0)], [.int x7])) (w' := (mk t s)) (ob := true) e_126 hk_126 2 rfl rfl ?_
  refine xu_if_eq e_126 hk_126 rfl (fun c7 => ?_) (fun c7 => ?_)
  · have h := xif_pos c7 h
    refine xOK_fg [0, 1, 4, 7, 8] ?_
    exact t_M_bits_152 t q _ _ h
  · have h := xif_neg c7 h
    refine xOK_steps (fr' := (67, [some (.ref 27), some (.int x1), none, none, some (.int x4), none, some (.int x6), some (.int x7), some (.int y0)], [.int (11 : Int32), .int x1, .ref 27])) (w' := (mk t s)) (ob := true) e_126 hk_126 3 rfl rfl ?_
    refine xu_icmp_eq e_126 hk_126 rfl (fun c8 => ?_) (fun c8 => ?_)
    · have h := xif_pos c8 h
      refine xOK_steps (fr' := (71, [some (.ref 27), some (.int x1), none, none, some (.int x4), none, some (.int x6), some (.int x7), some (.int y0)], [.int (0 : Int32), .ref 27])) (w' := (mk t s)) (ob := true) e_126 hk_126 1 rfl rfl ?_
      refine xOK_fg [1, 7] ?_
      exact t_M_bits_126 t q _ _ _ _ _ h
    · have h := xif_neg c8 h
      refine xOK_steps (fr' := (71, [some (.ref 27), some (.int x1), none, none, some (.int x4), none, some (.int x6), some (.int x7), some (.int y0)], [.int (1 : Int32), .ref 27])) (w' := (mk t s)) (ob := true) e_126 hk_126 2 rfl rfl ?_
      refine xOK_fg [1, 7] ?_
      exact t_M_bits_126 t q _ _ _ _ _ h
set_option maxRecDepth 100000 in
set_option maxHeartbeats 4000000 in
theorem t_M_bits_106 (t : xS) (q : (Int32 × xS)) (x1 x4 x6 x7 : Int32) (s : xS) (h : f_M_bits_106 x1 x4 x6 x7 s = some q) : xOK 126 none (xEnd 126 (some q.1) (mk t q.2)) (60, [some (.ref 27), some (.int x1), none, none, some (.int x4), none, some (.int x6), some (.int x7), none], []) (mk t s) 0 0 := by
  unfold f_M_bits_106 at h
  refine xOK_steps (fr' := (61, [some (.ref 27), some (.int x1), none, none, some (.int x4), none, some (.int x6), some (.int x7), none], [.int (0 : Int32)])) (w' := (mk t s)) (ob := true) e_126 hk_126 1 rfl rfl ?_
  exact t_M_bits_107 t q _ _ _ _ _ _ h
set_option maxRecDepth 100000 in
set_option maxHeartbeats 4000000 in
theorem t_M_bits_78 (t : xS) (q : (Int32 × xS)) (x1 x2 x3 x4 x5 x6 y0 : Int32) (s : xS) (h : f_M_bits_78 x1 x2 x3 x4 x5 x6 y0 s = some q) : xOK 126 none (xEnd 126 (some q.1) (mk t q.2)) (44, [some (.ref 27), some (.int x1), some (.int x2), some (.int x3), some (.int x4), some (.int x5), some (.int x6), none, none], [.int y0]) (mk t s) 0 0 := by
  unfold f_M_bits_78 at h
  refine xOK_steps (fr' := (47, [some (.ref 27), some (.int x1), some (.int x2), some (.int x3), some (.int x4), some (.int x5), some (.int x6), some (.int y0), none], [.int (14 : Int32), .int x1])) (w' := (mk t s)) (ob := true) e_126 hk_126 3 rfl rfl ?_
  refine xu_icmp_ne e_126 hk_126 rfl (fun c9 => ?_) (fun c9 => ?_)
  · have h := xif_neg c9 h
    refine xOK_fg [2, 3, 5] ?_
    exact t_M_bits_106 t q _ _ _ _ _ h
  · have h := xif_pos c9 h
    refine xOK_steps (fr' := (52, [some (.ref 27), some (.int x1), some (.int x2), some (.int x3), some (.int x4), some (.int x5), some (.int x6), some (.int y0), none], [.int (x5 / (2 : Int32)), .int x2])) (w' := (mk t s)) (ob := true) e_126 hk_126 4 rfl rfl ?_
    refine xu_icmp_lt e_126 hk_126 rfl (fun c10 => ?_) (fun c10 => ?_)
    · have h := xif_pos c10 h
      refine xOK_fg [2, 3, 5] ?_
      exact t_M_bits_106 t q _ _ _ _ _ h
    · have h := xif_neg c10 h
      refine xOK_steps (fr' := (57, [some (.ref 27), some (.int x1), some (.int x2), some (.int x3), some (.int x4), some (.int x5), some (.int x6), some (.int y0), none], [.int (x5 / (2 : Int32)), .int x3])) (w' := (mk t s)) (ob := true) e_126 hk_126 4 rfl rfl ?_
      refine xu_icmp_lt e_126 hk_126 rfl (fun c11 => ?_) (fun c11 => ?_)
      · have h := xif_pos c11 h
        refine xOK_fg [2, 3, 5] ?_
        exact t_M_bits_106 t q _ _ _ _ _ h
      · have h := xif_neg c11 h
        refine xOK_steps (fr' := (61, [some (.ref 27), some (.int x1), some (.int x2), some (.int x3), some (.int x4), some (.int x5), some (.int x6), some (.int y0), none], [.int (1 : Int32)])) (w' := (mk t s)) (ob := true) e_126 hk_126 2 rfl rfl ?_
        refine xOK_fg [2, 3, 5] ?_
        exact t_M_bits_107 t q _ _ _ _ _ _ h
set_option maxRecDepth 100000 in
set_option maxHeartbeats 4000000 in
theorem t_M_bits_77 (t : xS) (q : (Int32 × xS)) (x1 x2 x3 x4 x5 x6 : Int32) (s : xS) (h : f_M_bits_77 x1 x2 x3 x4 x5 x6 s = some q) : xOK 126 none (xEnd 126 (some q.1) (mk t q.2)) (43, [some (.ref 27), some (.int x1), some (.int x2), some (.int x3), some (.int x4), some (.int x5), some (.int x6), none, none], []) (mk t s) 0 0 := by
  unfold f_M_bits_77 at h
  refine xOK_steps (fr' := (44, [some (.ref 27), some (.int x1), some (.int x2), some (.int x3), some (.int x4), some (.int x5), some (.int x6), none, none], [.int (0 : Int32)])) (w' := (mk t s)) (ob := true) e_126 hk_126 1 rfl rfl ?_
  exact t_M_bits_78 t q _ _ _ _ _ _ _ _ h
set_option maxRecDepth 100000 in
set_option maxHeartbeats 4000000 in
theorem t_M_bits_59 (t : xS) (q : (Int32 × xS)) (x1 x2 x3 x4 x5 y0 : Int32) (s : xS) (h : f_M_bits_59 x1 x2 x3 x4 x5 y0 s = some q) : xOK 126 none (xEnd 126 (some q.1) (mk t q.2)) (34, [some (.ref 27), some (.int x1), some (.int x2), some (.int x3), some (.int x4), some (.int x5), none, none, none], [.int y0]) (mk t s) 0 0 := by
  unfold f_M_bits_59 at h
  refine xOK_steps (fr' := (37, [some (.ref 27), some (.int x1), some (.int x2), some (.int x3), some (.int x4), some (.int x5), some (.int y0), none, none], [.int (12 : Int32), .int x1])) (w' := (mk t s)) (ob := true) e_126 hk_126 3 rfl rfl ?_
  refine xu_icmp_eq e_126 hk_126 rfl (fun c12 => ?_) (fun c12 => ?_)
  · have h := xif_pos c12 h
    exact t_M_bits_77 t q _ _ _ _ _ _ _ h
  · have h := xif_neg c12 h
    refine xOK_steps (fr' := (40, [some (.ref 27), some (.int x1), some (.int x2), some (.int x3), some (.int x4), some (.int x5), some (.int y0), none, none], [.int (13 : Int32), .int x1])) (w' := (mk t s)) (ob := true) e_126 hk_126 2 rfl rfl ?_
    refine xu_icmp_eq e_126 hk_126 rfl (fun c13 => ?_) (fun c13 => ?_)
    · have h := xif_pos c13 h
      exact t_M_bits_77 t q _ _ _ _ _ _ _ h
    · have h := xif_neg c13 h
      refine xOK_steps (fr' := (44, [some (.ref 27), some (.int x1), some (.int x2), some (.int x3), some (.int x4), some (.int x5), some (.int y0), none, none], [.int (1 : Int32)])) (w' := (mk t s)) (ob := true) e_126 hk_126 2 rfl rfl ?_
      exact t_M_bits_78 t q _ _ _ _ _ _ _ _ h
set_option maxRecDepth 100000 in
set_option maxHeartbeats 4000000 in
theorem t_M_bits_13 (t : xS) (q : (Int32 × xS)) (x1 x2 x3 x4 y0 : Int32) (s : xS) (h : f_M_bits_13 x1 x2 x3 x4 y0 s = some q) : xOK 126 none (xEnd 126 (some q.1) (mk t q.2)) (5, [some (.ref 27), some (.int x1), some (.int x2), some (.int x3), some (.int x4), none, none, none, none], [.int y0]) (mk t s) 0 0 := by
  unfold f_M_bits_13 at h
  refine xOK_steps (fr' := (8, [some (.ref 27), some (.int x1), some (.int x2), some (.int x3), some (.int x4), some (.int y0), none, none, none], [.int (12 : Int32), .int x1])) (w' := (mk t s)) (ob := true) e_126 hk_126 3 rfl rfl ?_
  refine xu_icmp_ne e_126 hk_126 rfl (fun c14 => ?_) (fun c14 => ?_)
  · have h := xif_neg c14 h
    refine xOK_steps (fr' := (19, [some (.ref 27), some (.int x1), some (.int x2), some (.int x3), some (.int x4), some (.int y0), none, none, none], [.int (13 : Int32), .int x1])) (w' := (mk t s)) (ob := true) e_126 hk_126 2 rfl rfl ?_
    refine xu_icmp_ne e_126 hk_126 rfl (fun c15 => ?_) (fun c15 => ?_)
    · have h := xif_neg c15 h
      refine xOK_steps (fr' := (26, [some (.ref 27), some (.int x1), some (.int x2), some (.int x3), some (.int x4), some (.int y0), none, none, none], [.int (14 : Int32), .int x1])) (w' := (mk t s)) (ob := true) e_126 hk_126 2 rfl rfl ?_
      refine xu_icmp_ne e_126 hk_126 rfl (fun c16 => ?_) (fun c16 => ?_)
      · have h := xif_neg c16 h
        refine xOK_steps (fr' := (34, [some (.ref 27), some (.int x1), some (.int x2), some (.int x3), some (.int x4), some (.int y0), none, none, none], [.int (x3 &&& x2)])) (w' := (mk t s)) (ob := true) e_126 hk_126 3 rfl rfl ?_
        exact t_M_bits_59 t q _ _ _ _ _ _ _ h
      · have h := xif_pos c16 h
        refine xOK_steps (fr' := (34, [some (.ref 27), some (.int x1), some (.int x2), some (.int x3), some (.int x4), some (.int y0), none, none, none], [.int (x3 ^^^ x2)])) (w' := (mk t s)) (ob := true) e_126 hk_126 4 rfl rfl ?_
        exact t_M_bits_59 t q _ _ _ _ _ _ _ h
    · have h := xif_pos c15 h
      refine xOK_steps (fr' := (34, [some (.ref 27), some (.int x1), some (.int x2), some (.int x3), some (.int x4), some (.int y0), none, none, none], [.int (x3 ||| x2)])) (w' := (mk t s)) (ob := true) e_126 hk_126 4 rfl rfl ?_
      exact t_M_bits_59 t q _ _ _ _ _ _ _ h
  · have h := xif_pos c14 h
    refine xOK_steps (fr' := (34, [some (.ref 27), some (.int x1), some (.int x2), some (.int x3), some (.int x4), some (.int y0), none, none, none], [.int (x3 &&& ((y0 - (1 : Int32)) - x2))])) (w' := (mk t s)) (ob := true) e_126 hk_126 8 rfl rfl ?_
    exact t_M_bits_59 t q _ _ _ _ _ _ _ h
set_option maxRecDepth 100000 in
set_option maxHeartbeats 4000000 in
theorem m_M_bits (x1 x2 x3 x4 : Int32) (s t : xS) (q : (Int32 × xS)) (h : f_M_bits x1 x2 x3 x4 s = some q) : xMet 126 [.ref 27, .int x1, .int x2, .int x3, .int x4] (mk t s) (some q.1) (mk t q.2) := by
  refine xMet_of hk_126 rfl rfl rfl ?_
  refine xOK_eq (fr := (0, [some (.ref 27), some (.int x1), some (.int x2), some (.int x3), some (.int x4), none, none, none, none], [])) rfl ?_
  unfold f_M_bits at h
  refine xOK_steps (fr' := (1, [some (.ref 27), some (.int x1), some (.int x2), some (.int x3), some (.int x4), none, none, none, none], [.int x4])) (w' := (mk t s)) (ob := true) e_126 hk_126 1 rfl rfl ?_
  refine xu_if_eq e_126 hk_126 rfl (fun c17 => ?_) (fun c17 => ?_)
  · have h := xif_pos c17 h
    refine xOK_steps (fr' := (5, [some (.ref 27), some (.int x1), some (.int x2), some (.int x3), some (.int x4), none, none, none, none], [.int (65536 : Int32)])) (w' := (mk t s)) (ob := true) e_126 hk_126 1 rfl rfl ?_
    exact t_M_bits_13 t q _ _ _ _ _ _ h
  · have h := xif_neg c17 h
    refine xOK_steps (fr' := (5, [some (.ref 27), some (.int x1), some (.int x2), some (.int x3), some (.int x4), none, none, none, none], [.int (256 : Int32)])) (w' := (mk t s)) (ob := true) e_126 hk_126 2 rfl rfl ?_
    exact t_M_bits_13 t q _ _ _ _ _ _ h
set_option maxRecDepth 100000 in
set_option maxHeartbeats 4000000 in
theorem t_M_decimal_123 (t : xS) (q : (Int32 × xS)) (x5 : Int32) (s : xS) (h : f_M_decimal_123 x5 s = some q) : xOK 125 none (xEnd 125 (some q.1) (mk t q.2)) (69, [none, none, none, none, none, some (.int x5), none, none, none], []) (mk t s) 0 0 := by
  unfold f_M_decimal_123 at h
  refine xOK_steps (fr' := (70, [none, none, none, none, none, some (.int x5), none, none, none], [.int x5])) (w' := (mk t s)) (ob := true) e_125 hk_125 1 rfl rfl ?_
  cases h
  exact xu_iret e_125 hk_125 rfl rfl rfl
set_option maxRecDepth 100000 in
set_option maxHeartbeats 4000000 in
theorem t_M_decimal_86 (t : xS) (q : (Int32 × xS)) (lp : Int32 → Int32 → Int32 → Int32 → Int32 → Int32 → Int32 → xS → Option (Int32 × xS)) (hlp : ∀ (x1 x2 x3 x4 x5 x6 x7 : Int32) (s : xS), lp x1 x2 x3 x4 x5 x6 x7 s = some q → xOK 125 none (xEnd 125 (some q.1) (mk t q.2)) (10, [some (.ref 27), some (.int x1), some (.int x2), some (.int x3), some (.int x4), some (.int x5), some (.int x6), some (.int x7), none], []) (mk t s) 0 0) (x1 x2 x3 x4 x6 x7 y0 y1 : Int32) (s : xS) (h : f_M_decimal_86 lp x1 x2 x3 x4 x6 x7 y0 y1 s = some q) : xOK 125 none (xEnd 125 (some q.1) (mk t q.2)) (49, [some (.ref 27), some (.int x1), some (.int x2), some (.int x3), some (.int x4), none, some (.int x6), some (.int x7), none], [.int y1, .int y0]) (mk t s) 0 0 := by
  unfold f_M_decimal_86 at h
  refine xOK_steps (fr' := (10, [some (.ref 27), some (.int x1), some (.int x2), some (.int x3), some (.int x4), some (.int (y0 + (y1 * x6))), some (.int (x6 * (16 : Int32))), some (.int (x7 + (1 : Int32))), none], [])) (w' := (mk t s)) (ob := true) e_125 hk_125 10 rfl rfl ?_
  exact hlp _ _ _ _ _ _ _ _ h
set_option maxRecDepth 100000 in
set_option maxHeartbeats 4000000 in
theorem t_M_decimal_62 (t : xS) (q : (Int32 × xS)) (lp : Int32 → Int32 → Int32 → Int32 → Int32 → Int32 → Int32 → xS → Option (Int32 × xS)) (hlp : ∀ (x1 x2 x3 x4 x5 x6 x7 : Int32) (s : xS), lp x1 x2 x3 x4 x5 x6 x7 s = some q → xOK 125 none (xEnd 125 (some q.1) (mk t q.2)) (10, [some (.ref 27), some (.int x1), some (.int x2), some (.int x3), some (.int x4), some (.int x5), some (.int x6), some (.int x7), none], []) (mk t s) 0 0) (x1 x2 x3 x5 x6 x7 x8 y0 : Int32) (s : xS) (h : f_M_decimal_62 lp x1 x2 x3 x5 x6 x7 x8 y0 s = some q) : xOK 125 none (xEnd 125 (some q.1) (mk t q.2)) (37, [some (.ref 27), some (.int x1), some (.int x2), some (.int x3), none, some (.int x5), some (.int x6), some (.int x7), some (.int x8)], [.int y0]) (mk t s) 0 0 := by
  unfold f_M_decimal_62 at h
  refine xOK_steps (fr' := (41, [some (.ref 27), some (.int x1), some (.int x2), some (.int x3), some (.int y0), some (.int x5), some (.int x6), some (.int x7), some (.int x8)], [.int (9 : Int32), .int x8, .int x5])) (w' := (mk t s)) (ob := true) e_125 hk_125 4 rfl rfl ?_
  refine xu_icmp_le e_125 hk_125 rfl (fun c1 => ?_) (fun c1 => ?_)
  · have h := xif_pos c1 h
    refine xOK_steps (fr' := (49, [some (.ref 27), some (.int x1), some (.int x2), some (.int x3), some (.int y0), some (.int x5), some (.int x6), some (.int x7), some (.int x8)], [.int x8, .int x5])) (w' := (mk t s)) (ob := true) e_125 hk_125 1 rfl rfl ?_
    refine xOK_fg [5, 8] ?_
    exact t_M_decimal_86 t q _ hlp _ _ _ _ _ _ _ _ _ h
  · have h := xif_neg c1 h
    refine xOK_steps (fr' := (49, [some (.ref 27), some (.int x1), some (.int x2), some (.int x3), some (.int y0), some (.int x5), some (.int x6), some (.int x7), some (.int x8)], [.int (xrem (x8 + (6 : Int32)) (16 : Int32)), .int x5])) (w' := (mk t s)) (ob := true) e_125 hk_125 6 rfl rfl ?_
    refine xOK_fg [5, 8] ?_
    exact t_M_decimal_86 t q _ hlp _ _ _ _ _ _ _ _ _ h
set_option maxRecDepth 100000 in
set_option maxHeartbeats 4000000 in
theorem t_M_decimal_27 (t : xS) (q : (Int32 × xS)) (lp : Int32 → Int32 → Int32 → Int32 → Int32 → Int32 → Int32 → xS → Option (Int32 × xS)) (hlp : ∀ (x1 x2 x3 x4 x5 x6 x7 : Int32) (s : xS), lp x1 x2 x3 x4 x5 x6 x7 s = some q → xOK 125 none (xEnd 125 (some q.1) (mk t q.2)) (10, [some (.ref 27), some (.int x1), some (.int x2), some (.int x3), some (.int x4), some (.int x5), some (.int x6), some (.int x7), none], []) (mk t s) 0 0) (x1 x2 x3 x4 x5 x6 x7 y0 y1 : Int32) (s : xS) (h : f_M_decimal_27 lp x1 x2 x3 x4 x5 x6 x7 y0 y1 s = some q) : xOK 125 none (xEnd 125 (some q.1) (mk t q.2)) (16, [some (.ref 27), some (.int x1), some (.int x2), some (.int x3), some (.int x4), some (.int x5), some (.int x6), some (.int x7), none], [.int y1, .int y0]) (mk t s) 0 0 := by
  unfold f_M_decimal_27 at h
  refine xu_icmp_ge e_125 hk_125 rfl (fun c2 => ?_) (fun c2 => ?_)
  · have h := xif_pos c2 h
    refine xOK_steps (fr' := (61, [some (.ref 27), some (.int x1), some (.int x2), some (.int x3), some (.int x4), some (.int x5), some (.int x6), some (.int x7), none], [.int (1 : Int32), .ref 27])) (w' := (mk t s)) (ob := true) e_125 hk_125 2 rfl rfl ?_
    obtain ⟨q3, e4, h⟩ := Option.bind_eq_some_iff.mp h
    refine xu_callv (q := 27) (r := (some q3.1)) (av := [.int (1 : Int32)]) (st := []) (w1 := (mk t q3.2)) e_125 hk_125 rfl (m_M_silent _ _ _ _ e4) rfl rfl rfl rfl rfl ?_
    refine xu_if_ne e_125 hk_125 rfl (fun c5 => ?_) (fun c5 => ?_)
    · have h := xif_neg c5 h
      refine xOK_fg [0, 1, 2, 3, 4, 6, 7] ?_
      exact t_M_decimal_123 t q _ _ h
    · have h := xif_pos c5 h
      refine xOK_steps (fr' := (68, [some (.ref 27), some (.int x1), some (.int x2), some (.int x3), some (.int x4), some (.int x5), some (.int x6), some (.int x7), none], [.int x3, .int x5, .int (0 : Int32), .int x4, .ref 27])) (w' := (mk t q3.2)) (ob := true) e_125 hk_125 5 rfl rfl ?_
      obtain ⟨q6, e7, h⟩ := Option.bind_eq_some_iff.mp h
      refine xu_callv (q := 27) (r := none) (av := [.int x4, .int (0 : Int32), .int x5, .int x3]) (st := []) (w1 := (mk t q6)) e_125 hk_125 rfl (m_M_flags _ _ _ _ _ _ _ e7) rfl rfl rfl rfl rfl ?_
      refine xOK_fg [0, 1, 2, 3, 4, 6, 7] ?_
      exact t_M_decimal_123 t q _ _ h
  · have h := xif_neg c2 h
    by_cases o8 : (!(x6 == 0)) = true
    case neg => have h := xif_neg o8 h; cases h
    have h := xif_pos o8 h
    by_cases o9 : (!(x6 == 0)) = true
    case neg => have h := xif_neg o9 h; cases h
    have h := xif_pos o9 h
    refine xOK_steps (fr' := (33, [some (.ref 27), some (.int x1), some (.int x2), some (.int x3), some (.int x4), some (.int x5), some (.int x6), some (.int x7), some (.int (((xrem (x1 / x6) (16 : Int32)) + (xrem (x2 / x6) (16 : Int32))) + x4))], [.int (9 : Int32), .int (((xrem (x1 / x6) (16 : Int32)) + (xrem (x2 / x6) (16 : Int32))) + x4)])) (w' := (mk t s)) (ob := (!(x6 == 0)) && ((!(x6 == 0)) && (true))) e_125 hk_125 16 rfl (xand o8 (xand o9 rfl)) ?_
    refine xu_icmp_le e_125 hk_125 rfl (fun c10 => ?_) (fun c10 => ?_)
    · have h := xif_pos c10 h
      refine xOK_steps (fr' := (37, [some (.ref 27), some (.int x1), some (.int x2), some (.int x3), some (.int x4), some (.int x5), some (.int x6), some (.int x7), some (.int (((xrem (x1 / x6) (16 : Int32)) + (xrem (x2 / x6) (16 : Int32))) + x4))], [.int (0 : Int32)])) (w' := (mk t s)) (ob := true) e_125 hk_125 1 rfl rfl ?_
      refine xOK_fg [4] ?_
      exact t_M_decimal_62 t q _ hlp _ _ _ _ _ _ _ _ _ h
    · have h := xif_neg c10 h
      refine xOK_steps (fr' := (37, [some (.ref 27), some (.int x1), some (.int x2), some (.int x3), some (.int x4), some (.int x5), some (.int x6), some (.int x7), some (.int (((xrem (x1 / x6) (16 : Int32)) + (xrem (x2 / x6) (16 : Int32))) + x4))], [.int (1 : Int32)])) (w' := (mk t s)) (ob := true) e_125 hk_125 2 rfl rfl ?_
      refine xOK_fg [4] ?_
      exact t_M_decimal_62 t q _ hlp _ _ _ _ _ _ _ _ _ h
set_option maxRecDepth 100000 in
set_option maxHeartbeats 4000000 in
theorem t_M_decimal_16 (t : xS) (q : (Int32 × xS)) : ∀ (n : Nat), ∀ (x1 x2 x3 x4 x5 x6 x7 : Int32) (s : xS), f_M_decimal_16 n x1 x2 x3 x4 x5 x6 x7 s = some q → xOK 125 none (xEnd 125 (some q.1) (mk t q.2)) (10, [some (.ref 27), some (.int x1), some (.int x2), some (.int x3), some (.int x4), some (.int x5), some (.int x6), some (.int x7), none], []) (mk t s) 0 0 := by
  intro n
  induction n with
  | zero => intro x1 x2 x3 x4 x5 x6 x7 s h; cases h
  | succ n ih =>
    intro x1 x2 x3 x4 x5 x6 x7 s h
    unfold f_M_decimal_16 at h
    refine xOK_steps (fr' := (12, [some (.ref 27), some (.int x1), some (.int x2), some (.int x3), some (.int x4), some (.int x5), some (.int x6), some (.int x7), none], [.int x3, .int x7])) (w' := (mk t s)) (ob := true) e_125 hk_125 2 rfl rfl ?_
    refine xu_if_eq e_125 hk_125 rfl (fun c11 => ?_) (fun c11 => ?_)
    · have h := xif_pos c11 h
      refine xOK_steps (fr' := (16, [some (.ref 27), some (.int x1), some (.int x2), some (.int x3), some (.int x4), some (.int x5), some (.int x6), some (.int x7), none], [.int (4 : Int32), .int x7])) (w' := (mk t s)) (ob := true) e_125 hk_125 1 rfl rfl ?_
      exact t_M_decimal_27 t q _ ih _ _ _ _ _ _ _ _ _ _ h
    · have h := xif_neg c11 h
      refine xOK_steps (fr' := (16, [some (.ref 27), some (.int x1), some (.int x2), some (.int x3), some (.int x4), some (.int x5), some (.int x6), some (.int x7), none], [.int (2 : Int32), .int x7])) (w' := (mk t s)) (ob := true) e_125 hk_125 2 rfl rfl ?_
      exact t_M_decimal_27 t q _ ih _ _ _ _ _ _ _ _ _ _ h
set_option maxRecDepth 100000 in
set_option maxHeartbeats 4000000 in
theorem m_M_decimal (x1 x2 x3 : Int32) (s t : xS) (q : (Int32 × xS)) (h : f_M_decimal x1 x2 x3 s = some q) : xMet 125 [.ref 27, .int x1, .int x2, .int x3] (mk t s) (some q.1) (mk t q.2) := by
  refine xMet_of hk_125 rfl rfl rfl ?_
  refine xOK_eq (fr := (0, [some (.ref 27), some (.int x1), some (.int x2), some (.int x3), none, none, none, none, none], [])) rfl ?_
  unfold f_M_decimal at h
  refine xOK_steps (fr' := (2, [some (.ref 27), some (.int x1), some (.int x2), some (.int x3), none, none, none, none, none], [.int (1 : Int32), .ref 27])) (w' := (mk t s)) (ob := true) e_125 hk_125 2 rfl rfl ?_
  obtain ⟨q12, e13, h⟩ := Option.bind_eq_some_iff.mp h
  refine xu_callv (q := 27) (r := (some q12.1)) (av := [.int (1 : Int32)]) (st := []) (w1 := (mk t q12.2)) e_125 hk_125 rfl (m_M_flag _ _ _ _ e13) rfl rfl rfl rfl rfl ?_
  refine xOK_steps (fr' := (10, [some (.ref 27), some (.int x1), some (.int x2), some (.int x3), some (.int q12.1), some (.int (0 : Int32)), some (.int (1 : Int32)), some (.int (0 : Int32)), none], [])) (w' := (mk t q12.2)) (ob := true) e_125 hk_125 7 rfl rfl ?_
  exact t_M_decimal_16 t q _ _ _ _ _ _ _ _ _ h
set_option maxRecDepth 100000 in
set_option maxHeartbeats 4000000 in
theorem t_M_sum_155 (t : xS) (q : (Int32 × xS)) (x10 : Int32) (s : xS) (h : f_M_sum_155 x10 s = some q) : xOK 124 none (xEnd 124 (some q.1) (mk t q.2)) (81, [none, none, none, none, none, none, none, none, none, none, some (.int x10)], []) (mk t s) 0 0 := by
  unfold f_M_sum_155 at h
  refine xOK_steps (fr' := (82, [none, none, none, none, none, none, none, none, none, none, some (.int x10)], [.int x10])) (w' := (mk t s)) (ob := true) e_124 hk_124 1 rfl rfl ?_
  cases h
  exact xu_iret e_124 hk_124 rfl rfl rfl
set_option maxRecDepth 100000 in
set_option maxHeartbeats 4000000 in
theorem t_M_sum_148 (t : xS) (q : (Int32 × xS)) (x4 x10 y1 y2 : Int32) (s : xS) (h : f_M_sum_148 x4 x10 y1 y2 s = some q) : xOK 124 none (xEnd 124 (some q.1) (mk t q.2)) (78, [none, none, none, none, some (.int x4), none, none, none, none, none, some (.int x10)], [.int y2, .int y1, .ref 27]) (mk t s) 0 0 := by
  unfold f_M_sum_148 at h
  refine xOK_steps (fr' := (80, [none, none, none, none, some (.int x4), none, none, none, none, none, some (.int x10)], [.int x4, .int x10, .int y2, .int y1, .ref 27])) (w' := (mk t s)) (ob := true) e_124 hk_124 2 rfl rfl ?_
  obtain ⟨q1, e2, h⟩ := Option.bind_eq_some_iff.mp h
  refine xu_callv (q := 27) (r := none) (av := [.int y1, .int y2, .int x10, .int x4]) (st := []) (w1 := (mk t q1)) e_124 hk_124 rfl (m_M_flags _ _ _ _ _ _ _ e2) rfl rfl rfl rfl rfl ?_
  refine xOK_fg [4] ?_
  exact t_M_sum_155 t q _ _ h
set_option maxRecDepth 100000 in
set_option maxHeartbeats 4000000 in
theorem t_M_sum_131 (t : xS) (q : (Int32 × xS)) (x4 x5 x9 x10 y1 : Int32) (s : xS) (h : f_M_sum_131 x4 x5 x9 x10 y1 s = some q) : xOK 124 none (xEnd 124 (some q.1) (mk t q.2)) (70, [none, none, none, none, some (.int x4), some (.int x5), none, none, none, some (.int x9), some (.int x10)], [.int y1, .ref 27]) (mk t s) 0 0 := by
  unfold f_M_sum_131 at h
  refine xOK_steps (fr' := (73, [none, none, none, none, some (.int x4), some (.int x5), none, none, none, some (.int x9), some (.int x10)], [.int x5, .int x10, .int x9, .int y1, .ref 27])) (w' := (mk t s)) (ob := true) e_124 hk_124 3 rfl rfl ?_
  obtain ⟨q3, e4, h⟩ := Option.bind_eq_some_iff.mp h
  refine xu_calls (r := (some q3)) (av := [.int x10, .int x5]) (st := [.int x9, .int y1, .ref 27]) (w1 := (mk t s)) e_124 hk_124 rfl rfl (m_M_signed _ _ _ _ _ e4) rfl rfl rfl rfl ?_
  refine xu_icmp_eq e_124 hk_124 rfl (fun c5 => ?_) (fun c5 => ?_)
  · have h := xif_pos c5 h
    refine xOK_steps (fr' := (78, [none, none, none, none, some (.int x4), some (.int x5), none, none, none, some (.int x9), some (.int x10)], [.int (0 : Int32), .int y1, .ref 27])) (w' := (mk t s)) (ob := true) e_124 hk_124 1 rfl rfl ?_
    refine xOK_fg [5, 9] ?_
    exact t_M_sum_148 t q _ _ _ _ _ h
  · have h := xif_neg c5 h
    refine xOK_steps (fr' := (78, [none, none, none, none, some (.int x4), some (.int x5), none, none, none, some (.int x9), some (.int x10)], [.int (1 : Int32), .int y1, .ref 27])) (w' := (mk t s)) (ob := true) e_124 hk_124 2 rfl rfl ?_
    refine xOK_fg [5, 9] ?_
    exact t_M_sum_148 t q _ _ _ _ _ h
set_option maxRecDepth 100000 in
set_option maxHeartbeats 4000000 in
theorem t_M_sum_112 (t : xS) (q : (Int32 × xS)) (x4 x5 x8 x9 x10 y1 : Int32) (s : xS) (h : f_M_sum_112 x4 x5 x8 x9 x10 y1 s = some q) : xOK 124 none (xEnd 124 (some q.1) (mk t q.2)) (61, [some (.ref 27), none, none, none, some (.int x4), some (.int x5), none, none, some (.int x8), some (.int x9), some (.int x10)], [.int y1, .ref 27]) (mk t s) 0 0 := by
  unfold f_M_sum_112 at h
  obtain ⟨q6, e7, h⟩ := Option.bind_eq_some_iff.mp h
  refine xu_callv (q := 27) (r := (some q6.1)) (av := [.int y1]) (st := []) (w1 := (mk t q6.2)) e_124 hk_124 rfl (m_M_silent _ _ _ _ e7) rfl rfl rfl rfl rfl ?_
  refine xu_if_ne e_124 hk_124 rfl (fun c8 => ?_) (fun c8 => ?_)
  · have h := xif_neg c8 h
    refine xOK_fg [0, 4, 5, 8, 9] ?_
    exact t_M_sum_155 t q _ _ h
  · have h := xif_pos c8 h
    refine xOK_steps (fr' := (66, [some (.ref 27), none, none, none, some (.int x4), some (.int x5), none, none, some (.int x8), some (.int x9), some (.int x10)], [.int x5, .int x8, .ref 27])) (w' := (mk t q6.2)) (ob := true) e_124 hk_124 3 rfl rfl ?_
    refine xu_icmp_lt e_124 hk_124 rfl (fun c9 => ?_) (fun c9 => ?_)
    · have h := xif_pos c9 h
      refine xOK_steps (fr' := (70, [some (.ref 27), none, none, none, some (.int x4), some (.int x5), none, none, some (.int x8), some (.int x9), some (.int x10)], [.int (0 : Int32), .ref 27])) (w' := (mk t q6.2)) (ob := true) e_124 hk_124 1 rfl rfl ?_
      refine xOK_fg [0, 8] ?_
      exact t_M_sum_131 t q _ _ _ _ _ _ h
    · have h := xif_neg c9 h
      refine xOK_steps (fr' := (70, [some (.ref 27), none, none, none, some (.int x4), some (.int x5), none, none, some (.int x8), some (.int x9), some (.int x10)], [.int (1 : Int32), .ref 27])) (w' := (mk t q6.2)) (ob := true) e_124 hk_124 2 rfl rfl ?_
      refine xOK_fg [0, 8] ?_
      exact t_M_sum_131 t q _ _ _ _ _ _ h
set_option maxRecDepth 100000 in
set_option maxHeartbeats 4000000 in
theorem t_M_sum_63 (t : xS) (q : (Int32 × xS)) (x1 x3 x4 x5 x6 y0 : Int32) (s : xS) (h : f_M_sum_63 x1 x3 x4 x5 x6 y0 s = some q) : xOK 124 none (xEnd 124 (some q.1) (mk t q.2)) (33, [some (.ref 27), some (.int x1), none, some (.int x3), some (.int x4), some (.int x5), some (.int x6), none, none, none, none], [.int y0]) (mk t s) 0 0 := by
  unfold f_M_sum_63 at h
  refine xOK_steps (fr' := (42, [some (.ref 27), some (.int x1), none, some (.int x3), some (.int x4), some (.int x5), some (.int x6), some (.int y0), some (.int ((x3 + x6) + y0)), none, none], [.int x5, .int x3])) (w' := (mk t s)) (ob := true) e_124 hk_124 9 rfl rfl ?_
  obtain ⟨q10, e11, h⟩ := Option.bind_eq_some_iff.mp h
  refine xu_calls (r := (some q10)) (av := [.int x3, .int x5]) (st := []) (w1 := (mk t s)) e_124 hk_124 rfl rfl (m_M_signed _ _ _ _ _ e11) rfl rfl rfl rfl ?_
  refine xOK_steps (fr' := (45, [some (.ref 27), some (.int x1), none, some (.int x3), some (.int x4), some (.int x5), some (.int x6), some (.int y0), some (.int ((x3 + x6) + y0)), none, none], [.int x5, .int x6, .int q10])) (w' := (mk t s)) (ob := true) e_124 hk_124 2 rfl rfl ?_
  obtain ⟨q12, e13, h⟩ := Option.bind_eq_some_iff.mp h
  refine xu_calls (r := (some q12)) (av := [.int x6, .int x5]) (st := [.int q10]) (w1 := (mk t s)) e_124 hk_124 rfl rfl (m_M_signed _ _ _ _ _ e13) rfl rfl rfl rfl ?_
  by_cases o14 : (!(x5 == 0)) = true
  case neg => have h := xif_neg o14 h; cases h
  have h := xif_pos o14 h
  refine xOK_steps (fr' := (57, [some (.ref 27), some (.int x1), none, some (.int x3), some (.int x4), some (.int x5), some (.int x6), some (.int y0), some (.int ((x3 + x6) + y0)), some (.int ((q10 + q12) + y0)), some (.int (xrem ((x3 + x6) + y0) x5))], [.int (9 : Int32), .int x1, .ref 27])) (w' := (mk t s)) (ob := (!(x5 == 0)) && (true)) e_124 hk_124 11 rfl (xand o14 rfl) ?_
  refine xu_icmp_eq e_124 hk_124 rfl (fun c15 => ?_) (fun c15 => ?_)
  · have h := xif_pos c15 h
    refine xOK_steps (fr' := (61, [some (.ref 27), some (.int x1), none, some (.int x3), some (.int x4), some (.int x5), some (.int x6), some (.int y0), some (.int ((x3 + x6) + y0)), some (.int ((q10 + q12) + y0)), some (.int (xrem ((x3 + x6) + y0) x5))], [.int (0 : Int32), .ref 27])) (w' := (mk t s)) (ob := true) e_124 hk_124 1 rfl rfl ?_
    refine xOK_fg [1, 3, 6, 7] ?_
    exact t_M_sum_112 t q _ _ _ _ _ _ _ h
  · have h := xif_neg c15 h
    refine xOK_steps (fr' := (61, [some (.ref 27), some (.int x1), none, some (.int x3), some (.int x4), some (.int x5), some (.int x6), some (.int y0), some (.int ((x3 + x6) + y0)), some (.int ((q10 + q12) + y0)), some (.int (xrem ((x3 + x6) + y0) x5))], [.int (1 : Int32), .ref 27])) (w' := (mk t s)) (ob := true) e_124 hk_124 2 rfl rfl ?_
    refine xOK_fg [1, 3, 6, 7] ?_
    exact t_M_sum_112 t q _ _ _ _ _ _ _ h
set_option maxRecDepth 100000 in
set_option maxHeartbeats 4000000 in
theorem t_M_sum_45 (t : xS) (q : (Int32 × xS)) (x1 x3 x4 x5 x6 : Int32) (s : xS) (h : f_M_sum_45 x1 x3 x4 x5 x6 s = some q) : xOK 124 none (xEnd 124 (some q.1) (mk t q.2)) (23, [some (.ref 27), some (.int x1), none, some (.int x3), some (.int x4), some (.int x5), some (.int x6), none, none, none, none], []) (mk t s) 0 0 := by
  unfold f_M_sum_45 at h
  refine xOK_steps (fr' := (25, [some (.ref 27), some (.int x1), none, some (.int x3), some (.int x4), some (.int x5), some (.int x6), none, none, none, none], [.int (1 : Int32), .ref 27])) (w' := (mk t s)) (ob := true) e_124 hk_124 2 rfl rfl ?_
  obtain ⟨q16, e17, h⟩ := Option.bind_eq_some_iff.mp h
  refine xu_callv (q := 27) (r := (some q16.1)) (av := [.int (1 : Int32)]) (st := []) (w1 := (mk t q16.2)) e_124 hk_124 rfl (m_M_flag _ _ _ _ e17) rfl rfl rfl rfl rfl ?_
  refine xOK_steps (fr' := (33, [some (.ref 27), some (.int x1), none, some (.int x3), some (.int x4), some (.int x5), some (.int x6), none, none, none, none], [.int q16.1])) (w' := (mk t q16.2)) (ob := true) e_124 hk_124 1 rfl rfl ?_
  exact t_M_sum_63 t q _ _ _ _ _ _ _ h
set_option maxRecDepth 100000 in
set_option maxHeartbeats 4000000 in
theorem t_M_sum_31 (t : xS) (q : (Int32 × xS)) (x1 x3 x4 x5 y0 : Int32) (s : xS) (h : f_M_sum_31 x1 x3 x4 x5 y0 s = some q) : xOK 124 none (xEnd 124 (some q.1) (mk t q.2)) (16, [some (.ref 27), some (.int x1), none, some (.int x3), some (.int x4), some (.int x5), none, none, none, none, none], [.int y0]) (mk t s) 0 0 := by
  unfold f_M_sum_31 at h
  refine xOK_steps (fr' := (19, [some (.ref 27), some (.int x1), none, some (.int x3), some (.int x4), some (.int x5), some (.int y0), none, none, none, none], [.int (6 : Int32), .int x1])) (w' := (mk t s)) (ob := true) e_124 hk_124 3 rfl rfl ?_
  refine xu_icmp_eq e_124 hk_124 rfl (fun c18 => ?_) (fun c18 => ?_)
  · have h := xif_pos c18 h
    exact t_M_sum_45 t q _ _ _ _ _ _ h
  · have h := xif_neg c18 h
    refine xOK_steps (fr' := (22, [some (.ref 27), some (.int x1), none, some (.int x3), some (.int x4), some (.int x5), some (.int y0), none, none, none, none], [.int (7 : Int32), .int x1])) (w' := (mk t s)) (ob := true) e_124 hk_124 2 rfl rfl ?_
    refine xu_icmp_ne e_124 hk_124 rfl (fun c19 => ?_) (fun c19 => ?_)
    · have h := xif_neg c19 h
      refine xOK_steps (fr' := (29, [some (.ref 27), some (.int x1), none, some (.int x3), some (.int x4), some (.int x5), some (.int y0), none, none, none, none], [.int (5 : Int32), .int x1])) (w' := (mk t s)) (ob := true) e_124 hk_124 2 rfl rfl ?_
      refine xu_icmp_ne e_124 hk_124 rfl (fun c20 => ?_) (fun c20 => ?_)
      · have h := xif_neg c20 h
        refine xOK_steps (fr' := (33, [some (.ref 27), some (.int x1), none, some (.int x3), some (.int x4), some (.int x5), some (.int y0), none, none, none, none], [.int (1 : Int32)])) (w' := (mk t s)) (ob := true) e_124 hk_124 1 rfl rfl ?_
        exact t_M_sum_63 t q _ _ _ _ _ _ _ h
      · have h := xif_pos c20 h
        refine xOK_steps (fr' := (33, [some (.ref 27), some (.int x1), none, some (.int x3), some (.int x4), some (.int x5), some (.int y0), none, none, none, none], [.int (0 : Int32)])) (w' := (mk t s)) (ob := true) e_124 hk_124 2 rfl rfl ?_
        exact t_M_sum_63 t q _ _ _ _ _ _ _ h
    · have h := xif_pos c19 h
      exact t_M_sum_45 t q _ _ _ _ _ _ h
set_option maxRecDepth 100000 in
set_option maxHeartbeats 4000000 in
theorem t_M_sum_13 (t : xS) (q : (Int32 × xS)) (x1 x2 x3 x4 y0 : Int32) (s : xS) (h : f_M_sum_13 x1 x2 x3 x4 y0 s = some q) : xOK 124 none (xEnd 124 (some q.1) (mk t q.2)) (5, [some (.ref 27), some (.int x1), some (.int x2), some (.int x3), some (.int x4), none, none, none, none, none, none], [.int y0]) (mk t s) 0 0 := by
  unfold f_M_sum_13 at h
  refine xOK_steps (fr' := (8, [some (.ref 27), some (.int x1), some (.int x2), some (.int x3), some (.int x4), some (.int y0), none, none, none, none, none], [.int (7 : Int32), .int x1])) (w' := (mk t s)) (ob := true) e_124 hk_124 3 rfl rfl ?_
  refine xu_icmp_ge e_124 hk_124 rfl (fun c21 => ?_) (fun c21 => ?_)
  · have h := xif_pos c21 h
    refine xOK_steps (fr' := (16, [some (.ref 27), some (.int x1), some (.int x2), some (.int x3), some (.int x4), some (.int y0), none, none, none, none, none], [.int ((y0 - (1 : Int32)) - x2)])) (w' := (mk t s)) (ob := true) e_124 hk_124 5 rfl rfl ?_
    refine xOK_fg [2] ?_
    exact t_M_sum_31 t q _ _ _ _ _ _ h
  · have h := xif_neg c21 h
    refine xOK_steps (fr' := (16, [some (.ref 27), some (.int x1), some (.int x2), some (.int x3), some (.int x4), some (.int y0), none, none, none, none, none], [.int x2])) (w' := (mk t s)) (ob := true) e_124 hk_124 2 rfl rfl ?_
    refine xOK_fg [2] ?_
    exact t_M_sum_31 t q _ _ _ _ _ _ h
set_option maxRecDepth 100000 in
set_option maxHeartbeats 4000000 in
theorem m_M_sum (x1 x2 x3 x4 : Int32) (s t : xS) (q : (Int32 × xS)) (h : f_M_sum x1 x2 x3 x4 s = some q) : xMet 124 [.ref 27, .int x1, .int x2, .int x3, .int x4] (mk t s) (some q.1) (mk t q.2) := by
  refine xMet_of hk_124 rfl rfl rfl ?_
  refine xOK_eq (fr := (0, [some (.ref 27), some (.int x1), some (.int x2), some (.int x3), some (.int x4), none, none, none, none, none, none], [])) rfl ?_
  unfold f_M_sum at h
  refine xOK_steps (fr' := (1, [some (.ref 27), some (.int x1), some (.int x2), some (.int x3), some (.int x4), none, none, none, none, none, none], [.int x4])) (w' := (mk t s)) (ob := true) e_124 hk_124 1 rfl rfl ?_
  refine xu_if_eq e_124 hk_124 rfl (fun c22 => ?_) (fun c22 => ?_)
  · have h := xif_pos c22 h
    refine xOK_steps (fr' := (5, [some (.ref 27), some (.int x1), some (.int x2), some (.int x3), some (.int x4), none, none, none, none, none, none], [.int (65536 : Int32)])) (w' := (mk t s)) (ob := true) e_124 hk_124 1 rfl rfl ?_
    exact t_M_sum_13 t q _ _ _ _ _ _ h
  · have h := xif_neg c22 h
    refine xOK_steps (fr' := (5, [some (.ref 27), some (.int x1), some (.int x2), some (.int x3), some (.int x4), none, none, none, none, none, none], [.int (256 : Int32)])) (w' := (mk t s)) (ob := true) e_124 hk_124 2 rfl rfl ?_
    exact t_M_sum_13 t q _ _ _ _ _ _ h
set_option maxRecDepth 100000 in
set_option maxHeartbeats 4000000 in
theorem t_M_two_226 (t : xS) (q : xS) (s : xS) (h : f_M_two_226  s = some q) : xOK 122 none (xEnd 122 none (mk t q)) (125, [none, none, none, none, none, none, none, none, none, none], []) (mk t s) 0 0 := by
  unfold f_M_two_226 at h
  cases h
  exact xu_vret e_122 hk_122 rfl rfl
set_option maxRecDepth 100000 in
set_option maxHeartbeats 4000000 in
theorem t_M_two_205 (t : xS) (q : xS) (x1 x3 y0 : Int32) (s : xS) (h : f_M_two_205 x1 x3 y0 s = some q) : xOK 122 none (xEnd 122 none (mk t q)) (114, [some (.ref 27), some (.int x1), none, some (.int x3), none, none, none, none, none, none], [.int y0]) (mk t s) 0 0 := by
  unfold f_M_two_205 at h
  refine xOK_steps (fr' := (117, [some (.ref 27), some (.int x1), none, some (.int x3), none, none, none, none, none, some (.int y0)], [.int (9 : Int32), .int x1])) (w' := (mk t s)) (ob := true) e_122 hk_122 3 rfl rfl ?_
  refine xu_icmp_eq e_122 hk_122 rfl (fun c1 => ?_) (fun c1 => ?_)
  · have h := xif_pos c1 h
    refine xOK_fg [0, 1, 3, 9] ?_
    exact t_M_two_226 t q  _ h
  · have h := xif_neg c1 h
    refine xOK_steps (fr' := (120, [some (.ref 27), some (.int x1), none, some (.int x3), none, none, none, none, none, some (.int y0)], [.int (11 : Int32), .int x1])) (w' := (mk t s)) (ob := true) e_122 hk_122 2 rfl rfl ?_
    refine xu_icmp_eq e_122 hk_122 rfl (fun c2 => ?_) (fun c2 => ?_)
    · have h := xif_pos c2 h
      refine xOK_fg [0, 1, 3, 9] ?_
      exact t_M_two_226 t q  _ h
    · have h := xif_neg c2 h
      refine xOK_steps (fr' := (124, [some (.ref 27), some (.int x1), none, some (.int x3), none, none, none, none, none, some (.int y0)], [.int x3, .int y0, .ref 27])) (w' := (mk t s)) (ob := true) e_122 hk_122 3 rfl rfl ?_
      obtain ⟨q3, e4, h⟩ := Option.bind_eq_some_iff.mp h
      refine xu_callv (q := 27) (r := none) (av := [.int y0, .int x3]) (st := []) (w1 := (mk t q3)) e_122 hk_122 rfl (m_M_back _ _ _ _ _ e4) rfl rfl rfl rfl rfl ?_
      refine xOK_fg [0, 1, 3, 9] ?_
      exact t_M_two_226 t q  _ h
set_option maxRecDepth 100000 in
set_option maxHeartbeats 4000000 in
theorem t_M_two_148 (t : xS) (q : xS) (x1 x3 x5 x8 : Int32) (s : xS) (h : f_M_two_148 x1 x3 x5 x8 s = some q) : xOK 122 none (xEnd 122 none (mk t q)) (84, [some (.ref 27), some (.int x1), none, some (.int x3), none, some (.int x5), none, none, some (.int x8), none], []) (mk t s) 0 0 := by
  unfold f_M_two_148 at h
  refine xOK_steps (fr' := (86, [some (.ref 27), some (.int x1), none, some (.int x3), none, some (.int x5), none, none, some (.int x8), none], [.int (4 : Int32), .int x1])) (w' := (mk t s)) (ob := true) e_122 hk_122 2 rfl rfl ?_
  refine xu_icmp_ne e_122 hk_122 rfl (fun c5 => ?_) (fun c5 => ?_)
  · have h := xif_neg c5 h
    refine xOK_steps (fr' := (91, [some (.ref 27), some (.int x1), none, some (.int x3), none, some (.int x5), none, none, some (.int x8), none], [.int (10 : Int32), .int x1])) (w' := (mk t s)) (ob := true) e_122 hk_122 2 rfl rfl ?_
    refine xu_icmp_ge e_122 hk_122 rfl (fun c6 => ?_) (fun c6 => ?_)
    · have h := xif_pos c6 h
      refine xOK_steps (fr' := (101, [some (.ref 27), some (.int x1), none, some (.int x3), none, some (.int x5), none, none, some (.int x8), none], [.int (10 : Int32), .int x1])) (w' := (mk t s)) (ob := true) e_122 hk_122 2 rfl rfl ?_
      refine xu_icmp_ne e_122 hk_122 rfl (fun c7 => ?_) (fun c7 => ?_)
      · have h := xif_neg c7 h
        refine xOK_steps (fr' := (113, [some (.ref 27), some (.int x1), none, some (.int x3), none, some (.int x5), none, none, some (.int x8), none], [.int x3, .int x8, .int x5, .int x1, .ref 27])) (w' := (mk t s)) (ob := true) e_122 hk_122 5 rfl rfl ?_
        obtain ⟨q8, e9, h⟩ := Option.bind_eq_some_iff.mp h
        refine xu_callv (q := 27) (r := (some q8.1)) (av := [.int x1, .int x5, .int x8, .int x3]) (st := []) (w1 := (mk t q8.2)) e_122 hk_122 rfl (m_M_bits _ _ _ _ _ _ _ e9) rfl rfl rfl rfl rfl ?_
        refine xOK_fg [5, 8] ?_
        exact t_M_two_205 t q _ _ _ _ h
      · have h := xif_pos c7 h
        refine xOK_steps (fr' := (106, [some (.ref 27), some (.int x1), none, some (.int x3), none, some (.int x5), none, none, some (.int x8), none], [.int x3, .int x8, .int x5, .ref 27])) (w' := (mk t s)) (ob := true) e_122 hk_122 4 rfl rfl ?_
        obtain ⟨q10, e11, h⟩ := Option.bind_eq_some_iff.mp h
        refine xu_callv (q := 27) (r := (some q10.1)) (av := [.int x5, .int x8, .int x3]) (st := []) (w1 := (mk t q10.2)) e_122 hk_122 rfl (m_M_decimal _ _ _ _ _ _ e11) rfl rfl rfl rfl rfl ?_
        refine xOK_steps (fr' := (114, [some (.ref 27), some (.int x1), none, some (.int x3), none, some (.int x5), none, none, some (.int x8), none], [.int q10.1])) (w' := (mk t q10.2)) (ob := true) e_122 hk_122 1 rfl rfl ?_
        refine xOK_fg [5, 8] ?_
        exact t_M_two_205 t q _ _ _ _ h
    · have h := xif_neg c6 h
      refine xOK_steps (fr' := (97, [some (.ref 27), some (.int x1), none, some (.int x3), none, some (.int x5), none, none, some (.int x8), none], [.int x3, .int x8, .int x5, .int x1, .ref 27])) (w' := (mk t s)) (ob := true) e_122 hk_122 5 rfl rfl ?_
      obtain ⟨q12, e13, h⟩ := Option.bind_eq_some_iff.mp h
      refine xu_callv (q := 27) (r := (some q12.1)) (av := [.int x1, .int x5, .int x8, .int x3]) (st := []) (w1 := (mk t q12.2)) e_122 hk_122 rfl (m_M_sum _ _ _ _ _ _ _ e13) rfl rfl rfl rfl rfl ?_
      refine xOK_steps (fr' := (114, [some (.ref 27), some (.int x1), none, some (.int x3), none, some (.int x5), none, none, some (.int x8), none], [.int q12.1])) (w' := (mk t q12.2)) (ob := true) e_122 hk_122 1 rfl rfl ?_
      refine xOK_fg [5, 8] ?_
      exact t_M_two_205 t q _ _ _ _ h
  · have h := xif_pos c5 h
    refine xOK_steps (fr' := (114, [some (.ref 27), some (.int x1), none, some (.int x3), none, some (.int x5), none, none, some (.int x8), none], [.int x5])) (w' := (mk t s)) (ob := true) e_122 hk_122 2 rfl rfl ?_
    refine xOK_fg [5, 8] ?_
    exact t_M_two_205 t q _ _ _ _ h
set_option maxRecDepth 100000 in
set_option maxHeartbeats 4000000 in
theorem t_M_two_131 (t : xS) (q : xS) (x1 x3 x5 y0 : Int32) (s : xS) (h : f_M_two_131 x1 x3 x5 y0 s = some q) : xOK 122 none (xEnd 122 none (mk t q)) (75, [some (.ref 27), some (.int x1), none, some (.int x3), none, some (.int x5), none, none, none, none], [.int y0]) (mk t s) 0 0 := by
  unfold f_M_two_131 at h
  refine xOK_steps (fr' := (84, [some (.ref 27), some (.int x1), none, some (.int x3), none, some (.int x5), none, none, some (.int y0), none], [])) (w' := (mk t s)) (ob := true) e_122 hk_122 2 rfl rfl ?_
  exact t_M_two_148 t q _ _ _ _ _ h
set_option maxRecDepth 100000 in
set_option maxHeartbeats 4000000 in
theorem t_M_two_86 (t : xS) (q : xS) (x1 x3 x4 x5 x6 x7 y1 : Int32) (s : xS) (h : f_M_two_86 x1 x3 x4 x5 x6 x7 y1 s = some q) : xOK 122 none (xEnd 122 none (mk t q)) (52, [some (.ref 27), some (.int x1), none, some (.int x3), some (.int x4), some (.int x5), some (.int x6), some (.int x7), none, none], [.int y1, .ref 27]) (mk t s) 0 0 := by
  unfold f_M_two_86 at h
  refine xOK_steps (fr' := (59, [some (.ref 27), some (.int x1), none, some (.int x3), some (.int x4), some (.int x5), some (.int x6), some (.int x7), some (.int (0 : Int32)), none], [.int x6])) (w' := (mk t (xsc (xsc s 20 y1) 21 x4))) (ob := true) e_122 hk_122 7 rfl rfl ?_
  refine xu_if_eq e_122 hk_122 rfl (fun c14 => ?_) (fun c14 => ?_)
  · have h := xif_pos c14 h
    by_cases o15 : xin x4 16 = true
    case neg => have h := xif_neg o15 h; cases h
    have h := xif_pos o15 h
    by_cases o16 : (!(x7 == 0)) = true
    case neg => have h := xif_neg o16 h; cases h
    have h := xif_pos o16 h
    refine xOK_steps (fr' := (84, [some (.ref 27), some (.int x1), none, some (.int x3), some (.int x4), some (.int x5), some (.int x6), some (.int x7), some (.int (xrem ((s.2 0) (x4).toNatClampNeg) x7)), none], [])) (w' := (mk t (xsc (xsc s 20 y1) 21 x4))) (ob := xin x4 16 && ((!(x7 == 0)) && (true))) e_122 hk_122 7 rfl (xand o15 (xand o16 rfl)) ?_
    refine xOK_fg [4, 6, 7] ?_
    exact t_M_two_148 t q _ _ _ _ _ h
  · have h := xif_neg c14 h
    refine xOK_steps (fr' := (63, [some (.ref 27), some (.int x1), none, some (.int x3), some (.int x4), some (.int x5), some (.int x6), some (.int x7), some (.int (0 : Int32)), none], [.int x4, .ref 27, .ref 27])) (w' := (mk t (xsc (xsc s 20 y1) 21 x4))) (ob := true) e_122 hk_122 3 rfl rfl ?_
    obtain ⟨q17, e18, h⟩ := Option.bind_eq_some_iff.mp h
    refine xu_callv (q := 27) (r := (some q17.1)) (av := [.int x4]) (st := [.ref 27]) (w1 := (mk t q17.2)) e_122 hk_122 rfl (m_M_indexed _ _ _ _ e18) rfl rfl rfl rfl rfl ?_
    refine xOK_steps (fr' := (67, [some (.ref 27), some (.int x1), none, some (.int x3), some (.int x4), some (.int x5), some (.int x6), some (.int x7), some (.int (0 : Int32)), none], [.int (4 : Int32), .int x1])) (w' := (mk t (xsc q17.2 21 q17.1))) (ob := true) e_122 hk_122 3 rfl rfl ?_
    refine xu_icmp_ne e_122 hk_122 rfl (fun c19 => ?_) (fun c19 => ?_)
    · have h := xif_neg c19 h
      refine xOK_steps (fr' := (74, [some (.ref 27), some (.int x1), none, some (.int x3), some (.int x4), some (.int x5), some (.int x6), some (.int x7), some (.int (0 : Int32)), none], [.int x3, .int q17.1, .ref 27])) (w' := (mk t (xsc q17.2 21 q17.1))) (ob := true) e_122 hk_122 4 rfl rfl ?_
      obtain ⟨q20, e21, h⟩ := Option.bind_eq_some_iff.mp h
      refine xu_callv (q := 27) (r := (some q20.1)) (av := [.int q17.1, .int x3]) (st := []) (w1 := (mk t q20.2)) e_122 hk_122 rfl (m_M_loaded _ _ _ _ _ e21) rfl rfl rfl rfl rfl ?_
      refine xOK_fg [4, 6, 7, 8] ?_
      exact t_M_two_131 t q _ _ _ _ _ h
    · have h := xif_pos c19 h
      refine xOK_steps (fr' := (75, [some (.ref 27), some (.int x1), none, some (.int x3), some (.int x4), some (.int x5), some (.int x6), some (.int x7), some (.int (0 : Int32)), none], [.int (0 : Int32)])) (w' := (mk t (xsc q17.2 21 q17.1))) (ob := true) e_122 hk_122 2 rfl rfl ?_
      refine xOK_fg [4, 6, 7, 8] ?_
      exact t_M_two_131 t q _ _ _ _ _ h
set_option maxRecDepth 100000 in
set_option maxHeartbeats 4000000 in
theorem t_M_two_73 (t : xS) (q : xS) (x1 x3 x4 x5 x6 y0 : Int32) (s : xS) (h : f_M_two_73 x1 x3 x4 x5 x6 y0 s = some q) : xOK 122 none (xEnd 122 none (mk t q)) (45, [some (.ref 27), some (.int x1), none, some (.int x3), some (.int x4), some (.int x5), some (.int x6), none, none, none], [.int y0]) (mk t s) 0 0 := by
  unfold f_M_two_73 at h
  refine xOK_steps (fr' := (48, [some (.ref 27), some (.int x1), none, some (.int x3), some (.int x4), some (.int x5), some (.int x6), some (.int y0), none, none], [.int x6, .ref 27])) (w' := (mk t s)) (ob := true) e_122 hk_122 3 rfl rfl ?_
  refine xu_if_eq e_122 hk_122 rfl (fun c22 => ?_) (fun c22 => ?_)
  · have h := xif_pos c22 h
    refine xOK_steps (fr' := (52, [some (.ref 27), some (.int x1), none, some (.int x3), some (.int x4), some (.int x5), some (.int x6), some (.int y0), none, none], [.int (1 : Int32), .ref 27])) (w' := (mk t s)) (ob := true) e_122 hk_122 1 rfl rfl ?_
    exact t_M_two_86 t q _ _ _ _ _ _ _ _ h
  · have h := xif_neg c22 h
    refine xOK_steps (fr' := (52, [some (.ref 27), some (.int x1), none, some (.int x3), some (.int x4), some (.int x5), some (.int x6), some (.int y0), none, none], [.int (2 : Int32), .ref 27])) (w' := (mk t s)) (ob := true) e_122 hk_122 2 rfl rfl ?_
    exact t_M_two_86 t q _ _ _ _ _ _ _ _ h
set_option maxRecDepth 100000 in
set_option maxHeartbeats 4000000 in
theorem t_M_two_59 (t : xS) (q : xS) (x1 x3 x4 x5 y0 : Int32) (s : xS) (h : f_M_two_59 x1 x3 x4 x5 y0 s = some q) : xOK 122 none (xEnd 122 none (mk t q)) (39, [some (.ref 27), some (.int x1), none, some (.int x3), some (.int x4), some (.int x5), none, none, none, none], [.int y0]) (mk t s) 0 0 := by
  unfold f_M_two_59 at h
  refine xOK_steps (fr' := (41, [some (.ref 27), some (.int x1), none, some (.int x3), some (.int x4), some (.int x5), some (.int y0), none, none, none], [.int x3])) (w' := (mk t s)) (ob := true) e_122 hk_122 2 rfl rfl ?_
  refine xu_if_eq e_122 hk_122 rfl (fun c23 => ?_) (fun c23 => ?_)
  · have h := xif_pos c23 h
    refine xOK_steps (fr' := (45, [some (.ref 27), some (.int x1), none, some (.int x3), some (.int x4), some (.int x5), some (.int y0), none, none, none], [.int (65536 : Int32)])) (w' := (mk t s)) (ob := true) e_122 hk_122 1 rfl rfl ?_
    exact t_M_two_73 t q _ _ _ _ _ _ _ h
  · have h := xif_neg c23 h
    refine xOK_steps (fr' := (45, [some (.ref 27), some (.int x1), none, some (.int x3), some (.int x4), some (.int x5), some (.int y0), none, none, none], [.int (256 : Int32)])) (w' := (mk t s)) (ob := true) e_122 hk_122 2 rfl rfl ?_
    exact t_M_two_73 t q _ _ _ _ _ _ _ h
set_option maxRecDepth 100000 in
set_option maxHeartbeats 4000000 in
theorem t_M_two_15 (t : xS) (q : xS) (x1 x2 y0 : Int32) (s : xS) (h : f_M_two_15 x1 x2 y0 s = some q) : xOK 122 none (xEnd 122 none (mk t q)) (10, [some (.ref 27), some (.int x1), some (.int x2), none, none, none, none, none, none, none], [.int y0]) (mk t s) 0 0 := by
  unfold f_M_two_15 at h
  refine xOK_steps (fr' := (27, [some (.ref 27), some (.int x1), some (.int x2), some (.int y0), some (.int (xrem x2 (16 : Int32))), none, none, none, none, none], [.int y0, .int (xrem (x2 / (16 : Int32)) (4 : Int32)), .int (xrem (x2 / (256 : Int32)) (16 : Int32)), .ref 27])) (w' := (mk t s)) (ob := true) e_122 hk_122 17 rfl rfl ?_
  obtain ⟨q24, e25, h⟩ := Option.bind_eq_some_iff.mp h
  refine xu_callv (q := 27) (r := (some q24.1)) (av := [.int (xrem (x2 / (256 : Int32)) (16 : Int32)), .int (xrem (x2 / (16 : Int32)) (4 : Int32)), .int y0]) (st := []) (w1 := (mk t q24.2)) e_122 hk_122 rfl (m_M_operand _ _ _ _ _ _ e25) rfl rfl rfl rfl rfl ?_
  refine xOK_steps (fr' := (35, [some (.ref 27), some (.int x1), some (.int x2), some (.int y0), some (.int (xrem x2 (16 : Int32))), some (.int q24.1), none, none, none, none], [.int (1 : Int32), .int (xrem (x2 / (128 : Int32)) (2 : Int32))])) (w' := (mk t q24.2)) (ob := true) e_122 hk_122 7 rfl rfl ?_
  refine xu_icmp_ne e_122 hk_122 rfl (fun c26 => ?_) (fun c26 => ?_)
  · have h := xif_neg c26 h
    refine xOK_steps (fr' := (39, [some (.ref 27), some (.int x1), some (.int x2), some (.int y0), some (.int (xrem x2 (16 : Int32))), some (.int q24.1), none, none, none, none], [.int (0 : Int32)])) (w' := (mk t q24.2)) (ob := true) e_122 hk_122 1 rfl rfl ?_
    refine xOK_fg [2] ?_
    exact t_M_two_59 t q _ _ _ _ _ _ h
  · have h := xif_pos c26 h
    refine xOK_steps (fr' := (39, [some (.ref 27), some (.int x1), some (.int x2), some (.int y0), some (.int (xrem x2 (16 : Int32))), some (.int q24.1), none, none, none, none], [.int (1 : Int32)])) (w' := (mk t q24.2)) (ob := true) e_122 hk_122 2 rfl rfl ?_
    refine xOK_fg [2] ?_
    exact t_M_two_59 t q _ _ _ _ _ _ h
set_option maxRecDepth 100000 in
set_option maxHeartbeats 4000000 in
theorem m_M_two (x1 x2 : Int32) (s t : xS) (q : xS) (h : f_M_two x1 x2 s = some q) : xMet 122 [.ref 27, .int x1, .int x2] (mk t s) none (mk t q) := by
  refine xMet_of hk_122 rfl rfl rfl ?_
  refine xOK_eq (fr := (0, [some (.ref 27), some (.int x1), some (.int x2), none, none, none, none, none, none, none], [])) rfl ?_
  unfold f_M_two at h
  refine xOK_steps (fr' := (6, [some (.ref 27), some (.int x1), some (.int x2), none, none, none, none, none, none, none], [.int (1 : Int32), .int (xrem (x2 / (64 : Int32)) (2 : Int32))])) (w' := (mk t s)) (ob := true) e_122 hk_122 6 rfl rfl ?_
  refine xu_icmp_ne e_122 hk_122 rfl (fun c27 => ?_) (fun c27 => ?_)
  · have h := xif_neg c27 h
    refine xOK_steps (fr' := (10, [some (.ref 27), some (.int x1), some (.int x2), none, none, none, none, none, none, none], [.int (0 : Int32)])) (w' := (mk t s)) (ob := true) e_122 hk_122 1 rfl rfl ?_
    exact t_M_two_15 t q _ _ _ _ h
  · have h := xif_pos c27 h
    refine xOK_steps (fr' := (10, [some (.ref 27), some (.int x1), some (.int x2), none, none, none, none, none, none, none], [.int (1 : Int32)])) (w' := (mk t s)) (ob := true) e_122 hk_122 2 rfl rfl ?_
    exact t_M_two_15 t q _ _ _ _ h
set_option maxRecDepth 100000 in
set_option maxHeartbeats 4000000 in
theorem t_M_instruction_60 (t : xS) (q : xS) (s : xS) (h : f_M_instruction_60  s = some q) : xOK 120 none (xEnd 120 none (mk t q)) (35, [none, none, none], []) (mk t s) 0 0 := by
  unfold f_M_instruction_60 at h
  cases h
  exact xu_vret e_120 hk_120 rfl rfl
set_option maxRecDepth 100000 in
set_option maxHeartbeats 4000000 in
theorem m_M_instruction (s t : xS) (q : xS) (h : f_M_instruction  s = some q) : xMet 120 [.ref 27] (mk t s) none (mk t q) := by
  refine xMet_of hk_120 rfl rfl rfl ?_
  refine xOK_eq (fr := (0, [some (.ref 27), none, none], [])) rfl ?_
  unfold f_M_instruction at h
  refine xOK_steps (fr' := (1, [some (.ref 27), none, none], [.ref 27])) (w' := (mk t s)) (ob := true) e_120 hk_120 1 rfl rfl ?_
  obtain ⟨q1, e2, h⟩ := Option.bind_eq_some_iff.mp h
  refine xu_callv (q := 27) (r := (some q1.1)) (av := []) (st := []) (w1 := (mk t q1.2)) e_120 hk_120 rfl (m_M_fetch  _ _ _ e2) rfl rfl rfl rfl rfl ?_
  refine xOK_steps (fr' := (9, [some (.ref 27), some (.int q1.1), some (.int (q1.1 / (4096 : Int32)))], [.int (3 : Int32), .int (q1.1 / (4096 : Int32))])) (w' := (mk t q1.2)) (ob := true) e_120 hk_120 7 rfl rfl ?_
  refine xu_icmp_le e_120 hk_120 rfl (fun c3 => ?_) (fun c3 => ?_)
  · have h := xif_pos c3 h
    refine xOK_steps (fr' := (17, [some (.ref 27), some (.int q1.1), some (.int (q1.1 / (4096 : Int32)))], [.int (1 : Int32), .int (q1.1 / (4096 : Int32))])) (w' := (mk t q1.2)) (ob := true) e_120 hk_120 2 rfl rfl ?_
    refine xu_icmp_le e_120 hk_120 rfl (fun c4 => ?_) (fun c4 => ?_)
    · have h := xif_pos c4 h
      refine xOK_steps (fr' := (26, [some (.ref 27), some (.int q1.1), some (.int (q1.1 / (4096 : Int32)))], [.int (4 : Int32), .int (q1.1 / (1024 : Int32))])) (w' := (mk t q1.2)) (ob := true) e_120 hk_120 4 rfl rfl ?_
      refine xu_icmp_ne e_120 hk_120 rfl (fun c5 => ?_) (fun c5 => ?_)
      · have h := xif_neg c5 h
        refine xOK_fg [0, 1, 2] ?_
        exact t_M_instruction_60 t q  _ h
      · have h := xif_pos c5 h
        refine xOK_steps (fr' := (34, [some (.ref 27), some (.int q1.1), some (.int (q1.1 / (4096 : Int32)))], [.int q1.1, .int (xrem (q1.1 / (128 : Int32)) (8 : Int32)), .ref 27])) (w' := (mk t q1.2)) (ob := true) e_120 hk_120 7 rfl rfl ?_
        obtain ⟨q6, e7, h⟩ := Option.bind_eq_some_iff.mp h
        refine xu_callv (q := 27) (r := none) (av := [.int (xrem (q1.1 / (128 : Int32)) (8 : Int32)), .int q1.1]) (st := []) (w1 := (mk t q6)) e_120 hk_120 rfl (m_M_one _ _ _ _ _ e7) rfl rfl rfl rfl rfl ?_
        refine xOK_fg [0, 1, 2] ?_
        exact t_M_instruction_60 t q  _ h
    · have h := xif_neg c4 h
      refine xOK_steps (fr' := (20, [some (.ref 27), some (.int q1.1), some (.int (q1.1 / (4096 : Int32)))], [.int q1.1, .ref 27])) (w' := (mk t q1.2)) (ob := true) e_120 hk_120 2 rfl rfl ?_
      obtain ⟨q8, e9, h⟩ := Option.bind_eq_some_iff.mp h
      refine xu_callv (q := 27) (r := none) (av := [.int q1.1]) (st := []) (w1 := (mk t q8)) e_120 hk_120 rfl (m_M_jump _ _ _ _ e9) rfl rfl rfl rfl rfl ?_
      refine xOK_steps (fr' := (35, [some (.ref 27), some (.int q1.1), some (.int (q1.1 / (4096 : Int32)))], [])) (w' := (mk t q8)) (ob := true) e_120 hk_120 1 rfl rfl ?_
      refine xOK_fg [0, 1, 2] ?_
      exact t_M_instruction_60 t q  _ h
  · have h := xif_neg c3 h
    refine xOK_steps (fr' := (13, [some (.ref 27), some (.int q1.1), some (.int (q1.1 / (4096 : Int32)))], [.int q1.1, .int (q1.1 / (4096 : Int32)), .ref 27])) (w' := (mk t q1.2)) (ob := true) e_120 hk_120 3 rfl rfl ?_
    obtain ⟨q10, e11, h⟩ := Option.bind_eq_some_iff.mp h
    refine xu_callv (q := 27) (r := none) (av := [.int (q1.1 / (4096 : Int32)), .int q1.1]) (st := []) (w1 := (mk t q10)) e_120 hk_120 rfl (m_M_two _ _ _ _ _ e11) rfl rfl rfl rfl rfl ?_
    refine xOK_steps (fr' := (35, [some (.ref 27), some (.int q1.1), some (.int (q1.1 / (4096 : Int32)))], [])) (w' := (mk t q10)) (ob := true) e_120 hk_120 1 rfl rfl ?_
    refine xOK_fg [0, 1, 2] ?_
    exact t_M_instruction_60 t q  _ h
set_option maxRecDepth 100000 in
set_option maxHeartbeats 4000000 in
theorem t_M_finish_151 (t : xS) (q : xS) (y1 : Int32) (s : xS) (h : f_M_finish_151 y1 s = some q) : xOK 102 none (xEnd 102 none (mk t q)) (81, [none, none], [.int y1, .ref 27]) (mk t s) 0 0 := by
  unfold f_M_finish_151 at h
  refine xOK_steps (fr' := (82, [none, none], [])) (w' := (mk t (xsc s 14 y1))) (ob := true) e_102 hk_102 1 rfl rfl ?_
  cases h
  exact xu_vret e_102 hk_102 rfl rfl
set_option maxRecDepth 100000 in
set_option maxHeartbeats 4000000 in
theorem t_M_finish_66 (t : xS) (q : xS) (s : xS) (h : f_M_finish_66  s = some q) : xOK 102 none (xEnd 102 none (mk t q)) (34, [none, none], []) (mk t s) 0 0 := by
  unfold f_M_finish_66 at h
  cases h
  exact xu_vret e_102 hk_102 rfl rfl
set_option maxRecDepth 100000 in
set_option maxHeartbeats 4000000 in
theorem t_M_finish_41 (t : xS) (q : xS) : ∀ (n : Nat), ∀ (s : xS), f_M_finish_41 n  s = some q → xOK 102 none (xEnd 102 none (mk t q)) (23, [some (.ref 27), none], []) (mk t s) 0 0 := by
  intro n
  induction n with
  | zero => intro s h; cases h
  | succ n ih =>
    intro s h
    unfold f_M_finish_41 at h
    refine xOK_steps (fr' := (27, [some (.ref 27), none], [.int (s.1 6), .int (s.1 7)])) (w' := (mk t s)) (ob := true) e_102 hk_102 4 rfl rfl ?_
    refine xu_icmp_ge e_102 hk_102 rfl (fun c1 => ?_) (fun c1 => ?_)
    · have h := xif_pos c1 h
      refine xOK_steps (fr' := (59, [some (.ref 27), none], [.ref 27])) (w' := (mk t s)) (ob := true) e_102 hk_102 1 rfl rfl ?_
      obtain ⟨q2, e3, h⟩ := Option.bind_eq_some_iff.mp h
      refine xu_callv (q := 27) (r := (some q2.1)) (av := []) (st := []) (w1 := (mk t q2.2)) e_102 hk_102 rfl (m_M_write  _ _ _ e3) rfl rfl rfl rfl rfl ?_
      refine xu_if_ne e_102 hk_102 rfl (fun c4 => ?_) (fun c4 => ?_)
      · have h := xif_neg c4 h
        refine xOK_steps (fr' := (66, [some (.ref 27), none], [.ref 27])) (w' := (mk t (xsc q2.2 11 (0 : Int32)))) (ob := true) e_102 hk_102 4 rfl rfl ?_
        obtain ⟨q5, e6, h⟩ := Option.bind_eq_some_iff.mp h
        refine xu_callv (q := 27) (r := (some q5.1)) (av := []) (st := []) (w1 := (mk t q5.2)) e_102 hk_102 rfl (m_M_write  _ _ _ e6) rfl rfl rfl rfl rfl ?_
        refine xu_if_ne e_102 hk_102 rfl (fun c7 => ?_) (fun c7 => ?_)
        · have h := xif_neg c7 h
          refine xOK_steps (fr' := (73, [some (.ref 27), none], [.ref 27])) (w' := (mk t (xsc q5.2 9 (0 : Int32)))) (ob := true) e_102 hk_102 4 rfl rfl ?_
          obtain ⟨q8, e9, h⟩ := Option.bind_eq_some_iff.mp h
          refine xu_callv (q := 27) (r := none) (av := []) (st := []) (w1 := (mk t q8)) e_102 hk_102 rfl (m_M_fresh  _ _ _ e9) rfl rfl rfl rfl rfl ?_
          refine xOK_steps (fr' := (77, [some (.ref 27), none], [.int (q8.1 8), .ref 27])) (w' := (mk t q8)) (ob := true) e_102 hk_102 3 rfl rfl ?_
          refine xu_if_eq e_102 hk_102 rfl (fun c10 => ?_) (fun c10 => ?_)
          · have h := xif_pos c10 h
            refine xOK_steps (fr' := (81, [some (.ref 27), none], [.int (1 : Int32), .ref 27])) (w' := (mk t q8)) (ob := true) e_102 hk_102 1 rfl rfl ?_
            refine xOK_fg [0] ?_
            exact t_M_finish_151 t q _ _ h
          · have h := xif_neg c10 h
            refine xOK_steps (fr' := (81, [some (.ref 27), none], [.int (3 : Int32), .ref 27])) (w' := (mk t q8)) (ob := true) e_102 hk_102 2 rfl rfl ?_
            refine xOK_fg [0] ?_
            exact t_M_finish_151 t q _ _ h
        · have h := xif_pos c7 h
          cases h
          exact xu_vret e_102 hk_102 rfl rfl
      · have h := xif_pos c4 h
        cases h
        exact xu_vret e_102 hk_102 rfl rfl
    · have h := xif_neg c1 h
      refine xOK_steps (fr' := (29, [some (.ref 27), none], [.ref 27])) (w' := (mk t s)) (ob := true) e_102 hk_102 1 rfl rfl ?_
      obtain ⟨q11, e12, h⟩ := Option.bind_eq_some_iff.mp h
      refine xu_callv (q := 27) (r := (some q11.1)) (av := []) (st := []) (w1 := (mk t q11.2)) e_102 hk_102 rfl (m_M_write  _ _ _ e12) rfl rfl rfl rfl rfl ?_
      refine xu_if_eq e_102 hk_102 rfl (fun c13 => ?_) (fun c13 => ?_)
      · have h := xif_pos c13 h
        refine xOK_fg [0] ?_
        exact t_M_finish_66 t q  _ h
      · have h := xif_neg c13 h
        refine xOK_steps (fr' := (32, [some (.ref 27), none], [.ref 27])) (w' := (mk t q11.2)) (ob := true) e_102 hk_102 1 rfl rfl ?_
        obtain ⟨q14, e15, h⟩ := Option.bind_eq_some_iff.mp h
        refine xu_callv (q := 27) (r := (some q14.1)) (av := []) (st := []) (w1 := (mk t q14.2)) e_102 hk_102 rfl (m_M_write  _ _ _ e15) rfl rfl rfl rfl rfl ?_
        refine xu_if_ne e_102 hk_102 rfl (fun c16 => ?_) (fun c16 => ?_)
        · have h := xif_neg c16 h
          by_cases o17 : xin (q14.2.1 7) 8 = true
          case neg => have h := xif_neg o17 h; cases h
          have h := xif_pos o17 h
          by_cases o18 : xin (q14.2.1 13) 200 = true
          case neg => have h := xif_neg o18 h; cases h
          have h := xif_pos o18 h
          refine xOK_steps (fr' := (23, [some (.ref 27), none], [])) (w' := (mk t (xsc (xsc (xsa q14.2 14 (q14.2.1 13).toNatClampNeg ((q14.2.2 11) (q14.2.1 7).toNatClampNeg)) 13 ((q14.2.1 13) + (1 : Int32))) 7 ((q14.2.1 7) + (1 : Int32))))) (ob := xin (q14.2.1 7) 8 && (xin (q14.2.1 13) 200 && (true))) e_102 hk_102 23 rfl (xand o17 (xand o18 rfl)) ?_
          exact ih  _ h
        · have h := xif_pos c16 h
          refine xOK_fg [0] ?_
          exact t_M_finish_66 t q  _ h
set_option maxRecDepth 100000 in
set_option maxHeartbeats 4000000 in
theorem t_M_finish_2 (t : xS) (q : xS) : ∀ (n : Nat), ∀ (x1 : Int32) (s : xS), f_M_finish_2 n x1 s = some q → xOK 102 none (xEnd 102 none (mk t q)) (2, [some (.ref 27), some (.int x1)], []) (mk t s) 0 0 := by
  intro n
  induction n with
  | zero => intro x1 s h; cases h
  | succ n ih =>
    intro x1 s h
    unfold f_M_finish_2 at h
    refine xOK_steps (fr' := (5, [some (.ref 27), some (.int x1)], [.int (s.1 5), .int x1])) (w' := (mk t s)) (ob := true) e_102 hk_102 3 rfl rfl ?_
    refine xu_icmp_ge e_102 hk_102 rfl (fun c19 => ?_) (fun c19 => ?_)
    · have h := xif_pos c19 h
      refine xOK_fg [1] ?_
      exact t_M_finish_41 t q _  _ h
    · have h := xif_neg c19 h
      refine xOK_steps (fr' := (7, [some (.ref 27), some (.int x1)], [.ref 27])) (w' := (mk t s)) (ob := true) e_102 hk_102 1 rfl rfl ?_
      obtain ⟨q20, e21, h⟩ := Option.bind_eq_some_iff.mp h
      refine xu_callv (q := 27) (r := (some q20.1)) (av := []) (st := []) (w1 := (mk t q20.2)) e_102 hk_102 rfl (m_M_write  _ _ _ e21) rfl rfl rfl rfl rfl ?_
      refine xu_if_ne e_102 hk_102 rfl (fun c22 => ?_) (fun c22 => ?_)
      · have h := xif_neg c22 h
        by_cases o23 : xin x1 8 = true
        case neg => have h := xif_neg o23 h; cases h
        have h := xif_pos o23 h
        by_cases o24 : xin x1 8 = true
        case neg => have h := xif_neg o24 h; cases h
        have h := xif_pos o24 h
        by_cases o25 : xin ((q20.2.2 9) (x1).toNatClampNeg) 128 = true
        case neg => have h := xif_neg o25 h; cases h
        have h := xif_pos o25 h
        refine xOK_steps (fr' := (2, [some (.ref 27), some (.int (x1 + (1 : Int32)))], [])) (w' := (mk t (xsa q20.2 2 ((q20.2.2 9) (x1).toNatClampNeg).toNatClampNeg ((q20.2.2 10) (x1).toNatClampNeg)))) (ob := xin x1 8 && (xin x1 8 && (xin ((q20.2.2 9) (x1).toNatClampNeg) 128 && (true)))) e_102 hk_102 13 rfl (xand o23 (xand o24 (xand o25 rfl))) ?_
        exact ih _ _ h
      · have h := xif_pos c22 h
        cases h
        exact xu_vret e_102 hk_102 rfl rfl
set_option maxRecDepth 100000 in
set_option maxHeartbeats 4000000 in
theorem m_M_finish (s t : xS) (q : xS) (h : f_M_finish  s = some q) : xMet 102 [.ref 27] (mk t s) none (mk t q) := by
  refine xMet_of hk_102 rfl rfl rfl ?_
  refine xOK_eq (fr := (0, [some (.ref 27), none], [])) rfl ?_
  unfold f_M_finish at h
  refine xOK_steps (fr' := (2, [some (.ref 27), some (.int (0 : Int32))], [])) (w' := (mk t s)) (ob := true) e_102 hk_102 2 rfl rfl ?_
  exact t_M_finish_2 t q _ _ _ h
set_option maxRecDepth 100000 in
set_option maxHeartbeats 4000000 in
theorem t_M_checkpoint_177 (t : xS) (q : xS) : ∀ (n : Nat), ∀ (x2 : Int32) (s : xS), f_M_checkpoint_177 n x2 s = some q → xOK 101 none (xEnd 101 none (mk t q)) (105, [some (.ref 27), none, some (.int x2)], []) (mk t s) 0 0 := by
  intro n
  induction n with
  | zero => intro x2 s h; cases h
  | succ n ih =>
    intro x2 s h
    unfold f_M_checkpoint_177 at h
    refine xOK_steps (fr' := (108, [some (.ref 27), none, some (.int x2)], [.int (s.1 1), .int x2])) (w' := (mk t s)) (ob := true) e_101 hk_101 3 rfl rfl ?_
    refine xu_icmp_ge e_101 hk_101 rfl (fun c1 => ?_) (fun c1 => ?_)
    · have h := xif_pos c1 h
      by_cases o2 : xbl (s.1 4) = true
      case neg => have h := xif_neg o2 h; cases h
      have h := xif_pos o2 h
      refine xOK_steps (fr' := (130, [some (.ref 27), none, some (.int x2)], [.ref 27])) (w' := (mk t (xsc (xsc (xsc s 7 (0 : Int32)) 8 (s.1 4)) 9 (1 : Int32)))) (ob := xbl (s.1 4) && (true)) e_101 hk_101 11 rfl (xand o2 rfl) ?_
      obtain ⟨q3, e4, h⟩ := Option.bind_eq_some_iff.mp h
      refine xu_callv (q := 27) (r := none) (av := []) (st := []) (w1 := (mk t q3)) e_101 hk_101 rfl (m_M_finish  _ _ _ e4) rfl rfl rfl rfl rfl ?_
      cases h
      exact xu_vret e_101 hk_101 rfl rfl
    · have h := xif_neg c1 h
      by_cases o5 : xin x2 8 = true
      case neg => have h := xif_neg o5 h; cases h
      have h := xif_pos o5 h
      by_cases o6 : xin x2 8 = true
      case neg => have h := xif_neg o6 h; cases h
      have h := xif_pos o6 h
      refine xOK_steps (fr' := (105, [some (.ref 27), none, some (.int (x2 + (1 : Int32)))], [])) (w' := (mk t (xsa s 11 (x2).toNatClampNeg ((s.2 6) (x2).toNatClampNeg)))) (ob := xin x2 8 && (xin x2 8 && (true))) e_101 hk_101 10 rfl (xand o5 (xand o6 rfl)) ?_
      exact ih _ _ h
set_option maxRecDepth 100000 in
set_option maxHeartbeats 4000000 in
theorem t_M_checkpoint_161 (t : xS) (q : xS) (lp : Int32 → xS → Option xS) (hlp : ∀ (x2 : Int32) (s : xS), lp x2 s = some q → xOK 101 none (xEnd 101 none (mk t q)) (66, [some (.ref 27), none, some (.int x2)], []) (mk t s) 0 0) (x2 : Int32) (s : xS) (h : f_M_checkpoint_161 lp x2 s = some q) : xOK 101 none (xEnd 101 none (mk t q)) (97, [some (.ref 27), none, some (.int x2)], []) (mk t s) 0 0 := by
  unfold f_M_checkpoint_161 at h
  refine xOK_steps (fr' := (66, [some (.ref 27), none, some (.int (x2 + (1 : Int32)))], [])) (w' := (mk t s)) (ob := true) e_101 hk_101 2 rfl rfl ?_
  exact hlp _ _ h
set_option maxRecDepth 100000 in
set_option maxHeartbeats 4000000 in
theorem t_M_checkpoint_112 (t : xS) (q : xS) : ∀ (n : Nat), ∀ (x2 : Int32) (s : xS), f_M_checkpoint_112 n x2 s = some q → xOK 101 none (xEnd 101 none (mk t q)) (66, [some (.ref 27), none, some (.int x2)], []) (mk t s) 0 0 := by
  intro n
  induction n with
  | zero => intro x2 s h; cases h
  | succ n ih =>
    intro x2 s h
    unfold f_M_checkpoint_112 at h
    refine xOK_steps (fr' := (68, [some (.ref 27), none, some (.int x2)], [.int (128 : Int32), .int x2])) (w' := (mk t s)) (ob := true) e_101 hk_101 2 rfl rfl ?_
    refine xu_icmp_ge e_101 hk_101 rfl (fun c7 => ?_) (fun c7 => ?_)
    · have h := xif_pos c7 h
      refine xOK_steps (fr' := (105, [some (.ref 27), none, some (.int (0 : Int32))], [])) (w' := (mk t (xsc s 6 (s.1 1)))) (ob := true) e_101 hk_101 6 rfl rfl ?_
      exact t_M_checkpoint_177 t q _ _ _ h
    · have h := xif_neg c7 h
      by_cases o8 : xin x2 128 = true
      case neg => have h := xif_neg o8 h; cases h
      have h := xif_pos o8 h
      refine xOK_steps (fr' := (73, [some (.ref 27), none, some (.int x2)], [.int ((s.2 4) (x2).toNatClampNeg)])) (w' := (mk t s)) (ob := xin x2 128 && (true)) e_101 hk_101 4 rfl (xand o8 rfl) ?_
      refine xu_if_le e_101 hk_101 rfl (fun c9 => ?_) (fun c9 => ?_)
      · have h := xif_pos c9 h
        exact t_M_checkpoint_161 t q _ ih _ _ h
      · have h := xif_neg c9 h
        by_cases o10 : xin x2 128 = true
        case neg => have h := xif_neg o10 h; cases h
        have h := xif_pos o10 h
        by_cases o11 : xin (((s.2 4) (x2).toNatClampNeg) - (1 : Int32)) 8 = true
        case neg => have h := xif_neg o11 h; cases h
        have h := xif_pos o11 h
        by_cases o12 : xin x2 128 = true
        case neg => have h := xif_neg o12 h; cases h
        have h := xif_pos o12 h
        by_cases o13 : xin x2 128 = true
        case neg => have h := xif_neg o13 h; cases h
        have h := xif_pos o13 h
        by_cases o14 : xin (((s.2 4) (x2).toNatClampNeg) - (1 : Int32)) 8 = true
        case neg => have h := xif_neg o14 h; cases h
        have h := xif_pos o14 h
        refine xOK_steps (fr' := (97, [some (.ref 27), none, some (.int x2)], [])) (w' := (mk t (xsa (xsa s 9 (((s.2 4) (x2).toNatClampNeg) - (1 : Int32)).toNatClampNeg x2) 10 (((s.2 4) (x2).toNatClampNeg) - (1 : Int32)).toNatClampNeg ((s.2 5) (x2).toNatClampNeg)))) (ob := xin x2 128 && (xin (((s.2 4) (x2).toNatClampNeg) - (1 : Int32)) 8 && (xin x2 128 && (xin x2 128 && (xin (((s.2 4) (x2).toNatClampNeg) - (1 : Int32)) 8 && (true)))))) e_101 hk_101 23 rfl (xand o10 (xand o11 (xand o12 (xand o13 (xand o14 rfl))))) ?_
        exact t_M_checkpoint_161 t q _ ih _ _ h
set_option maxRecDepth 100000 in
set_option maxHeartbeats 4000000 in
theorem t_M_checkpoint_66 (t : xS) (q : xS) : ∀ (n : Nat), ∀ (x2 : Int32) (s : xS), f_M_checkpoint_66 n x2 s = some q → xOK 101 none (xEnd 101 none (mk t q)) (39, [some (.ref 27), none, some (.int x2)], []) (mk t s) 0 0 := by
  intro n
  induction n with
  | zero => intro x2 s h; cases h
  | succ n ih =>
    intro x2 s h
    unfold f_M_checkpoint_66 at h
    refine xOK_steps (fr' := (41, [some (.ref 27), none, some (.int x2)], [.int (16 : Int32), .int x2])) (w' := (mk t s)) (ob := true) e_101 hk_101 2 rfl rfl ?_
    refine xu_icmp_ge e_101 hk_101 rfl (fun c15 => ?_) (fun c15 => ?_)
    · have h := xif_pos c15 h
      refine xOK_steps (fr' := (66, [some (.ref 27), none, some (.int (0 : Int32))], [])) (w' := (mk t (xsc s 5 (s.1 0)))) (ob := true) e_101 hk_101 6 rfl rfl ?_
      exact t_M_checkpoint_112 t q _ _ _ h
    · have h := xif_neg c15 h
      by_cases o16 : xin x2 16 = true
      case neg => have h := xif_neg o16 h; cases h
      have h := xif_pos o16 h
      by_cases o17 : xin x2 16 = true
      case neg => have h := xif_neg o17 h; cases h
      have h := xif_pos o17 h
      by_cases o18 : xin x2 16 = true
      case neg => have h := xif_neg o18 h; cases h
      have h := xif_pos o18 h
      by_cases o19 : xin x2 16 = true
      case neg => have h := xif_neg o19 h; cases h
      have h := xif_pos o19 h
      refine xOK_steps (fr' := (39, [some (.ref 27), none, some (.int (x2 + (1 : Int32)))], [])) (w' := (mk t (xsa (xsa s 7 (x2).toNatClampNeg ((s.2 0) (x2).toNatClampNeg)) 8 (x2).toNatClampNeg ((s.2 1) (x2).toNatClampNeg)))) (ob := xin x2 16 && (xin x2 16 && (xin x2 16 && (xin x2 16 && (true))))) e_101 hk_101 18 rfl (xand o16 (xand o17 (xand o18 (xand o19 rfl)))) ?_
      exact ih _ _ h
set_option maxRecDepth 100000 in
set_option maxHeartbeats 4000000 in
theorem t_M_checkpoint_17 (t : xS) (q : xS) : ∀ (n : Nat), ∀ (x1 x2 : Int32) (s : xS), f_M_checkpoint_17 n x1 x2 s = some q → xOK 101 none (xEnd 101 none (mk t q)) (12, [some (.ref 27), some (.int x1), some (.int x2)], []) (mk t s) 0 0 := by
  intro n
  induction n with
  | zero => intro x1 x2 s h; cases h
  | succ n ih =>
    intro x1 x2 s h
    unfold f_M_checkpoint_17 at h
    refine xOK_steps (fr' := (14, [some (.ref 27), some (.int x1), some (.int x2)], [.int x1, .int x2])) (w' := (mk t s)) (ob := true) e_101 hk_101 2 rfl rfl ?_
    refine xu_icmp_ge e_101 hk_101 rfl (fun c20 => ?_) (fun c20 => ?_)
    · have h := xif_pos c20 h
      refine xOK_steps (fr' := (39, [some (.ref 27), some (.int x1), some (.int (0 : Int32))], [])) (w' := (mk t (xsc (xsc (xsc s 19 ((s.1 19) + (1 : Int32))) 10 ((s.1 10) + (s.1 3))) 3 (0 : Int32)))) (ob := true) e_101 hk_101 18 rfl rfl ?_
      refine xOK_fg [1] ?_
      exact t_M_checkpoint_66 t q _ _ _ h
    · have h := xif_neg c20 h
      refine xOK_steps (fr' := (16, [some (.ref 27), some (.int x1), some (.int x2)], [.ref 27])) (w' := (mk t s)) (ob := true) e_101 hk_101 1 rfl rfl ?_
      obtain ⟨q21, e22, h⟩ := Option.bind_eq_some_iff.mp h
      refine xu_callv (q := 27) (r := (some q21.1)) (av := []) (st := []) (w1 := (mk t q21.2)) e_101 hk_101 rfl (m_M_write  _ _ _ e22) rfl rfl rfl rfl rfl ?_
      refine xu_if_ne e_101 hk_101 rfl (fun c23 => ?_) (fun c23 => ?_)
      · have h := xif_neg c23 h
        refine xOK_steps (fr' := (12, [some (.ref 27), some (.int x1), some (.int (x2 + (1 : Int32)))], [])) (w' := (mk t q21.2)) (ob := true) e_101 hk_101 2 rfl rfl ?_
        exact ih _ _ _ h
      · have h := xif_pos c23 h
        cases h
        exact xu_vret e_101 hk_101 rfl rfl
set_option maxRecDepth 100000 in
set_option maxHeartbeats 4000000 in
theorem m_M_checkpoint (s t : xS) (q : xS) (h : f_M_checkpoint  s = some q) : xMet 101 [.ref 27] (mk t s) none (mk t q) := by
  refine xMet_of hk_101 rfl rfl rfl ?_
  refine xOK_eq (fr := (0, [some (.ref 27), none, none], [])) rfl ?_
  unfold f_M_checkpoint at h
  refine xOK_steps (fr' := (12, [some (.ref 27), some (.int (((37 : Int32) + ((2 : Int32) * (s.1 0))) + (s.1 1))), some (.int (0 : Int32))], [])) (w' := (mk t s)) (ob := true) e_101 hk_101 12 rfl rfl ?_
  exact t_M_checkpoint_17 t q _ _ _ _ h
set_option maxRecDepth 100000 in
set_option maxHeartbeats 4000000 in
theorem t_M_tracked_27 (t : xS) (q : (Int32 × xS)) (lp : Int32 → Int32 → xS → Option (Int32 × xS)) (hlp : ∀ (x1 x2 : Int32) (s : xS), lp x1 x2 s = some q → xOK 128 none (xEnd 128 (some q.1) (mk t q.2)) (4, [some (.ref 27), some (.int x1), some (.int x2)], []) (mk t s) 0 0) (x2 y0 : Int32) (s : xS) (h : f_M_tracked_27 lp x2 y0 s = some q) : xOK 128 none (xEnd 128 (some q.1) (mk t q.2)) (17, [some (.ref 27), none, some (.int x2)], [.int y0]) (mk t s) 0 0 := by
  unfold f_M_tracked_27 at h
  refine xOK_steps (fr' := (4, [some (.ref 27), some (.int y0), some (.int (x2 + (1 : Int32)))], [])) (w' := (mk t s)) (ob := true) e_128 hk_128 3 rfl rfl ?_
  exact hlp _ _ _ h
set_option maxRecDepth 100000 in
set_option maxHeartbeats 4000000 in
theorem t_M_tracked_4 (t : xS) (q : (Int32 × xS)) : ∀ (n : Nat), ∀ (x1 x2 : Int32) (s : xS), f_M_tracked_4 n x1 x2 s = some q → xOK 128 none (xEnd 128 (some q.1) (mk t q.2)) (4, [some (.ref 27), some (.int x1), some (.int x2)], []) (mk t s) 0 0 := by
  intro n
  induction n with
  | zero => intro x1 x2 s h; cases h
  | succ n ih =>
    intro x1 x2 s h
    unfold f_M_tracked_4 at h
    refine xOK_steps (fr' := (6, [some (.ref 27), some (.int x1), some (.int x2)], [.int (128 : Int32), .int x2])) (w' := (mk t s)) (ob := true) e_128 hk_128 2 rfl rfl ?_
    refine xu_icmp_ge e_128 hk_128 rfl (fun c1 => ?_) (fun c1 => ?_)
    · have h := xif_pos c1 h
      refine xOK_steps (fr' := (21, [some (.ref 27), some (.int x1), some (.int x2)], [.int x1])) (w' := (mk t s)) (ob := true) e_128 hk_128 1 rfl rfl ?_
      cases h
      exact xu_iret e_128 hk_128 rfl rfl rfl
    · have h := xif_neg c1 h
      by_cases o2 : xin x2 128 = true
      case neg => have h := xif_neg o2 h; cases h
      have h := xif_pos o2 h
      refine xOK_steps (fr' := (11, [some (.ref 27), some (.int x1), some (.int x2)], [.int ((s.2 3) (x2).toNatClampNeg)])) (w' := (mk t s)) (ob := xin x2 128 && (true)) e_128 hk_128 4 rfl (xand o2 rfl) ?_
      refine xu_if_le e_128 hk_128 rfl (fun c3 => ?_) (fun c3 => ?_)
      · have h := xif_pos c3 h
        refine xOK_steps (fr' := (17, [some (.ref 27), some (.int x1), some (.int x2)], [.int x1])) (w' := (mk t s)) (ob := true) e_128 hk_128 1 rfl rfl ?_
        refine xOK_fg [1] ?_
        exact t_M_tracked_27 t q _ ih _ _ _ h
      · have h := xif_neg c3 h
        refine xOK_steps (fr' := (17, [some (.ref 27), some (.int x1), some (.int x2)], [.int (x1 + (1 : Int32))])) (w' := (mk t s)) (ob := true) e_128 hk_128 4 rfl rfl ?_
        refine xOK_fg [1] ?_
        exact t_M_tracked_27 t q _ ih _ _ _ h
set_option maxRecDepth 100000 in
set_option maxHeartbeats 4000000 in
theorem m_M_tracked (s t : xS) (q : (Int32 × xS)) (h : f_M_tracked  s = some q) : xMet 128 [.ref 27] (mk t s) (some q.1) (mk t q.2) := by
  refine xMet_of hk_128 rfl rfl rfl ?_
  refine xOK_eq (fr := (0, [some (.ref 27), none, none], [])) rfl ?_
  unfold f_M_tracked at h
  refine xOK_steps (fr' := (4, [some (.ref 27), some (.int (0 : Int32)), some (.int (0 : Int32))], [])) (w' := (mk t s)) (ob := true) e_128 hk_128 4 rfl rfl ?_
  exact t_M_tracked_4 t q _ _ _ _ h
set_option maxRecDepth 100000 in
set_option maxHeartbeats 4000000 in
theorem t_M_step_115 (t : xS) (q : (Int32 × xS)) (s : xS) (h : f_M_step_115  s = some q) : xOK 129 none (xEnd 129 (some q.1) (mk t q.2)) (60, [some (.ref 27)], []) (mk t s) 0 0 := by
  unfold f_M_step_115 at h
  refine xOK_steps (fr' := (62, [some (.ref 27)], [.int (s.1 15)])) (w' := (mk t s)) (ob := true) e_129 hk_129 2 rfl rfl ?_
  by_cases o1 : xbl (s.1 15) = true
  case neg => have h := xif_neg o1 h; cases h
  have h := xif_pos o1 h
  cases h
  exact xu_iret e_129 hk_129 rfl o1 rfl
set_option maxRecDepth 100000 in
set_option maxHeartbeats 4000000 in
theorem t_M_step_72 (t : xS) (q : (Int32 × xS)) (s : xS) (h : f_M_step_72  s = some q) : xOK 129 none (xEnd 129 (some q.1) (mk t q.2)) (37, [some (.ref 27)], []) (mk t s) 0 0 := by
  unfold f_M_step_72 at h
  refine xOK_steps (fr' := (39, [some (.ref 27)], [.int (s.1 15)])) (w' := (mk t s)) (ob := true) e_129 hk_129 2 rfl rfl ?_
  refine xu_if_ne e_129 hk_129 rfl (fun c2 => ?_) (fun c2 => ?_)
  · have h := xif_neg c2 h
    refine xOK_steps (fr' := (43, [some (.ref 27)], [.ref 27])) (w' := (mk t s)) (ob := true) e_129 hk_129 1 rfl rfl ?_
    obtain ⟨q3, e4, h⟩ := Option.bind_eq_some_iff.mp h
    refine xu_callv (q := 27) (r := none) (av := []) (st := []) (w1 := (mk t q3)) e_129 hk_129 rfl (m_M_instruction  _ _ _ e4) rfl rfl rfl rfl rfl ?_
    refine xOK_steps (fr' := (46, [some (.ref 27)], [.int (q3.1 15)])) (w' := (mk t q3)) (ob := true) e_129 hk_129 2 rfl rfl ?_
    refine xu_if_ne e_129 hk_129 rfl (fun c5 => ?_) (fun c5 => ?_)
    · have h := xif_neg c5 h
      refine xOK_steps (fr' := (57, [some (.ref 27)], [.int (q3.1 4)])) (w' := (mk t (xsc q3 3 ((q3.1 3) + (1 : Int32))))) (ob := true) e_129 hk_129 8 rfl rfl ?_
      refine xu_if_eq e_129 hk_129 rfl (fun c6 => ?_) (fun c6 => ?_)
      · have h := xif_pos c6 h
        exact t_M_step_115 t q  _ h
      · have h := xif_neg c6 h
        refine xOK_steps (fr' := (59, [some (.ref 27)], [.ref 27])) (w' := (mk t (xsc q3 3 ((q3.1 3) + (1 : Int32))))) (ob := true) e_129 hk_129 1 rfl rfl ?_
        obtain ⟨q7, e8, h⟩ := Option.bind_eq_some_iff.mp h
        refine xu_callv (q := 27) (r := none) (av := []) (st := []) (w1 := (mk t q7)) e_129 hk_129 rfl (m_M_checkpoint  _ _ _ e8) rfl rfl rfl rfl rfl ?_
        exact t_M_step_115 t q  _ h
    · have h := xif_pos c5 h
      refine xOK_steps (fr' := (48, [some (.ref 27)], [.int (0 : Int32)])) (w' := (mk t q3)) (ob := true) e_129 hk_129 1 rfl rfl ?_
      cases h
      exact xu_iret e_129 hk_129 rfl rfl rfl
  · have h := xif_pos c2 h
    refine xOK_steps (fr' := (41, [some (.ref 27)], [.int (0 : Int32)])) (w' := (mk t s)) (ob := true) e_129 hk_129 1 rfl rfl ?_
    cases h
    exact xu_iret e_129 hk_129 rfl rfl rfl
set_option maxRecDepth 100000 in
set_option maxHeartbeats 4000000 in
theorem t_M_step_68 (t : xS) (q : (Int32 × xS)) (s : xS) (h : f_M_step_68  s = some q) : xOK 129 none (xEnd 129 (some q.1) (mk t q.2)) (35, [some (.ref 27)], []) (mk t s) 0 0 := by
  unfold f_M_step_68 at h
  refine xOK_steps (fr' := (36, [some (.ref 27)], [.ref 27])) (w' := (mk t s)) (ob := true) e_129 hk_129 1 rfl rfl ?_
  obtain ⟨q9, e10, h⟩ := Option.bind_eq_some_iff.mp h
  refine xu_callv (q := 27) (r := none) (av := []) (st := []) (w1 := (mk t q9)) e_129 hk_129 rfl (m_M_checkpoint  _ _ _ e10) rfl rfl rfl rfl rfl ?_
  exact t_M_step_72 t q  _ h
set_option maxRecDepth 100000 in
set_option maxHeartbeats 4000000 in
theorem t_M_step_32 (t : xS) (q : (Int32 × xS)) (y1 : Int32) (s : xS) (h : f_M_step_32 y1 s = some q) : xOK 129 none (xEnd 129 (some q.1) (mk t q.2)) (18, [some (.ref 27)], [.int y1, .ref 27]) (mk t s) 0 0 := by
  unfold f_M_step_32 at h
  refine xOK_steps (fr' := (20, [some (.ref 27)], [.ref 27])) (w' := (mk t (xsc s 17 y1))) (ob := true) e_129 hk_129 2 rfl rfl ?_
  obtain ⟨q11, e12, h⟩ := Option.bind_eq_some_iff.mp h
  refine xu_callv (q := 27) (r := (some q11.1)) (av := []) (st := []) (w1 := (mk t q11.2)) e_129 hk_129 rfl (m_M_tracked  _ _ _ e12) rfl rfl rfl rfl rfl ?_
  refine xOK_steps (fr' := (22, [some (.ref 27)], [.int (11 : Int32), .int q11.1])) (w' := (mk t q11.2)) (ob := true) e_129 hk_129 1 rfl rfl ?_
  refine xu_icmp_gt e_129 hk_129 rfl (fun c13 => ?_) (fun c13 => ?_)
  · have h := xif_pos c13 h
    exact t_M_step_68 t q  _ h
  · have h := xif_neg c13 h
    refine xOK_steps (fr' := (26, [some (.ref 27)], [.int (4 : Int32), .int (q11.2.1 0)])) (w' := (mk t q11.2)) (ob := true) e_129 hk_129 3 rfl rfl ?_
    refine xu_icmp_eq e_129 hk_129 rfl (fun c14 => ?_) (fun c14 => ?_)
    · have h := xif_pos c14 h
      exact t_M_step_68 t q  _ h
    · have h := xif_neg c14 h
      refine xOK_steps (fr' := (30, [some (.ref 27)], [.int (4 : Int32), .int (q11.2.1 1)])) (w' := (mk t q11.2)) (ob := true) e_129 hk_129 3 rfl rfl ?_
      refine xu_icmp_eq e_129 hk_129 rfl (fun c15 => ?_) (fun c15 => ?_)
      · have h := xif_pos c15 h
        exact t_M_step_68 t q  _ h
      · have h := xif_neg c15 h
        refine xOK_steps (fr' := (34, [some (.ref 27)], [.int (2 : Int32), .int (q11.2.1 2)])) (w' := (mk t q11.2)) (ob := true) e_129 hk_129 3 rfl rfl ?_
        refine xu_icmp_le e_129 hk_129 rfl (fun c16 => ?_) (fun c16 => ?_)
        · have h := xif_pos c16 h
          exact t_M_step_72 t q  _ h
        · have h := xif_neg c16 h
          exact t_M_step_68 t q  _ h
set_option maxRecDepth 100000 in
set_option maxHeartbeats 4000000 in
theorem m_M_step (s t : xS) (q : (Int32 × xS)) (h : f_M_step  s = some q) : xMet 129 [.ref 27] (mk t s) (some q.1) (mk t q.2) := by
  refine xMet_of hk_129 rfl rfl rfl ?_
  refine xOK_eq (fr := (0, [some (.ref 27)], [])) rfl ?_
  unfold f_M_step at h
  refine xOK_steps (fr' := (3, [some (.ref 27)], [.int (1 : Int32), .int (s.1 17)])) (w' := (mk t s)) (ob := true) e_129 hk_129 3 rfl rfl ?_
  refine xu_icmp_ne e_129 hk_129 rfl (fun c17 => ?_) (fun c17 => ?_)
  · have h := xif_neg c17 h
    refine xOK_steps (fr' := (11, [some (.ref 27)], [.int (s.1 17), .ref 27])) (w' := (mk t s)) (ob := true) e_129 hk_129 3 rfl rfl ?_
    refine xu_if_le e_129 hk_129 rfl (fun c18 => ?_) (fun c18 => ?_)
    · have h := xif_pos c18 h
      refine xOK_steps (fr' := (18, [some (.ref 27)], [.int (0 : Int32), .ref 27])) (w' := (mk t s)) (ob := true) e_129 hk_129 1 rfl rfl ?_
      exact t_M_step_32 t q _ _ h
    · have h := xif_neg c18 h
      refine xOK_steps (fr' := (18, [some (.ref 27)], [.int ((s.1 17) - (1 : Int32)), .ref 27])) (w' := (mk t s)) (ob := true) e_129 hk_129 5 rfl rfl ?_
      exact t_M_step_32 t q _ _ h
  · have h := xif_pos c17 h
    refine xOK_steps (fr' := (5, [some (.ref 27)], [.ref 27])) (w' := (mk t s)) (ob := true) e_129 hk_129 1 rfl rfl ?_
    obtain ⟨q19, e20, h⟩ := Option.bind_eq_some_iff.mp h
    refine xu_callv (q := 27) (r := none) (av := []) (st := []) (w1 := (mk t q19)) e_129 hk_129 rfl (m_M_off  _ _ _ e20) rfl rfl rfl rfl rfl ?_
    refine xOK_steps (fr' := (7, [some (.ref 27)], [.int (0 : Int32)])) (w' := (mk t q19)) (ob := true) e_129 hk_129 1 rfl rfl ?_
    cases h
    exact xu_iret e_129 hk_129 rfl rfl rfl
set_option maxRecDepth 100000 in
set_option maxHeartbeats 4000000 in
theorem t_M_run_54 (t : xS) (q : (Int32 × xS)) (x2 : Int32) (s : xS) (h : f_M_run_54 x2 s = some q) : xOK 130 none (xEnd 130 (some q.1) (mk t q.2)) (28, [none, none, some (.int x2), none], []) (mk t s) 0 0 := by
  unfold f_M_run_54 at h
  refine xOK_steps (fr' := (29, [none, none, some (.int x2), none], [.int x2])) (w' := (mk t s)) (ob := true) e_130 hk_130 1 rfl rfl ?_
  cases h
  exact xu_iret e_130 hk_130 rfl rfl rfl
set_option maxRecDepth 100000 in
set_option maxHeartbeats 4000000 in
theorem t_M_run_48 (t : xS) (q : (Int32 × xS)) (lp : Int32 → Int32 → Int32 → xS → Option (Int32 × xS)) (hlp : ∀ (x1 x2 x3 : Int32) (s : xS), lp x1 x2 x3 s = some q → xOK 130 none (xEnd 130 (some q.1) (mk t q.2)) (15, [some (.ref 27), some (.int x1), some (.int x2), some (.int x3)], []) (mk t s) 0 0) (x1 x2 x3 : Int32) (s : xS) (h : f_M_run_48 lp x1 x2 x3 s = some q) : xOK 130 none (xEnd 130 (some q.1) (mk t q.2)) (26, [some (.ref 27), some (.int x1), some (.int x2), some (.int x3)], []) (mk t s) 0 0 := by
  unfold f_M_run_48 at h
  refine xOK_steps (fr' := (15, [some (.ref 27), some (.int x1), some (.int x2), some (.int (x3 + (1 : Int32)))], [])) (w' := (mk t s)) (ob := true) e_130 hk_130 2 rfl rfl ?_
  exact hlp _ _ _ _ h
set_option maxRecDepth 100000 in
set_option maxHeartbeats 4000000 in
theorem t_M_run_25 (t : xS) (q : (Int32 × xS)) : ∀ (n : Nat), ∀ (x1 x2 x3 : Int32) (s : xS), f_M_run_25 n x1 x2 x3 s = some q → xOK 130 none (xEnd 130 (some q.1) (mk t q.2)) (15, [some (.ref 27), some (.int x1), some (.int x2), some (.int x3)], []) (mk t s) 0 0 := by
  intro n
  induction n with
  | zero => intro x1 x2 x3 s h; cases h
  | succ n ih =>
    intro x1 x2 x3 s h
    unfold f_M_run_25 at h
    refine xOK_steps (fr' := (17, [some (.ref 27), some (.int x1), some (.int x2), some (.int x3)], [.int x1, .int x3])) (w' := (mk t s)) (ob := true) e_130 hk_130 2 rfl rfl ?_
    refine xu_icmp_ge e_130 hk_130 rfl (fun c1 => ?_) (fun c1 => ?_)
    · have h := xif_pos c1 h
      refine xOK_fg [0, 1, 3] ?_
      exact t_M_run_54 t q _ _ h
    · have h := xif_neg c1 h
      refine xOK_steps (fr' := (21, [some (.ref 27), some (.int x1), some (.int x2), some (.int x3)], [.int (1 : Int32), .int (s.1 14)])) (w' := (mk t s)) (ob := true) e_130 hk_130 3 rfl rfl ?_
      refine xu_icmp_ne e_130 hk_130 rfl (fun c2 => ?_) (fun c2 => ?_)
      · have h := xif_neg c2 h
        refine xOK_fg [0, 1, 3] ?_
        exact t_M_run_54 t q _ _ h
      · have h := xif_pos c2 h
        refine xOK_steps (fr' := (23, [some (.ref 27), some (.int x1), some (.int x2), some (.int x3)], [.ref 27])) (w' := (mk t s)) (ob := true) e_130 hk_130 1 rfl rfl ?_
        obtain ⟨q3, e4, h⟩ := Option.bind_eq_some_iff.mp h
        refine xu_callv (q := 27) (r := (some q3.1)) (av := []) (st := []) (w1 := (mk t q3.2)) e_130 hk_130 rfl (m_M_step  _ _ _ e4) rfl rfl rfl rfl rfl ?_
        refine xu_if_eq e_130 hk_130 rfl (fun c5 => ?_) (fun c5 => ?_)
        · have h := xif_pos c5 h
          exact t_M_run_48 t q _ ih _ _ _ _ h
        · have h := xif_neg c5 h
          refine xOK_steps (fr' := (26, [some (.ref 27), some (.int x1), some (.int (x2 + (1 : Int32))), some (.int x3)], [])) (w' := (mk t q3.2)) (ob := true) e_130 hk_130 1 rfl rfl ?_
          exact t_M_run_48 t q _ ih _ _ _ _ h
set_option maxRecDepth 100000 in
set_option maxHeartbeats 4000000 in
theorem t_M_run_19 (t : xS) (q : (Int32 × xS)) (s : xS) (h : f_M_run_19  s = some q) : xOK 130 none (xEnd 130 (some q.1) (mk t q.2)) (9, [none, none, none, none], []) (mk t s) 0 0 := by
  unfold f_M_run_19 at h
  refine xOK_steps (fr' := (10, [none, none, none, none], [.int (-1 : Int32)])) (w' := (mk t s)) (ob := true) e_130 hk_130 1 rfl rfl ?_
  cases h
  exact xu_iret e_130 hk_130 rfl rfl rfl
set_option maxRecDepth 100000 in
set_option maxHeartbeats 4000000 in
theorem m_M_run (x1 : Int32) (s t : xS) (q : (Int32 × xS)) (h : f_M_run x1 s = some q) : xMet 130 [.ref 27, .int x1] (mk t s) (some q.1) (mk t q.2) := by
  refine xMet_of hk_130 rfl rfl rfl ?_
  refine xOK_eq (fr := (0, [some (.ref 27), some (.int x1), none, none], [])) rfl ?_
  unfold f_M_run at h
  refine xOK_steps (fr' := (3, [some (.ref 27), some (.int x1), none, none], [.int (1 : Int32), .int (s.1 14)])) (w' := (mk t s)) (ob := true) e_130 hk_130 3 rfl rfl ?_
  refine xu_icmp_ne e_130 hk_130 rfl (fun c6 => ?_) (fun c6 => ?_)
  · have h := xif_neg c6 h
    refine xOK_fg [0, 1] ?_
    exact t_M_run_19 t q  _ h
  · have h := xif_pos c6 h
    refine xOK_steps (fr' := (5, [some (.ref 27), some (.int x1), none, none], [.int x1])) (w' := (mk t s)) (ob := true) e_130 hk_130 1 rfl rfl ?_
    refine xu_if_lt e_130 hk_130 rfl (fun c7 => ?_) (fun c7 => ?_)
    · have h := xif_pos c7 h
      refine xOK_fg [0, 1] ?_
      exact t_M_run_19 t q  _ h
    · have h := xif_neg c7 h
      refine xOK_steps (fr' := (8, [some (.ref 27), some (.int x1), none, none], [.int (200 : Int32), .int x1])) (w' := (mk t s)) (ob := true) e_130 hk_130 2 rfl rfl ?_
      refine xu_icmp_le e_130 hk_130 rfl (fun c8 => ?_) (fun c8 => ?_)
      · have h := xif_pos c8 h
        refine xOK_steps (fr' := (15, [some (.ref 27), some (.int x1), some (.int (0 : Int32)), some (.int (0 : Int32))], [])) (w' := (mk t s)) (ob := true) e_130 hk_130 4 rfl rfl ?_
        exact t_M_run_25 t q _ _ _ _ _ h
      · have h := xif_neg c8 h
        refine xOK_fg [0, 1] ?_
        exact t_M_run_19 t q  _ h
set_option maxRecDepth 100000 in
set_option maxHeartbeats 4000000 in
theorem t_M_boot_58 (t : xS) (q : (Int32 × xS)) : ∀ (n : Nat), ∀ (x1 : Int32) (s : xS), f_M_boot_58 n x1 s = some q → xOK 131 none (xEnd 131 (some q.1) (mk t q.2)) (32, [some (.ref 27), some (.int x1)], []) (mk t s) 0 0 := by
  intro n
  induction n with
  | zero => intro x1 s h; cases h
  | succ n ih =>
    intro x1 s h
    unfold f_M_boot_58 at h
    refine xOK_steps (fr' := (34, [some (.ref 27), some (.int x1)], [.int (16 : Int32), .int x1])) (w' := (mk t s)) (ob := true) e_131 hk_131 2 rfl rfl ?_
    refine xu_icmp_ge e_131 hk_131 rfl (fun c1 => ?_) (fun c1 => ?_)
    · have h := xif_pos c1 h
      refine xOK_steps (fr' := (54, [some (.ref 27), some (.int x1)], [.ref 27])) (w' := (mk t s)) (ob := true) e_131 hk_131 1 rfl rfl ?_
      obtain ⟨q2, e3, h⟩ := Option.bind_eq_some_iff.mp h
      refine xu_callv (q := 27) (r := none) (av := []) (st := []) (w1 := (mk t q2)) e_131 hk_131 rfl (m_M_fresh  _ _ _ e3) rfl rfl rfl rfl rfl ?_
      refine xOK_steps (fr' := (56, [some (.ref 27), some (.int x1)], [.int (1 : Int32)])) (w' := (mk t q2)) (ob := true) e_131 hk_131 1 rfl rfl ?_
      cases h
      exact xu_iret e_131 hk_131 rfl rfl rfl
    · have h := xif_neg c1 h
      by_cases o4 : xin x1 16 = true
      case neg => have h := xif_neg o4 h; cases h
      have h := xif_pos o4 h
      by_cases o5 : xin x1 16 = true
      case neg => have h := xif_neg o5 h; cases h
      have h := xif_pos o5 h
      by_cases o6 : xin x1 16 = true
      case neg => have h := xif_neg o6 h; cases h
      have h := xif_pos o6 h
      by_cases o7 : xin x1 16 = true
      case neg => have h := xif_neg o7 h; cases h
      have h := xif_pos o7 h
      refine xOK_steps (fr' := (32, [some (.ref 27), some (.int (x1 + (1 : Int32)))], [])) (w' := (mk t (xsa (xsa s 0 (x1).toNatClampNeg ((s.2 7) (x1).toNatClampNeg)) 1 (x1).toNatClampNeg ((s.2 8) (x1).toNatClampNeg)))) (ob := xin x1 16 && (xin x1 16 && (xin x1 16 && (xin x1 16 && (true))))) e_131 hk_131 18 rfl (xand o4 (xand o5 (xand o6 (xand o7 rfl)))) ?_
      exact ih _ _ h
set_option maxRecDepth 100000 in
set_option maxHeartbeats 4000000 in
theorem t_M_boot_53 (t : xS) (q : (Int32 × xS)) (y1 : Int32) (s : xS) (h : f_M_boot_53 y1 s = some q) : xOK 131 none (xEnd 131 (some q.1) (mk t q.2)) (29, [some (.ref 27), none], [.int y1, .ref 27]) (mk t s) 0 0 := by
  unfold f_M_boot_53 at h
  refine xOK_steps (fr' := (32, [some (.ref 27), some (.int (0 : Int32))], [])) (w' := (mk t (xsc s 14 y1))) (ob := true) e_131 hk_131 3 rfl rfl ?_
  exact t_M_boot_58 t q _ _ _ h
set_option maxRecDepth 100000 in
set_option maxHeartbeats 4000000 in
theorem t_M_boot_31 (t : xS) (q : (Int32 × xS)) (s : xS) (h : f_M_boot_31  s = some q) : xOK 131 none (xEnd 131 (some q.1) (mk t q.2)) (17, [some (.ref 27), none], []) (mk t s) 0 0 := by
  unfold f_M_boot_31 at h
  refine xOK_steps (fr' := (19, [some (.ref 27), none], [.int (s.1 15)])) (w' := (mk t s)) (ob := true) e_131 hk_131 2 rfl rfl ?_
  refine xu_if_ne e_131 hk_131 rfl (fun c8 => ?_) (fun c8 => ?_)
  · have h := xif_neg c8 h
    refine xOK_steps (fr' := (25, [some (.ref 27), none], [.int (s.1 8), .ref 27])) (w' := (mk t s)) (ob := true) e_131 hk_131 3 rfl rfl ?_
    refine xu_if_eq e_131 hk_131 rfl (fun c9 => ?_) (fun c9 => ?_)
    · have h := xif_pos c9 h
      refine xOK_steps (fr' := (29, [some (.ref 27), none], [.int (1 : Int32), .ref 27])) (w' := (mk t s)) (ob := true) e_131 hk_131 1 rfl rfl ?_
      exact t_M_boot_53 t q _ _ h
    · have h := xif_neg c9 h
      refine xOK_steps (fr' := (29, [some (.ref 27), none], [.int (3 : Int32), .ref 27])) (w' := (mk t s)) (ob := true) e_131 hk_131 2 rfl rfl ?_
      exact t_M_boot_53 t q _ _ h
  · have h := xif_pos c8 h
    refine xOK_steps (fr' := (21, [some (.ref 27), none], [.int (0 : Int32)])) (w' := (mk t s)) (ob := true) e_131 hk_131 1 rfl rfl ?_
    cases h
    exact xu_iret e_131 hk_131 rfl rfl rfl
set_option maxRecDepth 100000 in
set_option maxHeartbeats 4000000 in
theorem m_M_boot (s t : xS) (q : (Int32 × xS)) (h : f_M_boot  s = some q) : xMet 131 [.ref 27] (mk t s) (some q.1) (mk t q.2) := by
  refine xMet_of hk_131 rfl rfl rfl ?_
  refine xOK_eq (fr := (0, [some (.ref 27), none], [])) rfl ?_
  unfold f_M_boot at h
  refine xOK_steps (fr' := (3, [some (.ref 27), none], [.int (2 : Int32), .int (s.1 14)])) (w' := (mk t s)) (ob := true) e_131 hk_131 3 rfl rfl ?_
  refine xu_icmp_eq e_131 hk_131 rfl (fun c10 => ?_) (fun c10 => ?_)
  · have h := xif_pos c10 h
    refine xOK_steps (fr' := (14, [some (.ref 27), none], [.int (s.1 9)])) (w' := (mk t (xsc (xsc s 15 (1 : Int32)) 14 (1 : Int32)))) (ob := true) e_131 hk_131 8 rfl rfl ?_
    refine xu_if_eq e_131 hk_131 rfl (fun c11 => ?_) (fun c11 => ?_)
    · have h := xif_pos c11 h
      exact t_M_boot_31 t q  _ h
    · have h := xif_neg c11 h
      refine xOK_steps (fr' := (16, [some (.ref 27), none], [.ref 27])) (w' := (mk t (xsc (xsc s 15 (1 : Int32)) 14 (1 : Int32)))) (ob := true) e_131 hk_131 1 rfl rfl ?_
      obtain ⟨q12, e13, h⟩ := Option.bind_eq_some_iff.mp h
      refine xu_callv (q := 27) (r := none) (av := []) (st := []) (w1 := (mk t q12)) e_131 hk_131 rfl (m_M_finish  _ _ _ e13) rfl rfl rfl rfl rfl ?_
      exact t_M_boot_31 t q  _ h
  · have h := xif_neg c10 h
    refine xOK_steps (fr' := (5, [some (.ref 27), none], [.int (0 : Int32)])) (w' := (mk t s)) (ob := true) e_131 hk_131 1 rfl rfl ?_
    cases h
    exact xu_iret e_131 hk_131 rfl rfl rfl
set_option maxRecDepth 100000 in
set_option maxHeartbeats 4000000 in
theorem t_M_load_17 (t : xS) (q : (Int32 × xS)) (s : xS) (h : f_M_load_17  s = some q) : xOK 132 none (xEnd 132 (some q.1) (mk t q.2)) (8, [none, none, none], []) (mk t s) 0 0 := by
  unfold f_M_load_17 at h
  refine xOK_steps (fr' := (9, [none, none, none], [.int (0 : Int32)])) (w' := (mk t s)) (ob := true) e_132 hk_132 1 rfl rfl ?_
  cases h
  exact xu_iret e_132 hk_132 rfl rfl rfl
set_option maxRecDepth 100000 in
set_option maxHeartbeats 4000000 in
theorem m_M_load (x1 x2 : Int32) (s t : xS) (q : (Int32 × xS)) (h : f_M_load x1 x2 s = some q) : xMet 132 [.ref 27, .int x1, .int x2] (mk t s) (some q.1) (mk t q.2) := by
  refine xMet_of hk_132 rfl rfl rfl ?_
  refine xOK_eq (fr := (0, [some (.ref 27), some (.int x1), some (.int x2)], [])) rfl ?_
  unfold f_M_load at h
  refine xOK_steps (fr' := (1, [some (.ref 27), some (.int x1), some (.int x2)], [.int x1])) (w' := (mk t s)) (ob := true) e_132 hk_132 1 rfl rfl ?_
  refine xu_if_lt e_132 hk_132 rfl (fun c1 => ?_) (fun c1 => ?_)
  · have h := xif_pos c1 h
    refine xOK_fg [0, 1, 2] ?_
    exact t_M_load_17 t q  _ h
  · have h := xif_neg c1 h
    refine xOK_steps (fr' := (4, [some (.ref 27), some (.int x1), some (.int x2)], [.int (127 : Int32), .int x1])) (w' := (mk t s)) (ob := true) e_132 hk_132 2 rfl rfl ?_
    refine xu_icmp_gt e_132 hk_132 rfl (fun c2 => ?_) (fun c2 => ?_)
    · have h := xif_pos c2 h
      refine xOK_fg [0, 1, 2] ?_
      exact t_M_load_17 t q  _ h
    · have h := xif_neg c2 h
      refine xOK_steps (fr' := (7, [some (.ref 27), some (.int x1), some (.int x2)], [.int (s.1 14)])) (w' := (mk t s)) (ob := true) e_132 hk_132 2 rfl rfl ?_
      refine xu_if_eq e_132 hk_132 rfl (fun c3 => ?_) (fun c3 => ?_)
      · have h := xif_pos c3 h
        by_cases o4 : xin x1 128 = true
        case neg => have h := xif_neg o4 h; cases h
        have h := xif_pos o4 h
        refine xOK_steps (fr' := (18, [some (.ref 27), some (.int x1), some (.int x2)], [.int (1 : Int32)])) (w' := (mk t (xsa s 2 (x1).toNatClampNeg (x2 &&& (65535 : Int32))))) (ob := xin x1 128 && (true)) e_132 hk_132 8 rfl (xand o4 rfl) ?_
        cases h
        exact xu_iret e_132 hk_132 rfl rfl rfl
      · have h := xif_neg c3 h
        refine xOK_fg [0, 1, 2] ?_
        exact t_M_load_17 t q  _ h
set_option maxRecDepth 100000 in
set_option maxHeartbeats 4000000 in
theorem m_M_start (x1 : Int32) (s t : xS) (q : (Int32 × xS)) (h : f_M_start x1 s = some q) : xMet 133 [.ref 27, .int x1] (mk t s) (some q.1) (mk t q.2) := by
  refine xMet_of hk_133 rfl rfl rfl ?_
  refine xOK_eq (fr := (0, [some (.ref 27), some (.int x1)], [])) rfl ?_
  unfold f_M_start at h
  refine xOK_steps (fr' := (2, [some (.ref 27), some (.int x1)], [.int (s.1 14)])) (w' := (mk t s)) (ob := true) e_133 hk_133 2 rfl rfl ?_
  refine xu_if_eq e_133 hk_133 rfl (fun c1 => ?_) (fun c1 => ?_)
  · have h := xif_pos c1 h
    refine xOK_steps (fr' := (27, [some (.ref 27), some (.int x1)], [.int (1 : Int32)])) (w' := (mk t (xsc (xsc (xsa (xsa s 0 0 (x1 &&& (65534 : Int32))) 7 0 (((xsa s 0 0 (x1 &&& (65534 : Int32))).2 0) 0)) 15 (1 : Int32)) 14 (1 : Int32)))) (ob := true) e_133 hk_133 22 rfl rfl ?_
    cases h
    exact xu_iret e_133 hk_133 rfl rfl rfl
  · have h := xif_neg c1 h
    refine xOK_steps (fr' := (4, [some (.ref 27), some (.int x1)], [.int (0 : Int32)])) (w' := (mk t s)) (ob := true) e_133 hk_133 1 rfl rfl ?_
    cases h
    exact xu_iret e_133 hk_133 rfl rfl rfl
set_option maxRecDepth 100000 in
set_option maxHeartbeats 4000000 in
theorem m_M_sample (x1 : Int32) (s t : xS) (q : (Int32 × xS)) (h : f_M_sample x1 s = some q) : xMet 134 [.ref 27, .int x1] (mk t s) (some q.1) (mk t q.2) := by
  refine xMet_of hk_134 rfl rfl rfl ?_
  refine xOK_eq (fr := (0, [some (.ref 27), some (.int x1)], [])) rfl ?_
  unfold f_M_sample at h
  refine xOK_steps (fr' := (3, [some (.ref 27), some (.int x1)], [.int (16 : Int32), .int (s.1 12)])) (w' := (mk t s)) (ob := true) e_134 hk_134 3 rfl rfl ?_
  refine xu_icmp_ne e_134 hk_134 rfl (fun c1 => ?_) (fun c1 => ?_)
  · have h := xif_neg c1 h
    by_cases o2 : xin (s.1 12) 16 = true
    case neg => have h := xif_neg o2 h; cases h
    have h := xif_pos o2 h
    refine xOK_steps (fr' := (21, [some (.ref 27), some (.int x1)], [.int (1 : Int32)])) (w' := (mk t (xsc (xsa s 13 (s.1 12).toNatClampNeg (x1 &&& (65535 : Int32))) 12 ((s.1 12) + (1 : Int32))))) (ob := xin (s.1 12) 16 && (true)) e_134 hk_134 15 rfl (xand o2 rfl) ?_
    cases h
    exact xu_iret e_134 hk_134 rfl rfl rfl
  · have h := xif_pos c1 h
    refine xOK_steps (fr' := (5, [some (.ref 27), some (.int x1)], [.int (0 : Int32)])) (w' := (mk t s)) (ob := true) e_134 hk_134 1 rfl rfl ?_
    cases h
    exact xu_iret e_134 hk_134 rfl rfl rfl
set_option maxRecDepth 100000 in
set_option maxHeartbeats 4000000 in
theorem t_M_failWrite_11 (t : xS) (q : (Int32 × xS)) (s : xS) (h : f_M_failWrite_11  s = some q) : xOK 135 none (xEnd 135 (some q.1) (mk t q.2)) (5, [none, none], []) (mk t s) 0 0 := by
  unfold f_M_failWrite_11 at h
  refine xOK_steps (fr' := (6, [none, none], [.int (0 : Int32)])) (w' := (mk t s)) (ob := true) e_135 hk_135 1 rfl rfl ?_
  cases h
  exact xu_iret e_135 hk_135 rfl rfl rfl
set_option maxRecDepth 100000 in
set_option maxHeartbeats 4000000 in
theorem m_M_failWrite (x1 : Int32) (s t : xS) (q : (Int32 × xS)) (h : f_M_failWrite x1 s = some q) : xMet 135 [.ref 27, .int x1] (mk t s) (some q.1) (mk t q.2) := by
  refine xMet_of hk_135 rfl rfl rfl ?_
  refine xOK_eq (fr := (0, [some (.ref 27), some (.int x1)], [])) rfl ?_
  unfold f_M_failWrite at h
  refine xOK_steps (fr' := (1, [some (.ref 27), some (.int x1)], [.int x1])) (w' := (mk t s)) (ob := true) e_135 hk_135 1 rfl rfl ?_
  refine xu_if_lt e_135 hk_135 rfl (fun c1 => ?_) (fun c1 => ?_)
  · have h := xif_pos c1 h
    refine xOK_fg [0, 1] ?_
    exact t_M_failWrite_11 t q  _ h
  · have h := xif_neg c1 h
    refine xOK_steps (fr' := (4, [some (.ref 27), some (.int x1)], [.int (1000 : Int32), .int x1])) (w' := (mk t s)) (ob := true) e_135 hk_135 2 rfl rfl ?_
    refine xu_icmp_le e_135 hk_135 rfl (fun c2 => ?_) (fun c2 => ?_)
    · have h := xif_pos c2 h
      refine xOK_steps (fr' := (11, [some (.ref 27), some (.int x1)], [.int (1 : Int32)])) (w' := (mk t (xsc s 16 x1))) (ob := true) e_135 hk_135 4 rfl rfl ?_
      cases h
      exact xu_iret e_135 hk_135 rfl rfl rfl
    · have h := xif_neg c2 h
      refine xOK_fg [0, 1] ?_
      exact t_M_failWrite_11 t q  _ h
set_option maxRecDepth 100000 in
set_option maxHeartbeats 4000000 in
theorem t_M_failStep_11 (t : xS) (q : (Int32 × xS)) (s : xS) (h : f_M_failStep_11  s = some q) : xOK 136 none (xEnd 136 (some q.1) (mk t q.2)) (5, [none, none], []) (mk t s) 0 0 := by
  unfold f_M_failStep_11 at h
  refine xOK_steps (fr' := (6, [none, none], [.int (0 : Int32)])) (w' := (mk t s)) (ob := true) e_136 hk_136 1 rfl rfl ?_
  cases h
  exact xu_iret e_136 hk_136 rfl rfl rfl
set_option maxRecDepth 100000 in
set_option maxHeartbeats 4000000 in
theorem m_M_failStep (x1 : Int32) (s t : xS) (q : (Int32 × xS)) (h : f_M_failStep x1 s = some q) : xMet 136 [.ref 27, .int x1] (mk t s) (some q.1) (mk t q.2) := by
  refine xMet_of hk_136 rfl rfl rfl ?_
  refine xOK_eq (fr := (0, [some (.ref 27), some (.int x1)], [])) rfl ?_
  unfold f_M_failStep at h
  refine xOK_steps (fr' := (1, [some (.ref 27), some (.int x1)], [.int x1])) (w' := (mk t s)) (ob := true) e_136 hk_136 1 rfl rfl ?_
  refine xu_if_lt e_136 hk_136 rfl (fun c1 => ?_) (fun c1 => ?_)
  · have h := xif_pos c1 h
    refine xOK_fg [0, 1] ?_
    exact t_M_failStep_11 t q  _ h
  · have h := xif_neg c1 h
    refine xOK_steps (fr' := (4, [some (.ref 27), some (.int x1)], [.int (1000 : Int32), .int x1])) (w' := (mk t s)) (ob := true) e_136 hk_136 2 rfl rfl ?_
    refine xu_icmp_le e_136 hk_136 rfl (fun c2 => ?_) (fun c2 => ?_)
    · have h := xif_pos c2 h
      refine xOK_steps (fr' := (11, [some (.ref 27), some (.int x1)], [.int (1 : Int32)])) (w' := (mk t (xsc s 17 x1))) (ob := true) e_136 hk_136 4 rfl rfl ?_
      cases h
      exact xu_iret e_136 hk_136 rfl rfl rfl
    · have h := xif_neg c2 h
      refine xOK_fg [0, 1] ?_
      exact t_M_failStep_11 t q  _ h
set_option maxRecDepth 100000 in
set_option maxHeartbeats 4000000 in
theorem m_M_state (s t : xS) (q : (Int32 × xS)) (h : f_M_state  s = some q) : xMet 137 [.ref 27] (mk t s) (some q.1) (mk t q.2) := by
  refine xMet_of hk_137 rfl rfl rfl ?_
  refine xOK_eq (fr := (0, [some (.ref 27)], [])) rfl ?_
  unfold f_M_state at h
  refine xOK_steps (fr' := (2, [some (.ref 27)], [.int (s.1 14)])) (w' := (mk t s)) (ob := true) e_137 hk_137 2 rfl rfl ?_
  cases h
  exact xu_iret e_137 hk_137 rfl rfl rfl
set_option maxRecDepth 100000 in
set_option maxHeartbeats 4000000 in
theorem t_M_register_28 (t : xS) (q : (Int32 × xS)) (y0 : Int32) (s : xS) (h : f_M_register_28 y0 s = some q) : xOK 138 none (xEnd 138 (some q.1) (mk t q.2)) (15, [none, none], [.int y0]) (mk t s) 0 0 := by
  unfold f_M_register_28 at h
  cases h
  exact xu_iret e_138 hk_138 rfl rfl rfl
set_option maxRecDepth 100000 in
set_option maxHeartbeats 4000000 in
theorem t_M_register_18 (t : xS) (q : (Int32 × xS)) (s : xS) (h : f_M_register_18  s = some q) : xOK 138 none (xEnd 138 (some q.1) (mk t q.2)) (9, [none, none], []) (mk t s) 0 0 := by
  unfold f_M_register_18 at h
  refine xOK_steps (fr' := (15, [none, none], [.int (0 : Int32)])) (w' := (mk t s)) (ob := true) e_138 hk_138 2 rfl rfl ?_
  exact t_M_register_28 t q _ _ h
set_option maxRecDepth 100000 in
set_option maxHeartbeats 4000000 in
theorem m_M_register (x1 : Int32) (s t : xS) (q : (Int32 × xS)) (h : f_M_register x1 s = some q) : xMet 138 [.ref 27, .int x1] (mk t s) (some q.1) (mk t q.2) := by
  refine xMet_of hk_138 rfl rfl rfl ?_
  refine xOK_eq (fr := (0, [some (.ref 27), some (.int x1)], [])) rfl ?_
  unfold f_M_register at h
  refine xOK_steps (fr' := (1, [some (.ref 27), some (.int x1)], [.int x1])) (w' := (mk t s)) (ob := true) e_138 hk_138 1 rfl rfl ?_
  refine xu_if_lt e_138 hk_138 rfl (fun c1 => ?_) (fun c1 => ?_)
  · have h := xif_pos c1 h
    refine xOK_fg [0, 1] ?_
    exact t_M_register_18 t q  _ h
  · have h := xif_neg c1 h
    refine xOK_steps (fr' := (4, [some (.ref 27), some (.int x1)], [.int (15 : Int32), .int x1])) (w' := (mk t s)) (ob := true) e_138 hk_138 2 rfl rfl ?_
    refine xu_icmp_gt e_138 hk_138 rfl (fun c2 => ?_) (fun c2 => ?_)
    · have h := xif_pos c2 h
      refine xOK_fg [0, 1] ?_
      exact t_M_register_18 t q  _ h
    · have h := xif_neg c2 h
      refine xOK_steps (fr' := (8, [some (.ref 27), some (.int x1)], [.int (2 : Int32), .int (s.1 14)])) (w' := (mk t s)) (ob := true) e_138 hk_138 3 rfl rfl ?_
      refine xu_icmp_ne e_138 hk_138 rfl (fun c3 => ?_) (fun c3 => ?_)
      · have h := xif_neg c3 h
        by_cases o4 : xin x1 16 = true
        case neg => have h := xif_neg o4 h; cases h
        have h := xif_pos o4 h
        refine xOK_steps (fr' := (15, [some (.ref 27), some (.int x1)], [.int ((s.2 0) (x1).toNatClampNeg)])) (w' := (mk t s)) (ob := xin x1 16 && (true)) e_138 hk_138 4 rfl (xand o4 rfl) ?_
        refine xOK_fg [0, 1] ?_
        exact t_M_register_28 t q _ _ h
      · have h := xif_pos c3 h
        refine xOK_fg [0, 1] ?_
        exact t_M_register_18 t q  _ h
set_option maxRecDepth 100000 in
set_option maxHeartbeats 4000000 in
theorem t_M_memory_50 (t : xS) (q : (Int32 × xS)) (y0 : Int32) (s : xS) (h : f_M_memory_50 y0 s = some q) : xOK 139 none (xEnd 139 (some q.1) (mk t q.2)) (28, [none, none], [.int y0]) (mk t s) 0 0 := by
  unfold f_M_memory_50 at h
  cases h
  exact xu_iret e_139 hk_139 rfl rfl rfl
set_option maxRecDepth 100000 in
set_option maxHeartbeats 4000000 in
theorem t_M_memory_49 (t : xS) (q : (Int32 × xS)) (s : xS) (h : f_M_memory_49  s = some q) : xOK 139 none (xEnd 139 (some q.1) (mk t q.2)) (27, [none, none], []) (mk t s) 0 0 := by
  unfold f_M_memory_49 at h
  refine xOK_steps (fr' := (28, [none, none], [.int (0 : Int32)])) (w' := (mk t s)) (ob := true) e_139 hk_139 1 rfl rfl ?_
  exact t_M_memory_50 t q _ _ h
set_option maxRecDepth 100000 in
set_option maxHeartbeats 4000000 in
theorem m_M_memory (x1 : Int32) (s t : xS) (q : (Int32 × xS)) (h : f_M_memory x1 s = some q) : xMet 139 [.ref 27, .int x1] (mk t s) (some q.1) (mk t q.2) := by
  refine xMet_of hk_139 rfl rfl rfl ?_
  refine xOK_eq (fr := (0, [some (.ref 27), some (.int x1)], [])) rfl ?_
  unfold f_M_memory at h
  refine xOK_steps (fr' := (1, [some (.ref 27), some (.int x1)], [.int x1])) (w' := (mk t s)) (ob := true) e_139 hk_139 1 rfl rfl ?_
  obtain ⟨q1, e2, h⟩ := Option.bind_eq_some_iff.mp h
  refine xu_calls (r := (some q1)) (av := [.int x1]) (st := []) (w1 := (mk t s)) e_139 hk_139 rfl rfl (m_M_inFram _ _ _ _ e2) rfl rfl rfl rfl ?_
  refine xu_if_eq e_139 hk_139 rfl (fun c3 => ?_) (fun c3 => ?_)
  · have h := xif_pos c3 h
    refine xOK_steps (fr' := (12, [some (.ref 27), some (.int x1)], [.int x1])) (w' := (mk t s)) (ob := true) e_139 hk_139 1 rfl rfl ?_
    obtain ⟨q4, e5, h⟩ := Option.bind_eq_some_iff.mp h
    refine xu_calls (r := (some q4)) (av := [.int x1]) (st := []) (w1 := (mk t s)) e_139 hk_139 rfl rfl (m_M_inSram _ _ _ _ e5) rfl rfl rfl rfl ?_
    refine xu_if_eq e_139 hk_139 rfl (fun c6 => ?_) (fun c6 => ?_)
    · have h := xif_pos c6 h
      refine xOK_fg [0, 1] ?_
      exact t_M_memory_49 t q  _ h
    · have h := xif_neg c6 h
      refine xOK_steps (fr' := (17, [some (.ref 27), some (.int x1)], [.int (2 : Int32), .int (s.1 14)])) (w' := (mk t s)) (ob := true) e_139 hk_139 3 rfl rfl ?_
      refine xu_icmp_eq e_139 hk_139 rfl (fun c7 => ?_) (fun c7 => ?_)
      · have h := xif_pos c7 h
        refine xOK_fg [0, 1] ?_
        exact t_M_memory_49 t q  _ h
      · have h := xif_neg c7 h
        by_cases o8 : xin ((x1 - (512 : Int32)) / (2 : Int32)) 16 = true
        case neg => have h := xif_neg o8 h; cases h
        have h := xif_pos o8 h
        refine xOK_steps (fr' := (28, [some (.ref 27), some (.int x1)], [.int ((s.2 1) ((x1 - (512 : Int32)) / (2 : Int32)).toNatClampNeg)])) (w' := (mk t s)) (ob := xin ((x1 - (512 : Int32)) / (2 : Int32)) 16 && (true)) e_139 hk_139 9 rfl (xand o8 rfl) ?_
        refine xOK_fg [0, 1] ?_
        exact t_M_memory_50 t q _ _ h
  · have h := xif_neg c3 h
    refine xOK_steps (fr' := (9, [some (.ref 27), some (.int x1)], [.int ((x1 - (1024 : Int32)) / (2 : Int32)), .ref 27])) (w' := (mk t s)) (ob := true) e_139 hk_139 6 rfl rfl ?_
    obtain ⟨q9, e10, h⟩ := Option.bind_eq_some_iff.mp h
    refine xu_callv (q := 27) (r := (some q9.1)) (av := [.int ((x1 - (1024 : Int32)) / (2 : Int32))]) (st := []) (w1 := (mk t q9.2)) e_139 hk_139 rfl (m_M_framNow _ _ _ _ e10) rfl rfl rfl rfl rfl ?_
    cases h
    exact xu_iret e_139 hk_139 rfl rfl rfl
set_option maxRecDepth 100000 in
set_option maxHeartbeats 4000000 in
theorem t_M_fram_20 (t : xS) (q : (Int32 × xS)) (y0 : Int32) (s : xS) (h : f_M_fram_20 y0 s = some q) : xOK 140 none (xEnd 140 (some q.1) (mk t q.2)) (11, [none, none], [.int y0]) (mk t s) 0 0 := by
  unfold f_M_fram_20 at h
  cases h
  exact xu_iret e_140 hk_140 rfl rfl rfl
set_option maxRecDepth 100000 in
set_option maxHeartbeats 4000000 in
theorem t_M_fram_10 (t : xS) (q : (Int32 × xS)) (s : xS) (h : f_M_fram_10  s = some q) : xOK 140 none (xEnd 140 (some q.1) (mk t q.2)) (5, [none, none], []) (mk t s) 0 0 := by
  unfold f_M_fram_10 at h
  refine xOK_steps (fr' := (11, [none, none], [.int (0 : Int32)])) (w' := (mk t s)) (ob := true) e_140 hk_140 2 rfl rfl ?_
  exact t_M_fram_20 t q _ _ h
set_option maxRecDepth 100000 in
set_option maxHeartbeats 4000000 in
theorem m_M_fram (x1 : Int32) (s t : xS) (q : (Int32 × xS)) (h : f_M_fram x1 s = some q) : xMet 140 [.ref 27, .int x1] (mk t s) (some q.1) (mk t q.2) := by
  refine xMet_of hk_140 rfl rfl rfl ?_
  refine xOK_eq (fr := (0, [some (.ref 27), some (.int x1)], [])) rfl ?_
  unfold f_M_fram at h
  refine xOK_steps (fr' := (1, [some (.ref 27), some (.int x1)], [.int x1])) (w' := (mk t s)) (ob := true) e_140 hk_140 1 rfl rfl ?_
  refine xu_if_lt e_140 hk_140 rfl (fun c1 => ?_) (fun c1 => ?_)
  · have h := xif_pos c1 h
    refine xOK_fg [0, 1] ?_
    exact t_M_fram_10 t q  _ h
  · have h := xif_neg c1 h
    refine xOK_steps (fr' := (4, [some (.ref 27), some (.int x1)], [.int (127 : Int32), .int x1])) (w' := (mk t s)) (ob := true) e_140 hk_140 2 rfl rfl ?_
    refine xu_icmp_le e_140 hk_140 rfl (fun c2 => ?_) (fun c2 => ?_)
    · have h := xif_pos c2 h
      by_cases o3 : xin x1 128 = true
      case neg => have h := xif_neg o3 h; cases h
      have h := xif_pos o3 h
      refine xOK_steps (fr' := (11, [some (.ref 27), some (.int x1)], [.int ((s.2 2) (x1).toNatClampNeg)])) (w' := (mk t s)) (ob := xin x1 128 && (true)) e_140 hk_140 4 rfl (xand o3 rfl) ?_
      refine xOK_fg [0, 1] ?_
      exact t_M_fram_20 t q _ _ h
    · have h := xif_neg c2 h
      refine xOK_fg [0, 1] ?_
      exact t_M_fram_10 t q  _ h
set_option maxRecDepth 100000 in
set_option maxHeartbeats 4000000 in
theorem t_M_radio_34 (t : xS) (q : (Int32 × xS)) (y0 : Int32) (s : xS) (h : f_M_radio_34 y0 s = some q) : xOK 141 none (xEnd 141 (some q.1) (mk t q.2)) (18, [none, none], [.int y0]) (mk t s) 0 0 := by
  unfold f_M_radio_34 at h
  cases h
  exact xu_iret e_141 hk_141 rfl rfl rfl
set_option maxRecDepth 100000 in
set_option maxHeartbeats 4000000 in
theorem t_M_radio_24 (t : xS) (q : (Int32 × xS)) (s : xS) (h : f_M_radio_24  s = some q) : xOK 141 none (xEnd 141 (some q.1) (mk t q.2)) (12, [none, none], []) (mk t s) 0 0 := by
  unfold f_M_radio_24 at h
  refine xOK_steps (fr' := (18, [none, none], [.int (0 : Int32)])) (w' := (mk t s)) (ob := true) e_141 hk_141 2 rfl rfl ?_
  exact t_M_radio_34 t q _ _ h
set_option maxRecDepth 100000 in
set_option maxHeartbeats 4000000 in
theorem m_M_radio (x1 : Int32) (s t : xS) (q : (Int32 × xS)) (h : f_M_radio x1 s = some q) : xMet 141 [.ref 27, .int x1] (mk t s) (some q.1) (mk t q.2) := by
  refine xMet_of hk_141 rfl rfl rfl ?_
  refine xOK_eq (fr := (0, [some (.ref 27), some (.int x1)], [])) rfl ?_
  unfold f_M_radio at h
  refine xOK_steps (fr' := (2, [some (.ref 27), some (.int x1)], [.int (-1 : Int32), .int x1])) (w' := (mk t s)) (ob := true) e_141 hk_141 2 rfl rfl ?_
  refine xu_icmp_ne e_141 hk_141 rfl (fun c1 => ?_) (fun c1 => ?_)
  · have h := xif_neg c1 h
    refine xOK_steps (fr' := (7, [some (.ref 27), some (.int x1)], [.int x1])) (w' := (mk t s)) (ob := true) e_141 hk_141 1 rfl rfl ?_
    refine xu_if_lt e_141 hk_141 rfl (fun c2 => ?_) (fun c2 => ?_)
    · have h := xif_pos c2 h
      refine xOK_fg [0, 1] ?_
      exact t_M_radio_24 t q  _ h
    · have h := xif_neg c2 h
      refine xOK_steps (fr' := (11, [some (.ref 27), some (.int x1)], [.int (s.1 13), .int x1])) (w' := (mk t s)) (ob := true) e_141 hk_141 3 rfl rfl ?_
      refine xu_icmp_lt e_141 hk_141 rfl (fun c3 => ?_) (fun c3 => ?_)
      · have h := xif_pos c3 h
        by_cases o4 : xin x1 200 = true
        case neg => have h := xif_neg o4 h; cases h
        have h := xif_pos o4 h
        refine xOK_steps (fr' := (18, [some (.ref 27), some (.int x1)], [.int ((s.2 14) (x1).toNatClampNeg)])) (w' := (mk t s)) (ob := xin x1 200 && (true)) e_141 hk_141 4 rfl (xand o4 rfl) ?_
        refine xOK_fg [0, 1] ?_
        exact t_M_radio_34 t q _ _ h
      · have h := xif_neg c3 h
        refine xOK_fg [0, 1] ?_
        exact t_M_radio_24 t q  _ h
  · have h := xif_pos c1 h
    refine xOK_steps (fr' := (18, [some (.ref 27), some (.int x1)], [.int (s.1 13)])) (w' := (mk t s)) (ob := true) e_141 hk_141 3 rfl rfl ?_
    refine xOK_fg [0, 1] ?_
    exact t_M_radio_34 t q _ _ h
set_option maxRecDepth 100000 in
set_option maxHeartbeats 4000000 in
theorem m_M_waiting (s t : xS) (q : (Int32 × xS)) (h : f_M_waiting  s = some q) : xMet 142 [.ref 27] (mk t s) (some q.1) (mk t q.2) := by
  refine xMet_of hk_142 rfl rfl rfl ?_
  refine xOK_eq (fr := (0, [some (.ref 27)], [])) rfl ?_
  unfold f_M_waiting at h
  refine xOK_steps (fr' := (2, [some (.ref 27)], [.int (s.1 12)])) (w' := (mk t s)) (ob := true) e_142 hk_142 2 rfl rfl ?_
  cases h
  exact xu_iret e_142 hk_142 rfl rfl rfl
set_option maxRecDepth 100000 in
set_option maxHeartbeats 4000000 in
theorem m_M_writes (s t : xS) (q : (Int32 × xS)) (h : f_M_writes  s = some q) : xMet 143 [.ref 27] (mk t s) (some q.1) (mk t q.2) := by
  refine xMet_of hk_143 rfl rfl rfl ?_
  refine xOK_eq (fr := (0, [some (.ref 27)], [])) rfl ?_
  unfold f_M_writes at h
  refine xOK_steps (fr' := (2, [some (.ref 27)], [.int (s.1 18)])) (w' := (mk t s)) (ob := true) e_143 hk_143 2 rfl rfl ?_
  cases h
  exact xu_iret e_143 hk_143 rfl rfl rfl
set_option maxRecDepth 100000 in
set_option maxHeartbeats 4000000 in
theorem m_M_flips (s t : xS) (q : (Int32 × xS)) (h : f_M_flips  s = some q) : xMet 144 [.ref 27] (mk t s) (some q.1) (mk t q.2) := by
  refine xMet_of hk_144 rfl rfl rfl ?_
  refine xOK_eq (fr := (0, [some (.ref 27)], [])) rfl ?_
  unfold f_M_flips at h
  refine xOK_steps (fr' := (2, [some (.ref 27)], [.int (s.1 19)])) (w' := (mk t s)) (ob := true) e_144 hk_144 2 rfl rfl ?_
  cases h
  exact xu_iret e_144 hk_144 rfl rfl rfl
set_option maxRecDepth 100000 in
set_option maxHeartbeats 4000000 in
theorem m_M_retired (s t : xS) (q : (Int32 × xS)) (h : f_M_retired  s = some q) : xMet 145 [.ref 27] (mk t s) (some q.1) (mk t q.2) := by
  refine xMet_of hk_145 rfl rfl rfl ?_
  refine xOK_eq (fr := (0, [some (.ref 27)], [])) rfl ?_
  unfold f_M_retired at h
  refine xOK_steps (fr' := (5, [some (.ref 27)], [.int ((s.1 10) + (s.1 3))])) (w' := (mk t s)) (ob := true) e_145 hk_145 5 rfl rfl ?_
  cases h
  exact xu_iret e_145 hk_145 rfl rfl rfl
set_option maxRecDepth 100000 in
set_option maxHeartbeats 4000000 in
theorem m_M_section (s t : xS) (q : (Int32 × xS)) (h : f_M_section  s = some q) : xMet 146 [.ref 27] (mk t s) (some q.1) (mk t q.2) := by
  refine xMet_of hk_146 rfl rfl rfl ?_
  refine xOK_eq (fr := (0, [some (.ref 27)], [])) rfl ?_
  unfold f_M_section at h
  refine xOK_steps (fr' := (1, [some (.ref 27)], [.ref 27])) (w' := (mk t s)) (ob := true) e_146 hk_146 1 rfl rfl ?_
  obtain ⟨q1, e2, h⟩ := Option.bind_eq_some_iff.mp h
  refine xu_callv (q := 27) (r := (some q1.1)) (av := []) (st := []) (w1 := (mk t q1.2)) e_146 hk_146 rfl (m_M_tracked  _ _ _ e2) rfl rfl rfl rfl rfl ?_
  refine xOK_steps (fr' := (17, [some (.ref 27)], [.int (((q1.1 + ((32 : Int32) * (q1.2.1 0))) + ((256 : Int32) * (q1.2.1 1))) + ((2048 : Int32) * (q1.2.1 11)))])) (w' := (mk t q1.2)) (ob := true) e_146 hk_146 15 rfl rfl ?_
  cases h
  exact xu_iret e_146 hk_146 rfl rfl rfl
