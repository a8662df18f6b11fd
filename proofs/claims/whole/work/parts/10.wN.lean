set_option maxRecDepth 100000 in
set_option maxHeartbeats 4000000 in
theorem t_C_isFramWord_16 (s t : xS) (q : Int32) (y0 : Int32)  (h : f_C_isFramWord_16 y0  = some q) : xOK 18 none (xEnd 18 (some q) (mk s t)) (8, [none], [.int y0]) (mk s t) 0 0 := by
  unfold f_C_isFramWord_16 at h
  by_cases o1 : xbl y0 = true
  case neg => have h := xif_neg o1 h; cases h
  have h := xif_pos o1 h
  cases h
  exact xu_iret e_18 hk_18 rfl o1 rfl
set_option maxRecDepth 100000 in
set_option maxHeartbeats 4000000 in
theorem t_C_isFramWord_15 (s t : xS) (q : Int32)  (h : f_C_isFramWord_15   = some q) : xOK 18 none (xEnd 18 (some q) (mk s t)) (7, [none], []) (mk s t) 0 0 := by
  unfold f_C_isFramWord_15 at h
  refine xOK_steps (fr' := (8, [none], [.int (0 : Int32)])) (w' := (mk s t)) (ob := true) e_18 hk_18 1 rfl rfl ?_
  exact t_C_isFramWord_16 s t q _  h
set_option maxRecDepth 100000 in
set_option maxHeartbeats 4000000 in
theorem m_C_isFramWord (x0 : Int32) (s t : xS) (q : Int32) (h : f_C_isFramWord x0  = some q) : xMet 18 [.int x0] (mk s t) (some q) (mk s t) := by
  refine xMet_of hk_18 rfl rfl rfl ?_
  refine xOK_eq (fr := (0, [some (.int x0)], [])) rfl ?_
  unfold f_C_isFramWord at h
  refine xOK_steps (fr' := (1, [some (.int x0)], [.int x0])) (w' := (mk s t)) (ob := true) e_18 hk_18 1 rfl rfl ?_
  refine xu_if_lt e_18 hk_18 rfl (fun c2 => ?_) (fun c2 => ?_)
  · have h := xif_pos c2 h
    refine xOK_fg [0] ?_
    exact t_C_isFramWord_15 s t q   h
  · have h := xif_neg c2 h
    refine xOK_steps (fr' := (4, [some (.int x0)], [.int (128 : Int32), .int x0])) (w' := (mk s t)) (ob := true) e_18 hk_18 2 rfl rfl ?_
    refine xu_icmp_ge e_18 hk_18 rfl (fun c3 => ?_) (fun c3 => ?_)
    · have h := xif_pos c3 h
      refine xOK_fg [0] ?_
      exact t_C_isFramWord_15 s t q   h
    · have h := xif_neg c3 h
      refine xOK_steps (fr' := (8, [some (.int x0)], [.int (1 : Int32)])) (w' := (mk s t)) (ob := true) e_18 hk_18 2 rfl rfl ?_
      refine xOK_fg [0] ?_
      exact t_C_isFramWord_16 s t q _  h
set_option maxRecDepth 100000 in
set_option maxHeartbeats 4000000 in
theorem t_Bus_inFram_19 (s t : xS) (q : Int32) (y0 : Int32)  (h : f_Bus_inFram_19 y0  = some q) : xOK 56 none (xEnd 56 (some q) (mk s t)) (9, [none], [.int y0]) (mk s t) 0 0 := by
  unfold f_Bus_inFram_19 at h
  by_cases o1 : xbl y0 = true
  case neg => have h := xif_neg o1 h; cases h
  have h := xif_pos o1 h
  cases h
  exact xu_iret e_56 hk_56 rfl o1 rfl
set_option maxRecDepth 100000 in
set_option maxHeartbeats 4000000 in
theorem t_Bus_inFram_18 (s t : xS) (q : Int32)  (h : f_Bus_inFram_18   = some q) : xOK 56 none (xEnd 56 (some q) (mk s t)) (8, [none], []) (mk s t) 0 0 := by
  unfold f_Bus_inFram_18 at h
  refine xOK_steps (fr' := (9, [none], [.int (0 : Int32)])) (w' := (mk s t)) (ob := true) e_56 hk_56 1 rfl rfl ?_
  exact t_Bus_inFram_19 s t q _  h
set_option maxRecDepth 100000 in
set_option maxHeartbeats 4000000 in
theorem m_Bus_inFram (x0 : Int32) (s t : xS) (q : Int32) (h : f_Bus_inFram x0  = some q) : xMet 56 [.int x0] (mk s t) (some q) (mk s t) := by
  refine xMet_of hk_56 rfl rfl rfl ?_
  refine xOK_eq (fr := (0, [some (.int x0)], [])) rfl ?_
  unfold f_Bus_inFram at h
  refine xOK_steps (fr' := (2, [some (.int x0)], [.int (1024 : Int32), .int x0])) (w' := (mk s t)) (ob := true) e_56 hk_56 2 rfl rfl ?_
  refine xu_icmp_lt e_56 hk_56 rfl (fun c2 => ?_) (fun c2 => ?_)
  · have h := xif_pos c2 h
    refine xOK_fg [0] ?_
    exact t_Bus_inFram_18 s t q   h
  · have h := xif_neg c2 h
    refine xOK_steps (fr' := (5, [some (.int x0)], [.int (1280 : Int32), .int x0])) (w' := (mk s t)) (ob := true) e_56 hk_56 2 rfl rfl ?_
    refine xu_icmp_ge e_56 hk_56 rfl (fun c3 => ?_) (fun c3 => ?_)
    · have h := xif_pos c3 h
      refine xOK_fg [0] ?_
      exact t_Bus_inFram_18 s t q   h
    · have h := xif_neg c3 h
      refine xOK_steps (fr' := (9, [some (.int x0)], [.int (1 : Int32)])) (w' := (mk s t)) (ob := true) e_56 hk_56 2 rfl rfl ?_
      refine xOK_fg [0] ?_
      exact t_Bus_inFram_19 s t q _  h
set_option maxRecDepth 100000 in
set_option maxHeartbeats 4000000 in
theorem m_Bus_framWord (x0 : Int32) (s t : xS) (q : Int32) (h : f_Bus_framWord x0  = some q) : xMet 58 [.int x0] (mk s t) (some q) (mk s t) := by
  refine xMet_of hk_58 rfl rfl rfl ?_
  refine xOK_eq (fr := (0, [some (.int x0)], [])) rfl ?_
  unfold f_Bus_framWord at h
  refine xOK_steps (fr' := (5, [some (.int x0)], [.int ((x0 - (1024 : Int32)) >>> ((1 : Int32) &&& 31))])) (w' := (mk s t)) (ob := true) e_58 hk_58 5 rfl rfl ?_
  cases h
  exact xu_iret e_58 hk_58 rfl rfl rfl
set_option maxRecDepth 100000 in
set_option maxHeartbeats 4000000 in
theorem t_Bus_inSram_19 (s t : xS) (q : Int32) (y0 : Int32)  (h : f_Bus_inSram_19 y0  = some q) : xOK 55 none (xEnd 55 (some q) (mk s t)) (9, [none], [.int y0]) (mk s t) 0 0 := by
  unfold f_Bus_inSram_19 at h
  by_cases o1 : xbl y0 = true
  case neg => have h := xif_neg o1 h; cases h
  have h := xif_pos o1 h
  cases h
  exact xu_iret e_55 hk_55 rfl o1 rfl
set_option maxRecDepth 100000 in
set_option maxHeartbeats 4000000 in
theorem t_Bus_inSram_18 (s t : xS) (q : Int32)  (h : f_Bus_inSram_18   = some q) : xOK 55 none (xEnd 55 (some q) (mk s t)) (8, [none], []) (mk s t) 0 0 := by
  unfold f_Bus_inSram_18 at h
  refine xOK_steps (fr' := (9, [none], [.int (0 : Int32)])) (w' := (mk s t)) (ob := true) e_55 hk_55 1 rfl rfl ?_
  exact t_Bus_inSram_19 s t q _  h
set_option maxRecDepth 100000 in
set_option maxHeartbeats 4000000 in
theorem m_Bus_inSram (x0 : Int32) (s t : xS) (q : Int32) (h : f_Bus_inSram x0  = some q) : xMet 55 [.int x0] (mk s t) (some q) (mk s t) := by
  refine xMet_of hk_55 rfl rfl rfl ?_
  refine xOK_eq (fr := (0, [some (.int x0)], [])) rfl ?_
  unfold f_Bus_inSram at h
  refine xOK_steps (fr' := (2, [some (.int x0)], [.int (512 : Int32), .int x0])) (w' := (mk s t)) (ob := true) e_55 hk_55 2 rfl rfl ?_
  refine xu_icmp_lt e_55 hk_55 rfl (fun c2 => ?_) (fun c2 => ?_)
  · have h := xif_pos c2 h
    refine xOK_fg [0] ?_
    exact t_Bus_inSram_18 s t q   h
  · have h := xif_neg c2 h
    refine xOK_steps (fr' := (5, [some (.int x0)], [.int (544 : Int32), .int x0])) (w' := (mk s t)) (ob := true) e_55 hk_55 2 rfl rfl ?_
    refine xu_icmp_ge e_55 hk_55 rfl (fun c3 => ?_) (fun c3 => ?_)
    · have h := xif_pos c3 h
      refine xOK_fg [0] ?_
      exact t_Bus_inSram_18 s t q   h
    · have h := xif_neg c3 h
      refine xOK_steps (fr' := (9, [some (.int x0)], [.int (1 : Int32)])) (w' := (mk s t)) (ob := true) e_55 hk_55 2 rfl rfl ?_
      refine xOK_fg [0] ?_
      exact t_Bus_inSram_19 s t q _  h
set_option maxRecDepth 100000 in
set_option maxHeartbeats 4000000 in
theorem m_Bus_sramWord (x0 : Int32) (s t : xS) (q : Int32) (h : f_Bus_sramWord x0  = some q) : xMet 57 [.int x0] (mk s t) (some q) (mk s t) := by
  refine xMet_of hk_57 rfl rfl rfl ?_
  refine xOK_eq (fr := (0, [some (.int x0)], [])) rfl ?_
  unfold f_Bus_sramWord at h
  refine xOK_steps (fr' := (5, [some (.int x0)], [.int ((x0 - (512 : Int32)) >>> ((1 : Int32) &&& 31))])) (w' := (mk s t)) (ob := true) e_57 hk_57 5 rfl rfl ?_
  cases h
  exact xu_iret e_57 hk_57 rfl rfl rfl
set_option maxRecDepth 100000 in
set_option maxHeartbeats 4000000 in
theorem t_Bus_withByte_26 (s t : xS) (q : Int32) (y0 : Int32)  (h : f_Bus_withByte_26 y0  = some q) : xOK 54 none (xEnd 54 (some q) (mk s t)) (18, [none, none, none], [.int y0]) (mk s t) 0 0 := by
  unfold f_Bus_withByte_26 at h
  cases h
  exact xu_iret e_54 hk_54 rfl rfl rfl
set_option maxRecDepth 100000 in
set_option maxHeartbeats 4000000 in
theorem m_Bus_withByte (x0 x1 x2 : Int32) (s t : xS) (q : Int32) (h : f_Bus_withByte x0 x1 x2  = some q) : xMet 54 [.int x0, .int x1, .int x2] (mk s t) (some q) (mk s t) := by
  refine xMet_of hk_54 rfl rfl rfl ?_
  refine xOK_eq (fr := (0, [some (.int x0), some (.int x1), some (.int x2)], [])) rfl ?_
  unfold f_Bus_withByte at h
  refine xOK_steps (fr' := (4, [some (.int x0), some (.int x1), some (.int x2)], [.int (1 : Int32), .int (x1 &&& (1 : Int32))])) (w' := (mk s t)) (ob := true) e_54 hk_54 4 rfl rfl ?_
  refine xu_icmp_ne e_54 hk_54 rfl (fun c1 => ?_) (fun c1 => ?_)
  · have h := xif_neg c1 h
    refine xOK_steps (fr' := (18, [some (.int x0), some (.int x1), some (.int x2)], [.int ((x0 &&& (65280 : Int32)) ||| x2)])) (w' := (mk s t)) (ob := true) e_54 hk_54 5 rfl rfl ?_
    refine xOK_fg [0, 1, 2] ?_
    exact t_Bus_withByte_26 s t q _  h
  · have h := xif_pos c1 h
    refine xOK_steps (fr' := (18, [some (.int x0), some (.int x1), some (.int x2)], [.int ((x0 &&& (255 : Int32)) ||| (x2 <<< ((8 : Int32) &&& 31)))])) (w' := (mk s t)) (ob := true) e_54 hk_54 8 rfl rfl ?_
    refine xOK_fg [0, 1, 2] ?_
    exact t_Bus_withByte_26 s t q _  h
set_option maxRecDepth 100000 in
set_option maxHeartbeats 4000000 in
theorem t_M_inFram_19 (s t : xS) (q : Int32) (y0 : Int32)  (h : f_M_inFram_19 y0  = some q) : xOK 104 none (xEnd 104 (some q) (mk s t)) (9, [none], [.int y0]) (mk s t) 0 0 := by
  unfold f_M_inFram_19 at h
  by_cases o1 : xbl y0 = true
  case neg => have h := xif_neg o1 h; cases h
  have h := xif_pos o1 h
  cases h
  exact xu_iret e_104 hk_104 rfl o1 rfl
set_option maxRecDepth 100000 in
set_option maxHeartbeats 4000000 in
theorem t_M_inFram_18 (s t : xS) (q : Int32)  (h : f_M_inFram_18   = some q) : xOK 104 none (xEnd 104 (some q) (mk s t)) (8, [none], []) (mk s t) 0 0 := by
  unfold f_M_inFram_18 at h
  refine xOK_steps (fr' := (9, [none], [.int (0 : Int32)])) (w' := (mk s t)) (ob := true) e_104 hk_104 1 rfl rfl ?_
  exact t_M_inFram_19 s t q _  h
set_option maxRecDepth 100000 in
set_option maxHeartbeats 4000000 in
theorem m_M_inFram (x0 : Int32) (s t : xS) (q : Int32) (h : f_M_inFram x0  = some q) : xMet 104 [.int x0] (mk s t) (some q) (mk s t) := by
  refine xMet_of hk_104 rfl rfl rfl ?_
  refine xOK_eq (fr := (0, [some (.int x0)], [])) rfl ?_
  unfold f_M_inFram at h
  refine xOK_steps (fr' := (2, [some (.int x0)], [.int (1024 : Int32), .int x0])) (w' := (mk s t)) (ob := true) e_104 hk_104 2 rfl rfl ?_
  refine xu_icmp_lt e_104 hk_104 rfl (fun c2 => ?_) (fun c2 => ?_)
  · have h := xif_pos c2 h
    refine xOK_fg [0] ?_
    exact t_M_inFram_18 s t q   h
  · have h := xif_neg c2 h
    refine xOK_steps (fr' := (5, [some (.int x0)], [.int (1279 : Int32), .int x0])) (w' := (mk s t)) (ob := true) e_104 hk_104 2 rfl rfl ?_
    refine xu_icmp_gt e_104 hk_104 rfl (fun c3 => ?_) (fun c3 => ?_)
    · have h := xif_pos c3 h
      refine xOK_fg [0] ?_
      exact t_M_inFram_18 s t q   h
    · have h := xif_neg c3 h
      refine xOK_steps (fr' := (9, [some (.int x0)], [.int (1 : Int32)])) (w' := (mk s t)) (ob := true) e_104 hk_104 2 rfl rfl ?_
      refine xOK_fg [0] ?_
      exact t_M_inFram_19 s t q _  h
set_option maxRecDepth 100000 in
set_option maxHeartbeats 4000000 in
theorem t_M_inSram_19 (s t : xS) (q : Int32) (y0 : Int32)  (h : f_M_inSram_19 y0  = some q) : xOK 103 none (xEnd 103 (some q) (mk s t)) (9, [none], [.int y0]) (mk s t) 0 0 := by
  unfold f_M_inSram_19 at h
  by_cases o1 : xbl y0 = true
  case neg => have h := xif_neg o1 h; cases h
  have h := xif_pos o1 h
  cases h
  exact xu_iret e_103 hk_103 rfl o1 rfl
set_option maxRecDepth 100000 in
set_option maxHeartbeats 4000000 in
theorem t_M_inSram_18 (s t : xS) (q : Int32)  (h : f_M_inSram_18   = some q) : xOK 103 none (xEnd 103 (some q) (mk s t)) (8, [none], []) (mk s t) 0 0 := by
  unfold f_M_inSram_18 at h
  refine xOK_steps (fr' := (9, [none], [.int (0 : Int32)])) (w' := (mk s t)) (ob := true) e_103 hk_103 1 rfl rfl ?_
  exact t_M_inSram_19 s t q _  h
set_option maxRecDepth 100000 in
set_option maxHeartbeats 4000000 in
theorem m_M_inSram (x0 : Int32) (s t : xS) (q : Int32) (h : f_M_inSram x0  = some q) : xMet 103 [.int x0] (mk s t) (some q) (mk s t) := by
  refine xMet_of hk_103 rfl rfl rfl ?_
  refine xOK_eq (fr := (0, [some (.int x0)], [])) rfl ?_
  unfold f_M_inSram at h
  refine xOK_steps (fr' := (2, [some (.int x0)], [.int (512 : Int32), .int x0])) (w' := (mk s t)) (ob := true) e_103 hk_103 2 rfl rfl ?_
  refine xu_icmp_lt e_103 hk_103 rfl (fun c2 => ?_) (fun c2 => ?_)
  · have h := xif_pos c2 h
    refine xOK_fg [0] ?_
    exact t_M_inSram_18 s t q   h
  · have h := xif_neg c2 h
    refine xOK_steps (fr' := (5, [some (.int x0)], [.int (543 : Int32), .int x0])) (w' := (mk s t)) (ob := true) e_103 hk_103 2 rfl rfl ?_
    refine xu_icmp_gt e_103 hk_103 rfl (fun c3 => ?_) (fun c3 => ?_)
    · have h := xif_pos c3 h
      refine xOK_fg [0] ?_
      exact t_M_inSram_18 s t q   h
    · have h := xif_neg c3 h
      refine xOK_steps (fr' := (9, [some (.int x0)], [.int (1 : Int32)])) (w' := (mk s t)) (ob := true) e_103 hk_103 2 rfl rfl ?_
      refine xOK_fg [0] ?_
      exact t_M_inSram_19 s t q _  h
set_option maxRecDepth 100000 in
set_option maxHeartbeats 4000000 in
theorem t_M_merged_39 (s t : xS) (q : Int32) (y0 : Int32)  (h : f_M_merged_39 y0  = some q) : xOK 109 none (xEnd 109 (some q) (mk s t)) (23, [none, none, none, none], [.int y0]) (mk s t) 0 0 := by
  unfold f_M_merged_39 at h
  cases h
  exact xu_iret e_109 hk_109 rfl rfl rfl
set_option maxRecDepth 100000 in
set_option maxHeartbeats 4000000 in
theorem m_M_merged (x0 x1 x2 x3 : Int32) (s t : xS) (q : Int32) (h : f_M_merged x0 x1 x2 x3  = some q) : xMet 109 [.int x0, .int x1, .int x2, .int x3] (mk s t) (some q) (mk s t) := by
  refine xMet_of hk_109 rfl rfl rfl ?_
  refine xOK_eq (fr := (0, [some (.int x0), some (.int x1), some (.int x2), some (.int x3)], [])) rfl ?_
  unfold f_M_merged at h
  refine xOK_steps (fr' := (1, [some (.int x0), some (.int x1), some (.int x2), some (.int x3)], [.int x3])) (w' := (mk s t)) (ob := true) e_109 hk_109 1 rfl rfl ?_
  refine xu_if_ne e_109 hk_109 rfl (fun c1 => ?_) (fun c1 => ?_)
  · have h := xif_neg c1 h
    refine xOK_steps (fr' := (7, [some (.int x0), some (.int x1), some (.int x2), some (.int x3)], [.int (xrem x1 (2 : Int32))])) (w' := (mk s t)) (ob := true) e_109 hk_109 3 rfl rfl ?_
    refine xu_if_ne e_109 hk_109 rfl (fun c2 => ?_) (fun c2 => ?_)
    · have h := xif_neg c2 h
      refine xOK_steps (fr' := (23, [some (.int x0), some (.int x1), some (.int x2), some (.int x3)], [.int ((x2 * (256 : Int32)) + (xrem x0 (256 : Int32)))])) (w' := (mk s t)) (ob := true) e_109 hk_109 7 rfl rfl ?_
      refine xOK_fg [0, 1, 2, 3] ?_
      exact t_M_merged_39 s t q _  h
    · have h := xif_pos c2 h
      refine xOK_steps (fr' := (23, [some (.int x0), some (.int x1), some (.int x2), some (.int x3)], [.int (((x0 / (256 : Int32)) * (256 : Int32)) + x2)])) (w' := (mk s t)) (ob := true) e_109 hk_109 8 rfl rfl ?_
      refine xOK_fg [0, 1, 2, 3] ?_
      exact t_M_merged_39 s t q _  h
  · have h := xif_pos c1 h
    refine xOK_steps (fr' := (23, [some (.int x0), some (.int x1), some (.int x2), some (.int x3)], [.int x2])) (w' := (mk s t)) (ob := true) e_109 hk_109 2 rfl rfl ?_
    refine xOK_fg [0, 1, 2, 3] ?_
    exact t_M_merged_39 s t q _  h
set_option maxRecDepth 100000 in
set_option maxHeartbeats 4000000 in
theorem t_M_signed_14 (s t : xS) (q : Int32) (y0 : Int32)  (h : f_M_signed_14 y0  = some q) : xOK 119 none (xEnd 119 (some q) (mk s t)) (10, [none, none], [.int y0]) (mk s t) 0 0 := by
  unfold f_M_signed_14 at h
  cases h
  exact xu_iret e_119 hk_119 rfl rfl rfl
set_option maxRecDepth 100000 in
set_option maxHeartbeats 4000000 in
theorem m_M_signed (x0 x1 : Int32) (s t : xS) (q : Int32) (h : f_M_signed x0 x1  = some q) : xMet 119 [.int x0, .int x1] (mk s t) (some q) (mk s t) := by
  refine xMet_of hk_119 rfl rfl rfl ?_
  refine xOK_eq (fr := (0, [some (.int x0), some (.int x1)], [])) rfl ?_
  unfold f_M_signed at h
  refine xOK_steps (fr' := (4, [some (.int x0), some (.int x1)], [.int (x1 / (2 : Int32)), .int x0])) (w' := (mk s t)) (ob := true) e_119 hk_119 4 rfl rfl ?_
  refine xu_icmp_lt e_119 hk_119 rfl (fun c1 => ?_) (fun c1 => ?_)
  · have h := xif_pos c1 h
    refine xOK_steps (fr' := (10, [some (.int x0), some (.int x1)], [.int x0])) (w' := (mk s t)) (ob := true) e_119 hk_119 1 rfl rfl ?_
    refine xOK_fg [0, 1] ?_
    exact t_M_signed_14 s t q _  h
  · have h := xif_neg c1 h
    refine xOK_steps (fr' := (10, [some (.int x0), some (.int x1)], [.int (x0 - x1)])) (w' := (mk s t)) (ob := true) e_119 hk_119 4 rfl rfl ?_
    refine xOK_fg [0, 1] ?_
    exact t_M_signed_14 s t q _  h
