def mk (s t : xS) : xW := [.inr (0, [.ref 1, .ref 3, .ref 7, .ref 9, .ref 15, .ref 17, .ref 19, .int (s.1 0)]),
  .inr (1, [.int (s.1 1), .int (s.1 2), .ref 2]),
  .inl (2, s.2 0),
  .inr (2, [.ref 4, .ref 5, .ref 6, .int (s.1 3), .int (s.1 4)]),
  .inl (128, s.2 1),
  .inl (4, s.2 2),
  .inl (200, s.2 3),
  .inr (3, [.ref 8, .int (s.1 5), .int (s.1 6)]),
  .inl (16, s.2 4),
  .inr (5, [.ref 10, .ref 11, .int (s.1 7), .int (s.1 8), .int (s.1 9)]),
  .inl (128, s.2 5),
  .inr (4, [.ref 12, .ref 13, .ref 14, .int (s.1 10), .int (s.1 11)]),
  .inl (4, s.2 6),
  .inl (4, s.2 7),
  .inl (4, s.2 8),
  .inr (6, [.ref 16, .ref 1, .ref 3, .ref 7, .ref 9, .int (s.1 12)]),
  .inl (16, s.2 9),
  .inr (7, [.ref 18, .ref 15, .int (s.1 13), .int (s.1 14), .int (s.1 15), .int (s.1 16), .int (s.1 17)]),
  .inl (16, s.2 10),
  .inr (9, [.ref 20, .int (s.1 18), .ref 1, .ref 3, .ref 9, .ref 18, .ref 16]),
  .inr (8, [.ref 21, .ref 22, .ref 23, .int (s.1 19), .int (s.1 20), .int (s.1 21), .int (s.1 22)]),
  .inl (16, s.2 11),
  .inl (16, s.2 12),
  .inr (4, [.ref 24, .ref 25, .ref 26, .int (s.1 23), .int (s.1 24)]),
  .inl (4, s.2 13),
  .inl (4, s.2 14),
  .inl (4, s.2 15),
  .inr (10, [.ref 28, .ref 29, .ref 30, .ref 31, .ref 32, .ref 33, .int (t.1 0), .ref 34, .int (t.1 1), .int (t.1 2), .int (t.1 3), .int (t.1 4), .ref 35, .ref 36, .ref 37, .ref 38, .int (t.1 5), .ref 39, .int (t.1 6), .int (t.1 7), .int (t.1 8), .int (t.1 9), .int (t.1 10), .ref 40, .int (t.1 11), .ref 41, .int (t.1 12), .ref 42, .int (t.1 13), .int (t.1 14), .int (t.1 15), .int (t.1 16), .int (t.1 17), .int (t.1 18), .int (t.1 19), .int (t.1 20), .int (t.1 21)]),
  .inl (16, t.2 0),
  .inl (16, t.2 1),
  .inl (128, t.2 2),
  .inl (128, t.2 3),
  .inl (128, t.2 4),
  .inl (128, t.2 5),
  .inl (8, t.2 6),
  .inl (16, t.2 7),
  .inl (16, t.2 8),
  .inl (8, t.2 9),
  .inl (8, t.2 10),
  .inl (8, t.2 11),
  .inl (8, t.2 12),
  .inl (16, t.2 13),
  .inl (200, t.2 14)]
def xs0 : xS := (fun n => if n = 22 then 1 else 0, fun _ _ => 0)
def xt0 : xS := (fun _ => 0, fun _ _ => 0)
def f_C_isFramWord_16 (y0 : Int32)  : Option Int32 := if xbl y0 = true then some y0 else none
def f_C_isFramWord_15  : Option Int32 := f_C_isFramWord_16 (0 : Int32) 
def f_C_isFramWord (x0 : Int32)  : Option Int32 := if x0 < 0 then (f_C_isFramWord_15  ) else (if (128 : Int32) ≤ x0 then (f_C_isFramWord_15  ) else (f_C_isFramWord_16 (1 : Int32) ))
def f_C_load_14 (s : xS) : Option (Int32 × xS) := some ((0 : Int32), s)
def f_C_load (x1 x2 : Int32) (s : xS) : Option (Int32 × xS) := if (s.1 0) = 0 then ((f_C_isFramWord x1 ).bind fun q2 => if q2 = 0 then (f_C_load_14  s) else (if xin x1 128 = true then some ((1 : Int32), (xsa s 1 (x1).toNatClampNeg (x2 &&& (65535 : Int32)))) else none)) else (f_C_load_14  s)
def f_Keeper_keepVolatile (s : xS) : Option xS := some (xsf (xsf s 11 (va_cpy (s.2 10) (s.2 11) 0 0 16)) 12 (va_cpy (s.2 9) (s.2 12) 0 0 16))
def f_C_start (x1 : Int32) (s : xS) : Option (Int32 × xS) := if (s.1 0) = 0 then ((f_Keeper_keepVolatile  (xsa s 10 0 (x1 &&& (65534 : Int32)))).bind fun q2 => some ((1 : Int32), (xsc (xsc q2 1 (1 : Int32)) 0 (1 : Int32)))) else (some ((0 : Int32), s))
def f_Samples_append (x1 : Int32) (s : xS) : Option (Int32 × xS) := if (s.1 6) < (16 : Int32) then (if xin (xrem ((s.1 5) + (s.1 6)) (16 : Int32)) 16 = true then some ((1 : Int32), (xsc (xsa s 4 (xrem ((s.1 5) + (s.1 6)) (16 : Int32)).toNatClampNeg x1) 6 ((s.1 6) + (1 : Int32)))) else none) else (some ((0 : Int32), s))
def f_C_sample (x1 : Int32) (s : xS) : Option (Int32 × xS) := (f_Samples_append (x1 &&& (65535 : Int32)) s).bind fun q1 => if xbl q1.1 = true then some (q1.1, q1.2) else none
def f_Power_tell_11 (s : xS) : Option (Int32 × xS) := some ((0 : Int32), s)
def f_Power_tell (x1 x2 : Int32) (s : xS) : Option (Int32 × xS) := if x2 < 0 then (f_Power_tell_11  s) else (if x2 ≤ (1000 : Int32) then (if xin x1 2 = true then some ((1 : Int32), (xsa s 0 (x1).toNatClampNeg x2)) else none) else (f_Power_tell_11  s))
def f_C_failWrite (x1 : Int32) (s : xS) : Option (Int32 × xS) := (f_Power_tell (0 : Int32) x1 s).bind fun q1 => if xbl q1.1 = true then some (q1.1, q1.2) else none
def f_C_failStep (x1 : Int32) (s : xS) : Option (Int32 × xS) := (f_Power_tell (1 : Int32) x1 s).bind fun q1 => if xbl q1.1 = true then some (q1.1, q1.2) else none
def f_J_fill_5 : Nat → Int32 → Int32 → Int32 → xS → Option xS
  | 0, _, _, _, _ => none
  | n + 1, x1, x2, x3, s => if x3 ≤ x2 then (some s) else (if xin x2 16 = true then f_J_fill_5 n x1 (x2 + (1 : Int32)) x3 (xsa s 10 (x2).toNatClampNeg x1) else none)
def f_J_fill (x1 : Int32) (s : xS) : Option xS := f_J_fill_5 1000 x1 (0 : Int32) (16 : Int32) s
def f_J_fill_1_5 : Nat → Int32 → Int32 → Int32 → xS → Option xS
  | 0, _, _, _, _ => none
  | n + 1, x1, x2, x3, s => if x3 ≤ x2 then (some s) else (if xin x2 16 = true then f_J_fill_1_5 n x1 (x2 + (1 : Int32)) x3 (xsa s 9 (x2).toNatClampNeg x1) else none)
def f_J_fill_1 (x1 : Int32) (s : xS) : Option xS := f_J_fill_1_5 1000 x1 (0 : Int32) (16 : Int32) s
def f_J_fill_2_5 : Nat → Int32 → Int32 → Int32 → xS → Option xS
  | 0, _, _, _, _ => none
  | n + 1, x1, x2, x3, s => if x3 ≤ x2 then (some s) else (if xin x2 128 = true then f_J_fill_2_5 n x1 (x2 + (1 : Int32)) x3 (xsa s 5 (x2).toNatClampNeg x1) else none)
def f_J_fill_2 (x1 : Int32) (s : xS) : Option xS := f_J_fill_2_5 1000 x1 (0 : Int32) (128 : Int32) s
def f_Held_clear (s : xS) : Option xS := some (xsc (xsc s 10 (0 : Int32)) 11 (0 : Int32))
def f_Section_begin (s : xS) : Option xS := (f_J_fill_2 (0 : Int32) s).bind fun q1 => (f_Held_clear  q1).bind fun q3 => some (xsc (xsc (xsc q3 7 (0 : Int32)) 8 (0 : Int32)) 9 (0 : Int32))
def f_C_forget (s : xS) : Option xS := (f_J_fill (0 : Int32) s).bind fun q1 => (f_J_fill_1 (0 : Int32) q1).bind fun q3 => (f_Section_begin  q3).bind fun q5 => some (xsc q5 0 (2 : Int32))
def f_Bus_takeHalt (s : xS) : Option (Int32 × xS) := if xbl (s.1 12) = true then some ((s.1 12), (xsc s 12 (0 : Int32))) else none
def f_Power_allows_78 (s : xS) : Option (Int32 × xS) := some ((1 : Int32), s)
def f_Power_allows_64 (x1 : Int32) (s : xS) : Option (Int32 × xS) := if x1 = 0 then (f_Power_allows_78  (xsc s 2 ((s.1 2) + (1 : Int32)))) else (f_Power_allows_78  s)
def f_Power_allows_36 (x1 : Int32) (s : xS) : Option (Int32 × xS) := if (s.1 1) = 0 then (some ((0 : Int32), s)) else (if xin x1 2 = true then if ((s.2 0) (x1).toNatClampNeg) ≤ 0 then (f_Power_allows_64 x1 s) else (if xin x1 2 = true then if xin x1 2 = true then f_Power_allows_64 x1 (xsa s 0 (x1).toNatClampNeg (((s.2 0) (x1).toNatClampNeg) - (1 : Int32))) else none else none) else none)
def f_Power_allows (x1 : Int32) (s : xS) : Option (Int32 × xS) := if (s.1 1) = 0 then (f_Power_allows_36 x1 s) else (if xin x1 2 = true then if ((s.2 0) (x1).toNatClampNeg) = (1 : Int32) then (f_Power_allows_36 x1 (xsa (xsa (xsc s 1 (0 : Int32)) 0 0 (0 : Int32)) 0 1 (0 : Int32))) else (f_Power_allows_36 x1 s) else none)
def f_Held_copyFrom (s : xS) : Option xS := some (xsc (xsc (xsf (xsf (xsf s 13 (va_cpy (s.2 6) (s.2 13) 0 0 4)) 14 (va_cpy (s.2 7) (s.2 14) 0 0 4)) 15 (va_cpy (s.2 8) (s.2 15) 0 0 4)) 23 (s.1 10)) 24 (s.1 11))
def f_Keeper_flip (x1 : Int32) (s : xS) : Option xS := (f_Keeper_keepVolatile  s).bind fun q1 => (f_Held_copyFrom  q1).bind fun q3 => if xbl x1 = true then some (xsc (xsc (xsc (xsc (xsc q3 19 ((q3.1 19) + (q3.1 9))) 20 (0 : Int32)) 21 x1) 22 (0 : Int32)) 18 ((q3.1 18) + (1 : Int32))) else none
def f_Keeper_writeHeldWords_2 : Nat → Int32 → xS → Option (Int32 × xS)
  | 0, _, _ => none
  | n + 1, x1, s => if (s.1 23) ≤ x1 then (some ((1 : Int32), s)) else ((f_Power_allows (0 : Int32) s).bind fun q2 => if q2.1 = 0 then (some ((0 : Int32), q2.2)) else (if xin x1 4 = true then if xin x1 4 = true then if xin ((q2.2.2 13) (x1).toNatClampNeg) 128 = true then f_Keeper_writeHeldWords_2 n (x1 + (1 : Int32)) (xsa q2.2 1 ((q2.2.2 13) (x1).toNatClampNeg).toNatClampNeg ((q2.2.2 14) (x1).toNatClampNeg)) else none else none else none))
def f_Keeper_writeHeldWords (s : xS) : Option (Int32 × xS) := f_Keeper_writeHeldWords_2 1000 (0 : Int32) s
def f_Lasting_placeRecord_20 (s : xS) : Option xS := some s
def f_Lasting_placeRecord (x1 : Int32) (s : xS) : Option xS := if (200 : Int32) ≤ (s.1 4) then (f_Lasting_placeRecord_20  s) else (if xin (s.1 4) 200 = true then f_Lasting_placeRecord_20  (xsa s 3 (s.1 4).toNatClampNeg x1) else none)
def f_Lasting_countRecord_20 (s : xS) : Option xS := some s
def f_Lasting_countRecord (s : xS) : Option xS := if (200 : Int32) ≤ (s.1 4) then (f_Lasting_countRecord_20  s) else (f_Lasting_countRecord_20  (xsc s 4 ((s.1 4) + (1 : Int32))))
def f_Keeper_sendHeldRecords_8 : Nat → Int32 → xS → Option (Int32 × xS)
  | 0, _, _ => none
  | n + 1, x1, s => if (s.1 24) ≤ x1 then (some ((1 : Int32), s)) else ((f_Power_allows (0 : Int32) s).bind fun q2 => if q2.1 = 0 then (some ((0 : Int32), q2.2)) else (if xin x1 4 = true then (f_Lasting_placeRecord ((q2.2.2 15) (x1).toNatClampNeg) q2.2).bind fun q6 => (f_Power_allows (0 : Int32) q6).bind fun q8 => if q8.1 = 0 then (some ((0 : Int32), q8.2)) else ((f_Lasting_countRecord  q8.2).bind fun q11 => f_Keeper_sendHeldRecords_8 n (x1 + (1 : Int32)) (xsc q11 20 ((q11.1 20) + (1 : Int32)))) else none))
def f_Keeper_sendHeldRecords (s : xS) : Option (Int32 × xS) := f_Keeper_sendHeldRecords_8 1000 (s.1 20) s
def f_Keeper_close (s : xS) : Option (Int32 × xS) := (f_Power_allows (0 : Int32) s).bind fun q1 => if q1.1 = 0 then (some ((0 : Int32), q1.2)) else ((f_Power_allows (0 : Int32) (xsc q1.2 3 (0 : Int32))).bind fun q4 => if q4.1 = 0 then (some ((0 : Int32), q4.2)) else (some ((1 : Int32), (xsc q4.2 22 (1 : Int32)))))
def f_Keeper_finish_26 (y0 : Int32) (s : xS) : Option (Int32 × xS) := if xbl y0 = true then some (y0, s) else none
def f_Keeper_finish_25 (s : xS) : Option (Int32 × xS) := f_Keeper_finish_26 (0 : Int32) s
def f_Keeper_finish (s : xS) : Option (Int32 × xS) := (f_Keeper_writeHeldWords  s).bind fun q2 => if q2.1 = 0 then (f_Keeper_finish_25  q2.2) else ((f_Keeper_sendHeldRecords  q2.2).bind fun q5 => if q5.1 = 0 then (f_Keeper_finish_25  q5.2) else ((f_Keeper_close  q5.2).bind fun q8 => if q8.1 = 0 then (f_Keeper_finish_25  q8.2) else (f_Keeper_finish_26 (1 : Int32) q8.2)))
def f_Keeper_checkpoint_29 : Nat → Int32 → Int32 → Int32 → xS → Option (Int32 × xS)
  | 0, _, _, _, _ => none
  | n + 1, x1, x2, x3, s => if x2 ≤ x3 then ((f_Power_allows (0 : Int32) s).bind fun q2 => if q2.1 = 0 then (some ((0 : Int32), q2.2)) else ((f_Keeper_flip x1 q2.2).bind fun q5 => (f_Keeper_finish  q5).bind fun q7 => if q7.1 = 0 then (some ((0 : Int32), q7.2)) else ((f_Section_begin  q7.2).bind fun q10 => some ((1 : Int32), q10)))) else ((f_Power_allows (0 : Int32) s).bind fun q12 => if q12.1 = 0 then (some ((0 : Int32), q12.2)) else (f_Keeper_checkpoint_29 n x1 x2 (x3 + (1 : Int32)) q12.2))
def f_Keeper_checkpoint (x1 : Int32) (s : xS) : Option (Int32 × xS) := f_Keeper_checkpoint_29 1000 x1 (((36 : Int32) + ((2 : Int32) * (s.1 10))) + (s.1 11)) (0 : Int32) s
def f_C_endStep_65 (s : xS) : Option (Int32 × xS) := if xbl (s.1 1) = true then some ((s.1 1), s) else none
def f_C_endStep_51 (s : xS) : Option (Int32 × xS) := if (s.1 1) = 0 then ((f_C_forget  s).bind fun q3 => f_C_endStep_65  q3) else (f_C_endStep_65  s)
def f_C_endStep (s : xS) : Option (Int32 × xS) := (f_Bus_takeHalt  s).bind fun q5 => if (q5.2.1 1) = 0 then (f_C_endStep_51  q5.2) else (if q5.1 = 0 then (f_C_endStep_51  (xsc q5.2 9 ((q5.2.1 9) + (1 : Int32)))) else ((f_Keeper_checkpoint (1 : Int32) (xsc q5.2 9 ((q5.2.1 9) + (1 : Int32)))).bind fun q9 => if q9.1 = 0 then (f_C_endStep_51  q9.2) else (f_C_endStep_51  (xsc q9.2 0 (3 : Int32)))))
def f_Section_isFull_44 (y0 : Int32) (s : xS) : Option (Int32 × xS) := if xbl y0 = true then some (y0, s) else none
def f_Section_isFull_39 (s : xS) : Option (Int32 × xS) := f_Section_isFull_44 (1 : Int32) s
def f_Section_isFull (s : xS) : Option (Int32 × xS) := if (11 : Int32) < (s.1 7) then (f_Section_isFull_39  s) else (if (4 : Int32) ≤ (s.1 10) then (f_Section_isFull_39  s) else (if (4 : Int32) ≤ (s.1 11) then (f_Section_isFull_39  s) else (if (s.1 8) < (3 : Int32) then (f_Section_isFull_44 (0 : Int32) s) else (f_Section_isFull_39  s))))
def f_C_beginStep_39 (y0 : Int32) (s : xS) : Option (Int32 × xS) := if xbl y0 = true then some (y0, s) else none
def f_C_beginStep_34 (s : xS) : Option (Int32 × xS) := f_C_beginStep_39 (1 : Int32) s
def f_C_beginStep (s : xS) : Option (Int32 × xS) := (f_Power_allows (1 : Int32) s).bind fun q2 => if q2.1 = 0 then (some ((0 : Int32), q2.2)) else ((f_Section_isFull  q2.2).bind fun q5 => if q5.1 = 0 then (f_C_beginStep_34  q5.2) else ((f_Keeper_checkpoint (0 : Int32) q5.2).bind fun q8 => if q8.1 = 0 then (f_C_beginStep_39 (0 : Int32) q8.2) else (f_C_beginStep_34  q8.2)))
def f_Bus_inFram_19 (y0 : Int32)  : Option Int32 := if xbl y0 = true then some y0 else none
def f_Bus_inFram_18  : Option Int32 := f_Bus_inFram_19 (0 : Int32) 
def f_Bus_inFram (x0 : Int32)  : Option Int32 := if x0 < (1024 : Int32) then (f_Bus_inFram_18  ) else (if (1280 : Int32) ≤ x0 then (f_Bus_inFram_18  ) else (f_Bus_inFram_19 (1 : Int32) ))
def f_Bus_framWord (x0 : Int32)  : Option Int32 := some ((x0 - (1024 : Int32)) >>> ((1 : Int32) &&& 31))
def f_Section_noteLoad_26 (s : xS) : Option xS := some s
def f_Section_noteLoad (x1 : Int32) (s : xS) : Option xS := if xin x1 128 = true then if ((s.2 5) (x1).toNatClampNeg) = 0 then (if xin x1 128 = true then f_Section_noteLoad_26  (xsc (xsa s 5 (x1).toNatClampNeg (1 : Int32)) 7 ((s.1 7) + (1 : Int32))) else none) else (f_Section_noteLoad_26  s) else none
def f_Held_valueOf_2 : Nat → Int32 → Int32 → Int32 → xS → Option (Int32 × xS)
  | 0, _, _, _, _ => none
  | n + 1, x1, x2, x3, s => if (s.1 10) ≤ x3 then (some (x2, s)) else (if xin x3 4 = true then if ((s.2 6) (x3).toNatClampNeg) = x1 then (if xin x3 4 = true then some (((s.2 7) (x3).toNatClampNeg), s) else none) else (f_Held_valueOf_2 n x1 x2 (x3 + (1 : Int32)) s) else none)
def f_Held_valueOf (x1 x2 : Int32) (s : xS) : Option (Int32 × xS) := f_Held_valueOf_2 1000 x1 x2 (0 : Int32) s
def f_Bus_inSram_19 (y0 : Int32)  : Option Int32 := if xbl y0 = true then some y0 else none
def f_Bus_inSram_18  : Option Int32 := f_Bus_inSram_19 (0 : Int32) 
def f_Bus_inSram (x0 : Int32)  : Option Int32 := if x0 < (512 : Int32) then (f_Bus_inSram_18  ) else (if (544 : Int32) ≤ x0 then (f_Bus_inSram_18  ) else (f_Bus_inSram_19 (1 : Int32) ))
def f_Bus_sramWord (x0 : Int32)  : Option Int32 := some ((x0 - (512 : Int32)) >>> ((1 : Int32) &&& 31))
def f_Bus_fetchWord_27 (y0 : Int32) (s : xS) : Option (Int32 × xS) := some (y0, s)
def f_Bus_fetchWord (x1 : Int32) (s : xS) : Option (Int32 × xS) := (f_Bus_inFram x1 ).bind fun q1 => if q1 = 0 then ((f_Bus_inSram x1 ).bind fun q11 => if q11 = 0 then (f_Bus_fetchWord_27 (0 : Int32) s) else ((f_Bus_sramWord x1 ).bind fun q14 => if xin q14 16 = true then f_Bus_fetchWord_27 ((s.2 9) (q14).toNatClampNeg) s else none)) else ((f_Bus_framWord x1 ).bind fun q4 => (f_Section_noteLoad q4 s).bind fun q6 => if xin q4 128 = true then (f_Held_valueOf q4 ((q6.2 1) (q4).toNatClampNeg) q6).bind fun q9 => some (q9.1, q9.2) else none)
def f_Processor_setRegister_56 (s : xS) : Option xS := some s
def f_Processor_setRegister_9 (x1 x2 : Int32) (s : xS) : Option xS := if xin x1 16 = true then f_Processor_setRegister_56  (xsa s 10 (x1).toNatClampNeg (x2 &&& (65534 : Int32))) else none
def f_Processor_setRegister (x1 x2 : Int32) (s : xS) : Option xS := if x1 = 0 then (f_Processor_setRegister_9 x1 x2 s) else (if x1 = (1 : Int32) then (f_Processor_setRegister_9 x1 x2 s) else (if x1 = (2 : Int32) then (if xin x1 16 = true then f_Processor_setRegister_56  (xsa s 10 (x1).toNatClampNeg (x2 &&& (263 : Int32))) else none) else (if x1 = (3 : Int32) then (f_Processor_setRegister_56  s) else (if xin x1 16 = true then f_Processor_setRegister_56  (xsa s 10 (x1).toNatClampNeg (x2 &&& (65535 : Int32))) else none))))
def f_Processor_nextWord (s : xS) : Option (Int32 × xS) := (f_Bus_fetchWord ((s.2 10) 0) s).bind fun q1 => (f_Processor_setRegister (0 : Int32) (((q1.2.2 10) 0) + (2 : Int32)) q1.2).bind fun q3 => some (q1.1, q3)
def f_Processor_find (x1 x2 : Int32) (s : xS) : Option xS := some (xsc (xsc s 14 x1) 15 x2)
def f_Processor_base_15 (y0 : Int32) (s : xS) : Option (Int32 × xS) := some (y0, s)
def f_Processor_base (x1 : Int32) (s : xS) : Option (Int32 × xS) := if x1 = (2 : Int32) then (f_Processor_base_15 (0 : Int32) s) else (if xin x1 16 = true then f_Processor_base_15 ((s.2 10) (x1).toNatClampNeg) s else none)
def f_Processor_findSource_158 (s : xS) : Option xS := some s
def f_Processor_findSource_154 (y1 y2 y3 : Int32) (s : xS) : Option xS := (f_Processor_setRegister y1 (y2 + y3) s).bind fun q1 => f_Processor_findSource_158  q1
def f_Processor_findSource_153 (y1 y2 : Int32) (s : xS) : Option xS := f_Processor_findSource_154 y1 y2 (2 : Int32) s
def f_Processor_findSource_113 (x1 x2 : Int32) (s : xS) : Option xS := if xin x1 16 = true then (f_Processor_find (2 : Int32) ((s.2 10) (x1).toNatClampNeg) s).bind fun q4 => if x2 = (3 : Int32) then (if xin x1 16 = true then if (q4.1 13) = 0 then (f_Processor_findSource_153 x1 ((q4.2 10) (x1).toNatClampNeg) q4) else (if x1 = (1 : Int32) then (f_Processor_findSource_153 x1 ((q4.2 10) (x1).toNatClampNeg) q4) else (f_Processor_findSource_154 x1 ((q4.2 10) (x1).toNatClampNeg) (1 : Int32) q4)) else none) else (f_Processor_findSource_158  q4) else none
def f_Processor_findSource_53 (x1 x2 : Int32) (s : xS) : Option xS := if x2 = 0 then ((f_Processor_find (1 : Int32) x1 s).bind fun q24 => f_Processor_findSource_158  q24) else (if x2 = (1 : Int32) then ((f_Processor_base x1 s).bind fun q18 => (f_Processor_nextWord  q18.2).bind fun q20 => (f_Processor_find (2 : Int32) ((q18.1 + q20.1) &&& (65535 : Int32)) q20.2).bind fun q22 => f_Processor_findSource_158  q22) else (if x1 = 0 then (if x2 = (3 : Int32) then ((f_Processor_nextWord  s).bind fun q14 => (f_Processor_find (0 : Int32) q14.1 q14.2).bind fun q16 => f_Processor_findSource_158  q16) else (f_Processor_findSource_113 x1 x2 s)) else (f_Processor_findSource_113 x1 x2 s)))
def f_Processor_findSource_47 (y1 y2 : Int32) (s : xS) : Option xS := (f_Processor_find y1 y2 s).bind fun q26 => f_Processor_findSource_158  q26
def f_Processor_findSource_18 (y1 y2 : Int32) (s : xS) : Option xS := (f_Processor_find y1 y2 s).bind fun q28 => f_Processor_findSource_158  q28
def f_Processor_findSource (x1 x2 : Int32) (s : xS) : Option xS := if x1 = (3 : Int32) then (if x2 = (3 : Int32) then (f_Processor_findSource_18 (0 : Int32) (65535 : Int32) s) else (f_Processor_findSource_18 (0 : Int32) x2 s)) else (if x1 = (2 : Int32) then (if x2 < (2 : Int32) then (f_Processor_findSource_53 x1 x2 s) else (if x2 = (2 : Int32) then (f_Processor_findSource_47 (0 : Int32) (4 : Int32) s) else (f_Processor_findSource_47 (0 : Int32) (8 : Int32) s))) else (f_Processor_findSource_53 x1 x2 s))
def f_Processor_mask_15 (y0 : Int32) (s : xS) : Option (Int32 × xS) := some (y0, s)
def f_Processor_mask (s : xS) : Option (Int32 × xS) := if (s.1 13) = 0 then (f_Processor_mask_15 (65535 : Int32) s) else (f_Processor_mask_15 (255 : Int32) s)
def f_Lasting_lengthenLog_18 (s : xS) : Option xS := some s
def f_Lasting_lengthenLog (s : xS) : Option xS := if (4 : Int32) ≤ (s.1 3) then (f_Lasting_lengthenLog_18  s) else (f_Lasting_lengthenLog_18  (xsc s 3 ((s.1 3) + (1 : Int32))))
def f_Samples_take (s : xS) : Option (Int32 × xS) := if (s.1 6) = 0 then (some ((65535 : Int32), s)) else (if xin (s.1 5) 16 = true then some (((s.2 4) (s.1 5).toNatClampNeg), (xsc (xsc s 5 (xrem ((s.1 5) + (1 : Int32)) (16 : Int32))) 6 ((s.1 6) - (1 : Int32)))) else none)
def f_Lasting_placeLogged_18 (s : xS) : Option xS := some s
def f_Lasting_placeLogged (x1 : Int32) (s : xS) : Option xS := if (4 : Int32) ≤ (s.1 3) then (f_Lasting_placeLogged_18  s) else (if xin (s.1 3) 4 = true then f_Lasting_placeLogged_18  (xsa s 2 (s.1 3).toNatClampNeg x1) else none)
def f_Bus_loadSensor_111 (x2 : Int32) (s : xS) : Option (Int32 × xS) := some (x2, s)
def f_Bus_loadSensor_93 (x2 : Int32) (s : xS) : Option (Int32 × xS) := (f_Power_allows (0 : Int32) s).bind fun q1 => if q1.1 = 0 then (f_Bus_loadSensor_111 x2 q1.2) else ((f_Lasting_lengthenLog  q1.2).bind fun q4 => f_Bus_loadSensor_111 x2 q4)
def f_Bus_loadSensor_54 (s : xS) : Option (Int32 × xS) := if (s.1 1) = 0 then (some ((0 : Int32), s)) else ((f_Samples_take  s).bind fun q7 => (f_Power_allows (0 : Int32) q7.2).bind fun q9 => if q9.1 = 0 then (f_Bus_loadSensor_93 (q7.1) q9.2) else ((f_Lasting_placeLogged q7.1 q9.2).bind fun q12 => f_Bus_loadSensor_93 (q7.1) q12))
def f_Bus_loadSensor (s : xS) : Option (Int32 × xS) := if (s.1 3) ≤ (s.1 8) then (f_Bus_loadSensor_54  (xsc s 8 ((s.1 8) + (1 : Int32)))) else (if (4 : Int32) ≤ (s.1 8) then (f_Bus_loadSensor_54  (xsc s 8 ((s.1 8) + (1 : Int32)))) else (if xin (s.1 8) 4 = true then some (((s.2 2) (s.1 8).toNatClampNeg), (xsc s 8 ((s.1 8) + (1 : Int32)))) else none))
def f_Bus_read_47 (y0 : Int32) (s : xS) : Option (Int32 × xS) := some (y0, s)
def f_Bus_read_21 (x1 x2 y0 : Int32) (s : xS) : Option (Int32 × xS) := if x2 = 0 then (some (y0, s)) else (if (x1 &&& (1 : Int32)) = (1 : Int32) then (f_Bus_read_47 (y0 >>> ((8 : Int32) &&& 31)) s) else (f_Bus_read_47 (y0 &&& (255 : Int32)) s))
def f_Bus_read (x1 x2 : Int32) (s : xS) : Option (Int32 × xS) := if (x1 &&& (65534 : Int32)) = (16 : Int32) then ((f_Bus_loadSensor  s).bind fun q6 => f_Bus_read_21 x1 x2 (q6.1) q6.2) else ((f_Bus_fetchWord x1 s).bind fun q4 => f_Bus_read_21 x1 x2 (q4.1) q4.2)
def f_Processor_operand_48 (y0 : Int32) (s : xS) : Option (Int32 × xS) := (f_Processor_mask  s).bind fun q1 => some ((y0 &&& q1.1), q1.2)
def f_Processor_operand (s : xS) : Option (Int32 × xS) := if (s.1 14) = (2 : Int32) then ((f_Bus_read (s.1 15) (s.1 13) s).bind fun q6 => some (q6.1, q6.2)) else (if (s.1 14) = (1 : Int32) then (if xin (s.1 15) 16 = true then f_Processor_operand_48 ((s.2 10) (s.1 15).toNatClampNeg) s else none) else (f_Processor_operand_48 (s.1 15) s))
def f_Processor_highest_15 (y0 : Int32) (s : xS) : Option (Int32 × xS) := some (y0, s)
def f_Processor_highest (s : xS) : Option (Int32 × xS) := if (s.1 13) = 0 then (f_Processor_highest_15 (32768 : Int32) s) else (f_Processor_highest_15 (128 : Int32) s)
def f_Processor_askFlags_46 (x1 y1 y2 : Int32) (s : xS) : Option (Int32 × xS) := some (x1, (xsc (xsc s 16 (y1 ||| y2)) 17 (1 : Int32)))
def f_Processor_askFlags_34 (x1 x3 y1 y2 : Int32) (s : xS) : Option (Int32 × xS) := if x3 = 0 then (f_Processor_askFlags_46 x1 (y1 ||| y2) (0 : Int32) s) else (f_Processor_askFlags_46 x1 (y1 ||| y2) (256 : Int32) s)
def f_Processor_askFlags_19 (x1 x3 y1 y2 : Int32) (s : xS) : Option (Int32 × xS) := (f_Processor_highest  s).bind fun q2 => if (x1 &&& q2.1) = 0 then (f_Processor_askFlags_34 x1 x3 (y1 ||| y2) (0 : Int32) q2.2) else (f_Processor_askFlags_34 x1 x3 (y1 ||| y2) (4 : Int32) q2.2)
def f_Processor_askFlags_10 (x1 x3 y1 : Int32) (s : xS) : Option (Int32 × xS) := if x1 = 0 then (f_Processor_askFlags_19 x1 x3 y1 (2 : Int32) s) else (f_Processor_askFlags_19 x1 x3 y1 (0 : Int32) s)
def f_Processor_askFlags (x1 x2 x3 : Int32) (s : xS) : Option (Int32 × xS) := if x2 = 0 then (f_Processor_askFlags_10 x1 x3 (0 : Int32) s) else (f_Processor_askFlags_10 x1 x3 (1 : Int32) s)
def f_Processor_logical_11 (x2 y1 y2 : Int32) (s : xS) : Option (Int32 × xS) := (f_Processor_askFlags y1 y2 x2 s).bind fun q1 => some (q1.1, q1.2)
def f_Processor_logical (x1 x2 : Int32) (s : xS) : Option (Int32 × xS) := if x1 = 0 then (f_Processor_logical_11 x2 x1 (0 : Int32) s) else (f_Processor_logical_11 x2 x1 (1 : Int32) s)
def f_Processor_carry (s : xS) : Option (Int32 × xS) := some ((((s.2 10) 2) &&& (1 : Int32)), s)
def f_Processor_changed_96 (y1 y2 : Int32) (s : xS) : Option (Int32 × xS) := (f_Processor_askFlags y1 y2 (0 : Int32) s).bind fun q1 => some (q1.1, q1.2)
def f_Processor_changed_54 (y1 y2 : Int32) (s : xS) : Option (Int32 × xS) := (f_Processor_askFlags y1 y2 (0 : Int32) s).bind fun q3 => some (q3.1, q3.2)
def f_Processor_changed (x1 x2 : Int32) (s : xS) : Option (Int32 × xS) := if x1 < (0 : Int32) ∨ (2 : Int32) < x1 then ((f_Processor_logical ((x2).toInt8.toInt32 &&& (65535 : Int32)) (0 : Int32) s).bind fun q6 => some (q6.1, q6.2)) else if x1 = (0 : Int32) then ((f_Processor_carry  s).bind fun q9 => (f_Processor_highest  q9.2).bind fun q11 => if (x2 &&& (1 : Int32)) = (1 : Int32) then (f_Processor_changed_54 ((x2 >>> ((1 : Int32) &&& 31)) ||| (q9.1 * q11.1)) (1 : Int32) q11.2) else (f_Processor_changed_54 ((x2 >>> ((1 : Int32) &&& 31)) ||| (q9.1 * q11.1)) (0 : Int32) q11.2)) else if x1 = (1 : Int32) then (some (((x2 >>> ((8 : Int32) &&& 31)) ||| ((x2 &&& (255 : Int32)) <<< ((8 : Int32) &&& 31))), s)) else if x1 = (2 : Int32) then ((f_Processor_highest  s).bind fun q16 => if (x2 &&& (1 : Int32)) = (1 : Int32) then (f_Processor_changed_96 ((x2 >>> ((1 : Int32) &&& 31)) ||| (x2 &&& q16.1)) (1 : Int32) q16.2) else (f_Processor_changed_96 ((x2 >>> ((1 : Int32) &&& 31)) ||| (x2 &&& q16.1)) (0 : Int32) q16.2)) else none
def f_Processor_setFlags_17 (s : xS) : Option xS := some s
def f_Processor_setFlags (s : xS) : Option xS := if (s.1 17) = 0 then (f_Processor_setFlags_17  s) else (f_Processor_setFlags_17  (xsa s 10 2 (s.1 16)))
def f_Section_noteStore_41 (y0 : Int32) (s : xS) : Option (Int32 × xS) := if xbl y0 = true then some (y0, s) else none
def f_Section_noteStore_26 (x1 : Int32) (s : xS) : Option (Int32 × xS) := if xin x1 128 = true then if ((s.2 5) (x1).toNatClampNeg) = (1 : Int32) then (f_Section_noteStore_41 (1 : Int32) s) else (f_Section_noteStore_41 (0 : Int32) s) else none
def f_Section_noteStore (x1 : Int32) (s : xS) : Option (Int32 × xS) := if xin x1 128 = true then if ((s.2 5) (x1).toNatClampNeg) = 0 then (if xin x1 128 = true then f_Section_noteStore_26 x1 (xsc (xsa s 5 (x1).toNatClampNeg (2 : Int32)) 7 ((s.1 7) + (1 : Int32))) else none) else (f_Section_noteStore_26 x1 s) else none
def f_Held_holdWord_59 (s : xS) : Option xS := some s
def f_Held_holdWord_26 (x1 x2 x3 : Int32) (s : xS) : Option xS := if (4 : Int32) ≤ x3 then (f_Held_holdWord_59  s) else (if xin x3 4 = true then if xin x3 4 = true then f_Held_holdWord_59  (xsc (xsa (xsa s 6 (x3).toNatClampNeg x1) 7 (x3).toNatClampNeg x2) 10 (if (s.1 10) < (x3 + (1 : Int32)) then (x3 + (1 : Int32)) else (s.1 10))) else none else none)
def f_Held_holdWord_2 : Nat → Int32 → Int32 → Int32 → xS → Option xS
  | 0, _, _, _, _ => none
  | n + 1, x1, x2, x3, s => if (s.1 10) ≤ x3 then (f_Held_holdWord_26 x1 x2 x3 s) else (if xin x3 4 = true then if ((s.2 6) (x3).toNatClampNeg) = x1 then (f_Held_holdWord_26 x1 x2 x3 s) else (f_Held_holdWord_2 n x1 x2 (x3 + (1 : Int32)) s) else none)
def f_Held_holdWord (x1 x2 : Int32) (s : xS) : Option xS := f_Held_holdWord_2 1000 x1 x2 (0 : Int32) s
def f_Bus_storeFram_47 (s : xS) : Option xS := some s
def f_Bus_storeFram (x1 x2 : Int32) (s : xS) : Option xS := (f_Section_noteStore x1 s).bind fun q1 => if q1.1 = 0 then ((f_Power_allows (0 : Int32) q1.2).bind fun q4 => if q4.1 = 0 then (f_Bus_storeFram_47  q4.2) else (if xin x1 128 = true then f_Bus_storeFram_47  (xsa q4.2 1 (x1).toNatClampNeg x2) else none)) else ((f_Held_holdWord x1 x2 q1.2).bind fun q8 => f_Bus_storeFram_47  q8)
def f_Lasting_hasRoomFor_17 (y0 : Int32) (s : xS) : Option (Int32 × xS) := if xbl y0 = true then some (y0, s) else none
def f_Lasting_hasRoomFor (x1 : Int32) (s : xS) : Option (Int32 × xS) := if (200 : Int32) ≤ ((s.1 4) + x1) then (f_Lasting_hasRoomFor_17 (0 : Int32) s) else (f_Lasting_hasRoomFor_17 (1 : Int32) s)
def f_Held_holdRecord_28 (s : xS) : Option xS := some s
def f_Held_holdRecord (x1 : Int32) (s : xS) : Option xS := if (4 : Int32) ≤ (s.1 11) then (f_Held_holdRecord_28  s) else (if xin (s.1 11) 4 = true then f_Held_holdRecord_28  (xsc (xsa s 8 (s.1 11).toNatClampNeg x1) 11 ((s.1 11) + (1 : Int32))) else none)
def f_Bus_storeDevice_51 (s : xS) : Option xS := some s
def f_Bus_storeDevice_40 (x1 : Int32) (s : xS) : Option xS := if x1 = (20 : Int32) then (f_Bus_storeDevice_51  (xsc s 12 (1 : Int32))) else (f_Bus_storeDevice_51  s)
def f_Bus_storeDevice (x1 x2 : Int32) (s : xS) : Option xS := if x1 = (18 : Int32) then ((f_Lasting_hasRoomFor (s.1 11) s).bind fun q3 => if q3.1 = 0 then (f_Bus_storeDevice_40 x1 q3.2) else ((f_Held_holdRecord x2 q3.2).bind fun q6 => f_Bus_storeDevice_51  q6)) else (f_Bus_storeDevice_40 x1 s)
def f_Bus_peek_27 (y0 : Int32) (s : xS) : Option (Int32 × xS) := some (y0, s)
def f_Bus_peek (x1 : Int32) (s : xS) : Option (Int32 × xS) := (f_Bus_inFram x1 ).bind fun q1 => if q1 = 0 then ((f_Bus_inSram x1 ).bind fun q9 => if q9 = 0 then (f_Bus_peek_27 (0 : Int32) s) else ((f_Bus_sramWord x1 ).bind fun q12 => if xin q12 16 = true then f_Bus_peek_27 ((s.2 9) (q12).toNatClampNeg) s else none)) else ((f_Bus_framWord x1 ).bind fun q4 => if xin q4 128 = true then (f_Held_valueOf q4 ((s.2 1) (q4).toNatClampNeg) s).bind fun q7 => some (q7.1, q7.2) else none)
def f_Bus_withByte_26 (y0 : Int32)  : Option Int32 := some y0
def f_Bus_withByte (x0 x1 x2 : Int32)  : Option Int32 := if (x1 &&& (1 : Int32)) = (1 : Int32) then (f_Bus_withByte_26 ((x0 &&& (255 : Int32)) ||| (x2 <<< ((8 : Int32) &&& 31))) ) else (f_Bus_withByte_26 ((x0 &&& (65280 : Int32)) ||| x2) )
def f_Bus_write_85 (s : xS) : Option xS := some s
def f_Bus_write_63 (x1 x4 : Int32) (s : xS) : Option xS := (f_Bus_framWord x1 ).bind fun q1 => (f_Bus_storeFram q1 x4 s).bind fun q3 => f_Bus_write_85  q3
def f_Bus_write_18 (x1 x2 x3 y0 : Int32) (s : xS) : Option xS := (f_Bus_inSram x1 ).bind fun q5 => if q5 = 0 then ((f_Bus_inFram x1 ).bind fun q8 => if q8 = 0 then ((f_Bus_storeDevice (x1 &&& (65534 : Int32)) x2 s).bind fun q11 => f_Bus_write_85  q11) else (if x3 = 0 then (f_Bus_write_63 x1 y0 s) else ((f_Bus_framWord x1 ).bind fun q14 => (f_Section_noteLoad q14 s).bind fun q16 => f_Bus_write_63 x1 y0 q16))) else ((f_Bus_sramWord x1 ).bind fun q18 => if xin q18 16 = true then f_Bus_write_85  (xsa s 9 (q18).toNatClampNeg y0) else none)
def f_Bus_write (x1 x2 x3 : Int32) (s : xS) : Option xS := if x3 = 0 then (f_Bus_write_18 x1 x2 x3 x2 s) else ((f_Bus_peek x1 s).bind fun q22 => (f_Bus_withByte q22.1 x1 x2 ).bind fun q24 => f_Bus_write_18 x1 x2 x3 q24 q22.2)
def f_Processor_deliver_64 (s : xS) : Option xS := some s
def f_Processor_deliver_60 (s : xS) : Option xS := (f_Processor_setFlags  s).bind fun q1 => f_Processor_deliver_64  q1
def f_Processor_deliver_44 (s : xS) : Option xS := if (s.1 14) = (1 : Int32) then (if (s.1 15) = (2 : Int32) then (f_Processor_deliver_64  s) else (f_Processor_deliver_60  s)) else (f_Processor_deliver_60  s)
def f_Processor_deliver (x1 : Int32) (s : xS) : Option xS := if (s.1 14) = (2 : Int32) then ((f_Bus_write (s.1 15) x1 (s.1 13) s).bind fun q9 => f_Processor_deliver_44  q9) else (if (s.1 14) = (1 : Int32) then ((f_Processor_setRegister (s.1 15) x1 s).bind fun q7 => f_Processor_deliver_44  q7) else (f_Processor_deliver_44  s))
def f_Processor_push (x1 : Int32) (s : xS) : Option xS := (f_Processor_setRegister (1 : Int32) (((s.2 10) 1) - (2 : Int32)) s).bind fun q1 => (f_Bus_write ((q1.2 10) 1) x1 (q1.1 13) q1).bind fun q3 => some q3
def f_Processor_pop (s : xS) : Option (Int32 × xS) := (f_Bus_read ((s.2 10) 1) (0 : Int32) s).bind fun q1 => (f_Processor_setRegister (1 : Int32) (((q1.2.2 10) 1) + (2 : Int32)) q1.2).bind fun q3 => some (q1.1, q3)
def f_Processor_oneOperand_137 (s : xS) : Option xS := some s
def f_Processor_oneOperand_69 (x1 x2 y1 : Int32) (s : xS) : Option xS := if xbl y1 = true then (f_Processor_findSource (x1 &&& (15 : Int32)) ((x1 >>> ((4 : Int32) &&& 31)) &&& (3 : Int32)) (xsc s 13 y1)).bind fun q2 => (f_Processor_operand  q2).bind fun q4 => if x2 = (4 : Int32) then ((f_Processor_push q4.1 q4.2).bind fun q16 => f_Processor_oneOperand_137  q16) else (if x2 = (5 : Int32) then ((f_Processor_push ((q4.2.2 10) 0) q4.2).bind fun q12 => (f_Processor_setRegister (0 : Int32) q4.1 q12).bind fun q14 => f_Processor_oneOperand_137  q14) else ((f_Processor_changed x2 q4.1 q4.2).bind fun q8 => (f_Processor_deliver q8.1 q8.2).bind fun q10 => f_Processor_oneOperand_137  q10)) else none
def f_Processor_oneOperand_68 (x1 x2 : Int32) (s : xS) : Option xS := f_Processor_oneOperand_69 x1 x2 (0 : Int32) s
def f_Processor_oneOperand_64 (x1 x2 : Int32) (s : xS) : Option xS := f_Processor_oneOperand_69 x1 x2 (1 : Int32) s
def f_Processor_oneOperand_32 (x1 x2 : Int32) (s : xS) : Option xS := if x2 < (6 : Int32) then (if ((x1 >>> ((6 : Int32) &&& 31)) &&& (1 : Int32)) = (1 : Int32) then (if x2 = 0 then (f_Processor_oneOperand_64 x1 x2 s) else (if x2 = (2 : Int32) then (f_Processor_oneOperand_64 x1 x2 s) else (if x2 = (4 : Int32) then (f_Processor_oneOperand_64 x1 x2 s) else (f_Processor_oneOperand_68 x1 x2 s)))) else (f_Processor_oneOperand_68 x1 x2 s)) else (some s)
def f_Processor_oneOperand (x1 : Int32) (s : xS) : Option xS := if ((x1 >>> ((7 : Int32) &&& 31)) &&& (7 : Int32)) = (6 : Int32) then ((f_Processor_pop  s).bind fun q24 => (f_Processor_setRegister (2 : Int32) q24.1 q24.2).bind fun q26 => (f_Processor_pop  q26).bind fun q28 => (f_Processor_setRegister (0 : Int32) q28.1 q28.2).bind fun q30 => f_Processor_oneOperand_32 x1 ((x1 >>> ((7 : Int32) &&& 31)) &&& (7 : Int32)) q30) else (f_Processor_oneOperand_32 x1 ((x1 >>> ((7 : Int32) &&& 31)) &&& (7 : Int32)) s)
def f_Processor_isSet_16 (y0 : Int32) (s : xS) : Option (Int32 × xS) := if xbl y0 = true then some (y0, s) else none
def f_Processor_isSet (x1 : Int32) (s : xS) : Option (Int32 × xS) := if (((s.2 10) 2) &&& x1) = 0 then (f_Processor_isSet_16 (0 : Int32) s) else (f_Processor_isSet_16 (1 : Int32) s)
def f_Processor_holds_123 (y0 : Int32) (s : xS) : Option (Int32 × xS) := if xbl y0 = true then some (y0, s) else none
def f_Processor_holds_106 (y0 : Int32) (s : xS) : Option (Int32 × xS) := if xbl y0 = true then some (y0, s) else none
def f_Processor_holds_81 (y0 : Int32) (s : xS) : Option (Int32 × xS) := if xbl y0 = true then some (y0, s) else none
def f_Processor_holds_61 (y0 : Int32) (s : xS) : Option (Int32 × xS) := if xbl y0 = true then some (y0, s) else none
def f_Processor_holds (x1 : Int32) (s : xS) : Option (Int32 × xS) := (f_Processor_isSet (4 : Int32) s).bind fun q5 => if x1 < (0 : Int32) ∨ (6 : Int32) < x1 then (some ((1 : Int32), q5.2)) else if x1 = (0 : Int32) then ((f_Processor_isSet (2 : Int32) q5.2).bind fun q9 => if q9.1 = 0 then (f_Processor_holds_61 (1 : Int32) q9.2) else (f_Processor_holds_61 (0 : Int32) q9.2)) else if x1 = (1 : Int32) then ((f_Processor_isSet (2 : Int32) q5.2).bind fun q13 => if xbl q13.1 = true then some (q13.1, q13.2) else none) else if x1 = (2 : Int32) then ((f_Processor_isSet (1 : Int32) q5.2).bind fun q17 => if q17.1 = 0 then (f_Processor_holds_81 (1 : Int32) q17.2) else (f_Processor_holds_81 (0 : Int32) q17.2)) else if x1 = (3 : Int32) then ((f_Processor_isSet (1 : Int32) q5.2).bind fun q21 => if xbl q21.1 = true then some (q21.1, q21.2) else none) else if x1 = (4 : Int32) then (if xbl q5.1 = true then some (q5.1, q5.2) else none) else if x1 = (5 : Int32) then ((f_Processor_isSet (256 : Int32) q5.2).bind fun q27 => if q5.1 = q27.1 then (f_Processor_holds_106 (1 : Int32) q27.2) else (f_Processor_holds_106 (0 : Int32) q27.2)) else if x1 = (6 : Int32) then ((f_Processor_isSet (256 : Int32) q5.2).bind fun q31 => if q5.1 = q31.1 then (f_Processor_holds_123 (0 : Int32) q31.2) else (f_Processor_holds_123 (1 : Int32) q31.2)) else none
def f_Processor_jump_43 (s : xS) : Option xS := some s
def f_Processor_jump (x1 : Int32) (s : xS) : Option xS := (f_Processor_holds ((x1 >>> ((10 : Int32) &&& 31)) &&& (7 : Int32)) s).bind fun q1 => if q1.1 = 0 then (f_Processor_jump_43  q1.2) else ((f_Processor_setRegister (0 : Int32) (((q1.2.2 10) 0) + ((2 : Int32) * ((x1 &&& (1023 : Int32)) - ((x1 &&& (512 : Int32)) <<< ((1 : Int32) &&& 31))))) q1.2).bind fun q4 => f_Processor_jump_43  q4)
def f_Processor_signed_21 (y0 : Int32) (s : xS) : Option (Int32 × xS) := some (y0, s)
def f_Processor_signed (x1 : Int32) (s : xS) : Option (Int32 × xS) := (f_Processor_highest  s).bind fun q1 => if (x1 &&& q1.1) = 0 then (f_Processor_signed_21 x1 q1.2) else ((f_Processor_highest  q1.2).bind fun q4 => f_Processor_signed_21 (x1 - ((2 : Int32) * q4.1)) q4.2)
def f_Processor_sum_70 (x6 y1 y2 : Int32) (s : xS) : Option (Int32 × xS) := (f_Processor_askFlags y1 y2 x6 s).bind fun q1 => some (q1.1, q1.2)
def f_Processor_sum_46 (x4 y0 : Int32) (s : xS) : Option (Int32 × xS) := (f_Processor_mask  s).bind fun q3 => (f_Processor_mask  q3.2).bind fun q5 => if x4 ≤ q5.1 then (f_Processor_sum_70 y0 (x4 &&& q3.1) (0 : Int32) q5.2) else (f_Processor_sum_70 y0 (x4 &&& q3.1) (1 : Int32) q5.2)
def f_Processor_sum_41 (x4 : Int32) (s : xS) : Option (Int32 × xS) := f_Processor_sum_46 x4 (1 : Int32) s
def f_Processor_sum (x1 x2 x3 : Int32) (s : xS) : Option (Int32 × xS) := (f_Processor_signed x1 s).bind fun q8 => (f_Processor_signed x2 q8.2).bind fun q10 => (f_Processor_highest  q10.2).bind fun q12 => if ((q8.1 + q10.1) + x3) < (-q12.1) then (f_Processor_sum_41 ((x1 + x2) + x3) q12.2) else ((f_Processor_highest  q12.2).bind fun q15 => if ((q8.1 + q10.1) + x3) < q15.1 then (f_Processor_sum_46 ((x1 + x2) + x3) (0 : Int32) q15.2) else (f_Processor_sum_41 ((x1 + x2) + x3) q15.2))
def f_Processor_decimalSum_110 (y1 y2 : Int32) (s : xS) : Option (Int32 × xS) := (f_Processor_askFlags y1 y2 (0 : Int32) s).bind fun q1 => some (q1.1, q1.2)
def f_Processor_decimalSum_67 (lp : Int32 → Int32 → Int32 → Int32 → Int32 → Int32 → xS → Option (Int32 × xS)) (x1 x2 x3 x5 x6 x7 y0 : Int32) (s : xS) : Option (Int32 × xS) := lp x1 x2 x3 y0 (x5 ||| (((x7 + ((6 : Int32) * y0)) &&& (15 : Int32)) <<< (((4 : Int32) * x6) &&& 31))) (x6 + (1 : Int32)) s
def f_Processor_decimalSum_25 : Nat → Int32 → Int32 → Int32 → Int32 → Int32 → Int32 → xS → Option (Int32 × xS)
  | 0, _, _, _, _, _, _, _ => none
  | n + 1, x1, x2, x3, x4, x5, x6, s => if x3 ≤ x6 then (if x4 = (1 : Int32) then (f_Processor_decimalSum_110 x5 (1 : Int32) s) else (f_Processor_decimalSum_110 x5 (0 : Int32) s)) else (if ((((x1 >>> (((4 : Int32) * x6) &&& 31)) &&& (15 : Int32)) + ((x2 >>> (((4 : Int32) * x6) &&& 31)) &&& (15 : Int32))) + x4) < (10 : Int32) then (f_Processor_decimalSum_67 (f_Processor_decimalSum_25 n) x1 x2 x3 x5 x6 ((((x1 >>> (((4 : Int32) * x6) &&& 31)) &&& (15 : Int32)) + ((x2 >>> (((4 : Int32) * x6) &&& 31)) &&& (15 : Int32))) + x4) (0 : Int32) s) else (f_Processor_decimalSum_67 (f_Processor_decimalSum_25 n) x1 x2 x3 x5 x6 ((((x1 >>> (((4 : Int32) * x6) &&& 31)) &&& (15 : Int32)) + ((x2 >>> (((4 : Int32) * x6) &&& 31)) &&& (15 : Int32))) + x4) (1 : Int32) s))
def f_Processor_decimalSum_12 (x1 x2 y0 : Int32) (s : xS) : Option (Int32 × xS) := (f_Processor_carry  s).bind fun q6 => f_Processor_decimalSum_25 1000 x1 x2 y0 (q6.1) (0 : Int32) (0 : Int32) q6.2
def f_Processor_decimalSum (x1 x2 : Int32) (s : xS) : Option (Int32 × xS) := if (s.1 13) = 0 then (f_Processor_decimalSum_12 x1 x2 (4 : Int32) s) else (f_Processor_decimalSum_12 x1 x2 (2 : Int32) s)
def f_Processor_combined_153 (y1 y2 : Int32) (s : xS) : Option (Int32 × xS) := (f_Processor_logical y1 y2 s).bind fun q1 => some (q1.1, q1.2)
def f_Processor_combined (x1 x2 x3 : Int32) (s : xS) : Option (Int32 × xS) := (f_Processor_mask  s).bind fun q3 => if x1 < (5 : Int32) ∨ (15 : Int32) < x1 then (some (x3, q3.2)) else if x1 = (5 : Int32) then ((f_Processor_sum x2 x3 (0 : Int32) q3.2).bind fun q7 => some (q7.1, q7.2)) else if x1 = (6 : Int32) then ((f_Processor_carry  q3.2).bind fun q10 => (f_Processor_sum x2 x3 q10.1 q10.2).bind fun q12 => some (q12.1, q12.2)) else if x1 = (7 : Int32) then ((f_Processor_carry  q3.2).bind fun q15 => (f_Processor_sum x2 ((x3 ^^^ (-1 : Int32)) &&& q3.1) q15.1 q15.2).bind fun q17 => some (q17.1, q17.2)) else if x1 = (8 : Int32) then ((f_Processor_sum x2 ((x3 ^^^ (-1 : Int32)) &&& q3.1) (1 : Int32) q3.2).bind fun q20 => some (q20.1, q20.2)) else if x1 = (9 : Int32) then ((f_Processor_sum x2 ((x3 ^^^ (-1 : Int32)) &&& q3.1) (1 : Int32) q3.2).bind fun q23 => some (q23.1, q23.2)) else if x1 = (10 : Int32) then ((f_Processor_decimalSum x2 x3 q3.2).bind fun q26 => some (q26.1, q26.2)) else if x1 = (11 : Int32) then ((f_Processor_logical (x2 &&& x3) (0 : Int32) q3.2).bind fun q29 => some (q29.1, q29.2)) else if x1 = (12 : Int32) then (some ((x2 &&& ((x3 ^^^ (-1 : Int32)) &&& q3.1)), q3.2)) else if x1 = (13 : Int32) then (some ((x2 ||| x3), q3.2)) else if x1 = (14 : Int32) then ((f_Processor_highest  q3.2).bind fun q34 => if ((x2 &&& x3) &&& q34.1) = 0 then (f_Processor_combined_153 (x2 ^^^ x3) (0 : Int32) q34.2) else (f_Processor_combined_153 (x2 ^^^ x3) (1 : Int32) q34.2)) else if x1 = (15 : Int32) then ((f_Processor_logical (x2 &&& x3) (0 : Int32) q3.2).bind fun q38 => some (q38.1, q38.2)) else none
def f_Processor_findDestination_31 (s : xS) : Option xS := some s
def f_Processor_findDestination (x1 x2 : Int32) (s : xS) : Option xS := if x2 = 0 then ((f_Processor_find (1 : Int32) x1 s).bind fun q8 => f_Processor_findDestination_31  q8) else ((f_Processor_base x1 s).bind fun q2 => (f_Processor_nextWord  q2.2).bind fun q4 => (f_Processor_find (2 : Int32) ((q2.1 + q4.1) &&& (65535 : Int32)) q4.2).bind fun q6 => f_Processor_findDestination_31  q6)
def f_Processor_twoOperands_109 (s : xS) : Option xS := some s
def f_Processor_twoOperands_96 (s : xS) : Option xS := (f_Processor_setFlags  s).bind fun q1 => f_Processor_twoOperands_109  q1
def f_Processor_twoOperands_72 (x2 x3 y0 : Int32) (s : xS) : Option xS := (f_Processor_combined x2 y0 x3 s).bind fun q3 => if x2 = (9 : Int32) then (f_Processor_twoOperands_96  q3.2) else (if x2 = (11 : Int32) then (f_Processor_twoOperands_96  q3.2) else ((f_Processor_deliver q3.1 q3.2).bind fun q7 => f_Processor_twoOperands_109  q7))
def f_Processor_twoOperands_21 (x1 x2 y1 : Int32) (s : xS) : Option xS := if xbl y1 = true then (f_Processor_findSource ((x1 >>> ((8 : Int32) &&& 31)) &&& (15 : Int32)) ((x1 >>> ((4 : Int32) &&& 31)) &&& (3 : Int32)) (xsc s 13 y1)).bind fun q10 => (f_Processor_operand  q10).bind fun q12 => (f_Processor_findDestination (x1 &&& (15 : Int32)) ((x1 >>> ((7 : Int32) &&& 31)) &&& (1 : Int32)) q12.2).bind fun q14 => if x2 = (4 : Int32) then (f_Processor_twoOperands_72 x2 (q12.1) (0 : Int32) q14) else ((f_Processor_operand  q14).bind fun q17 => f_Processor_twoOperands_72 x2 (q12.1) (q17.1) q17.2) else none
def f_Processor_twoOperands (x1 : Int32) (s : xS) : Option xS := if ((x1 >>> ((6 : Int32) &&& 31)) &&& (1 : Int32)) = (1 : Int32) then (f_Processor_twoOperands_21 x1 (x1 >>> ((12 : Int32) &&& 31)) (1 : Int32) s) else (f_Processor_twoOperands_21 x1 (x1 >>> ((12 : Int32) &&& 31)) (0 : Int32) s)
def f_Processor_execute_55 (s : xS) : Option xS := some s
def f_Processor_execute (s : xS) : Option xS := (f_Processor_nextWord  s).bind fun q1 => if (q1.1 >>> ((12 : Int32) &&& 31)) < (4 : Int32) then (if (q1.1 >>> ((12 : Int32) &&& 31)) < (2 : Int32) then (if (q1.1 >>> ((10 : Int32) &&& 31)) = (4 : Int32) then ((f_Processor_oneOperand q1.1 (xsc q1.2 17 (0 : Int32))).bind fun q6 => f_Processor_execute_55  q6) else (f_Processor_execute_55  (xsc q1.2 17 (0 : Int32)))) else ((f_Processor_jump q1.1 (xsc q1.2 17 (0 : Int32))).bind fun q8 => f_Processor_execute_55  q8)) else ((f_Processor_twoOperands q1.1 (xsc q1.2 17 (0 : Int32))).bind fun q10 => f_Processor_execute_55  q10)
def f_C_run_68 (x2 : Int32) (s : xS) : Option (Int32 × xS) := some (x2, s)
def f_C_run_62 (lp : Int32 → Int32 → Int32 → xS → Option (Int32 × xS)) (x1 x2 x3 : Int32) (s : xS) : Option (Int32 × xS) := lp x1 x2 (x3 + (1 : Int32)) s
def f_C_run_52 (lp : Int32 → Int32 → Int32 → xS → Option (Int32 × xS)) (x1 x2 x3 : Int32) (s : xS) : Option (Int32 × xS) := (f_C_endStep  s).bind fun q1 => if q1.1 = 0 then (f_C_run_62 lp x1 x2 x3 q1.2) else (f_C_run_62 lp x1 (x2 + (1 : Int32)) x3 q1.2)
def f_C_run_25 : Nat → Int32 → Int32 → Int32 → xS → Option (Int32 × xS)
  | 0, _, _, _, _ => none
  | n + 1, x1, x2, x3, s => if x1 ≤ x3 then (f_C_run_68 x2 s) else (if (s.1 0) = (1 : Int32) then ((f_C_beginStep  s).bind fun q6 => if q6.1 = 0 then (f_C_run_52 (f_C_run_25 n) x1 x2 x3 q6.2) else ((f_Processor_execute  q6.2).bind fun q9 => f_C_run_52 (f_C_run_25 n) x1 x2 x3 q9)) else (f_C_run_68 x2 s))
def f_C_run_19 (s : xS) : Option (Int32 × xS) := some ((-1 : Int32), s)
def f_C_run (x1 : Int32) (s : xS) : Option (Int32 × xS) := if (s.1 0) = (1 : Int32) then (if x1 < 0 then (f_C_run_19  s) else (if x1 ≤ (200 : Int32) then (f_C_run_25 1000 x1 (0 : Int32) (0 : Int32) s) else (f_C_run_19  s))) else (f_C_run_19  s)
def f_Keeper_recover_19 (s : xS) : Option (Int32 × xS) := (f_Section_begin  (xsf (xsf s 10 (va_cpy (s.2 11) (s.2 10) 0 0 16)) 9 (va_cpy (s.2 12) (s.2 9) 0 0 16))).bind fun q1 => some ((1 : Int32), q1)
def f_Keeper_recover (s : xS) : Option (Int32 × xS) := if (s.1 22) = 0 then ((f_Keeper_finish  s).bind fun q4 => if q4.1 = 0 then (some ((0 : Int32), q4.2)) else (f_Keeper_recover_19  q4.2)) else (f_Keeper_recover_19  s)
def f_C_boot_49 (y1 : Int32) (s : xS) : Option (Int32 × xS) := some ((1 : Int32), (xsc s 0 y1))
def f_C_boot (s : xS) : Option (Int32 × xS) := if (s.1 0) = (2 : Int32) then ((f_Keeper_recover  (xsc s 1 (1 : Int32))).bind fun q2 => if q2.1 = 0 then (some ((0 : Int32), q2.2)) else (if (q2.2.1 21) = 0 then (f_C_boot_49 (1 : Int32) q2.2) else (f_C_boot_49 (3 : Int32) q2.2))) else (some ((0 : Int32), s))
def f_C_state (s : xS) : Option (Int32 × xS) := some ((s.1 0), s)
def f_C_register_23 (y0 : Int32) (s : xS) : Option (Int32 × xS) := some (y0, s)
def f_C_register_10 (s : xS) : Option (Int32 × xS) := f_C_register_23 (0 : Int32) s
def f_C_register (x1 : Int32) (s : xS) : Option (Int32 × xS) := if x1 < 0 then (f_C_register_10  s) else (if x1 < (16 : Int32) then (if xin x1 16 = true then f_C_register_23 ((s.2 10) (x1).toNatClampNeg) s else none) else (f_C_register_10  s))
def f_C_memory (x1 : Int32) (s : xS) : Option (Int32 × xS) := (f_Bus_peek x1 s).bind fun q1 => some (q1.1, q1.2)
def f_C_fram_20 (y0 : Int32) (s : xS) : Option (Int32 × xS) := some (y0, s)
def f_C_fram (x1 : Int32) (s : xS) : Option (Int32 × xS) := (f_C_isFramWord x1 ).bind fun q1 => if q1 = 0 then (f_C_fram_20 (0 : Int32) s) else (if xin x1 128 = true then f_C_fram_20 ((s.2 1) (x1).toNatClampNeg) s else none)
def f_C_radio_41 (y0 : Int32) (s : xS) : Option (Int32 × xS) := some (y0, s)
def f_C_radio_28 (s : xS) : Option (Int32 × xS) := f_C_radio_41 (0 : Int32) s
def f_C_radio (x1 : Int32) (s : xS) : Option (Int32 × xS) := if x1 = (-1 : Int32) then (some ((s.1 4), s)) else (if x1 < 0 then (f_C_radio_28  s) else (if x1 < (s.1 4) then (if xin x1 200 = true then f_C_radio_41 ((s.2 3) (x1).toNatClampNeg) s else none) else (f_C_radio_28  s)))
def f_C_waiting (s : xS) : Option (Int32 × xS) := some ((s.1 6), s)
def f_C_writes (s : xS) : Option (Int32 × xS) := some ((s.1 2), s)
def f_C_flips (s : xS) : Option (Int32 × xS) := some ((s.1 18), s)
def f_C_retired (s : xS) : Option (Int32 × xS) := some (((s.1 19) + (s.1 9)), s)
def f_C_section (s : xS) : Option (Int32 × xS) := some (((((s.1 7) + ((32 : Int32) * (s.1 10))) + ((256 : Int32) * (s.1 11))) + ((2048 : Int32) * (s.1 3))), s)
def f_M_framNow_24 (y0 : Int32) (s : xS) : Option (Int32 × xS) := some (y0, s)
def f_M_framNow (x1 : Int32) (s : xS) : Option (Int32 × xS) := if xin x1 128 = true then if ((s.2 4) (x1).toNatClampNeg) ≤ 0 then (if xin x1 128 = true then f_M_framNow_24 ((s.2 2) (x1).toNatClampNeg) s else none) else (if xin x1 128 = true then f_M_framNow_24 ((s.2 5) (x1).toNatClampNeg) s else none) else none
def f_M_inFram_19 (y0 : Int32)  : Option Int32 := if xbl y0 = true then some y0 else none
def f_M_inFram_18  : Option Int32 := f_M_inFram_19 (0 : Int32) 
def f_M_inFram (x0 : Int32)  : Option Int32 := if x0 < (1024 : Int32) then (f_M_inFram_18  ) else (if (1279 : Int32) < x0 then (f_M_inFram_18  ) else (f_M_inFram_19 (1 : Int32) ))
def f_M_inSram_19 (y0 : Int32)  : Option Int32 := if xbl y0 = true then some y0 else none
def f_M_inSram_18  : Option Int32 := f_M_inSram_19 (0 : Int32) 
def f_M_inSram (x0 : Int32)  : Option Int32 := if x0 < (512 : Int32) then (f_M_inSram_18  ) else (if (543 : Int32) < x0 then (f_M_inSram_18  ) else (f_M_inSram_19 (1 : Int32) ))
def f_M_plain_76 (y0 : Int32) (s : xS) : Option (Int32 × xS) := some (y0, s)
def f_M_plain_46 (x2 y1 y2 : Int32) (s : xS) : Option (Int32 × xS) := if xin y1 128 = true then (f_M_framNow x2 (xsa s 3 (y1).toNatClampNeg y2)).bind fun q2 => some (q2.1, q2.2) else none
def f_M_plain_40 (x2 y1 : Int32) (s : xS) : Option (Int32 × xS) := if xin x2 128 = true then f_M_plain_46 x2 y1 ((s.2 3) (x2).toNatClampNeg) s else none
def f_M_plain (x1 : Int32) (s : xS) : Option (Int32 × xS) := (f_M_inFram x1 ).bind fun q5 => if q5 = 0 then ((f_M_inSram x1 ).bind fun q8 => if q8 = 0 then (f_M_plain_76 (0 : Int32) s) else (if xin ((x1 - (512 : Int32)) / (2 : Int32)) 16 = true then f_M_plain_76 ((s.2 1) ((x1 - (512 : Int32)) / (2 : Int32)).toNatClampNeg) s else none)) else (if (s.1 15) = 0 then (f_M_plain_40 ((x1 - (1024 : Int32)) / (2 : Int32)) ((x1 - (1024 : Int32)) / (2 : Int32)) s) else (if xin ((x1 - (1024 : Int32)) / (2 : Int32)) 128 = true then if ((s.2 3) ((x1 - (1024 : Int32)) / (2 : Int32)).toNatClampNeg) = 0 then (f_M_plain_46 ((x1 - (1024 : Int32)) / (2 : Int32)) ((x1 - (1024 : Int32)) / (2 : Int32)) (1 : Int32) s) else (f_M_plain_40 ((x1 - (1024 : Int32)) / (2 : Int32)) ((x1 - (1024 : Int32)) / (2 : Int32)) s) else none))
def f_M_fetch (s : xS) : Option (Int32 × xS) := (f_M_plain ((s.2 0) 0) s).bind fun q1 => some (q1.1, (xsa q1.2 0 0 (xrem (((q1.2.2 0) 0) + (2 : Int32)) (65536 : Int32))))
def f_M_merged_39 (y0 : Int32)  : Option Int32 := some y0
def f_M_merged (x0 x1 x2 x3 : Int32)  : Option Int32 := if x3 = 0 then (f_M_merged_39 x2 ) else (if (xrem x1 (2 : Int32)) = 0 then (f_M_merged_39 (((x0 / (256 : Int32)) * (256 : Int32)) + x2) ) else (f_M_merged_39 ((x2 * (256 : Int32)) + (xrem x0 (256 : Int32))) ))
def f_M_fresh_2 : Nat → Int32 → xS → Option xS
  | 0, _, _ => none
  | n + 1, x1, s => if (128 : Int32) ≤ x1 then (some (xsc (xsc (xsc (xsc s 0 (0 : Int32)) 1 (0 : Int32)) 2 (0 : Int32)) 4 (0 : Int32))) else (if xin x1 128 = true then if xin x1 128 = true then f_M_fresh_2 n (x1 + (1 : Int32)) (xsa (xsa s 3 (x1).toNatClampNeg (0 : Int32)) 4 (x1).toNatClampNeg (0 : Int32)) else none else none)
def f_M_fresh (s : xS) : Option xS := f_M_fresh_2 1000 (0 : Int32) s
def f_M_off (s : xS) : Option xS := (f_M_fresh  (xsc (xsc (xsc (xsc (xsc s 15 (0 : Int32)) 14 (2 : Int32)) 16 (0 : Int32)) 17 (0 : Int32)) 3 (0 : Int32))).bind fun q1 => some q1
def f_M_write_41 (y1 : Int32) (s : xS) : Option (Int32 × xS) := some ((1 : Int32), (xsc (xsc s 16 y1) 18 ((s.1 18) + (1 : Int32))))
def f_M_write (s : xS) : Option (Int32 × xS) := if (s.1 15) = 0 then (some ((0 : Int32), s)) else (if (s.1 16) = (1 : Int32) then ((f_M_off  s).bind fun q4 => some ((0 : Int32), q4)) else (if (s.1 16) ≤ 0 then (f_M_write_41 (0 : Int32) s) else (f_M_write_41 ((s.1 16) - (1 : Int32)) s)))
def f_M_keep_68 (s : xS) : Option xS := some s
def f_M_keep_39 (x1 x2 : Int32) (s : xS) : Option xS := if xin x1 128 = true then some (xsa s 5 (x1).toNatClampNeg x2) else none
def f_M_keep (x1 x2 : Int32) (s : xS) : Option xS := if xin x1 128 = true then if ((s.2 3) (x1).toNatClampNeg) = (1 : Int32) then (if xin x1 128 = true then if ((s.2 4) (x1).toNatClampNeg) = 0 then (if xin x1 128 = true then f_M_keep_39 x1 x2 (xsa (xsc s 0 ((s.1 0) + (1 : Int32))) 4 (x1).toNatClampNeg ((s.1 0) + (1 : Int32))) else none) else (f_M_keep_39 x1 x2 s) else none) else (if xin x1 128 = true then (f_M_write  (xsa s 3 (x1).toNatClampNeg (2 : Int32))).bind fun q5 => if q5.1 = 0 then (f_M_keep_68  q5.2) else (if xin x1 128 = true then f_M_keep_68  (xsa q5.2 2 (x1).toNatClampNeg x2) else none) else none) else none
def f_M_store_162 (s : xS) : Option xS := some s
def f_M_store_157 (s : xS) : Option xS := f_M_store_162  (xsc s 4 (1 : Int32))
def f_M_store_107 (x2 : Int32) (s : xS) : Option xS := if (200 : Int32) ≤ ((s.1 13) + (s.1 1)) then (f_M_store_162  s) else (if xin (s.1 1) 8 = true then f_M_store_162  (xsc (xsa s 6 (s.1 1).toNatClampNeg x2) 1 ((s.1 1) + (1 : Int32))) else none)
def f_M_store_76 (x1 x2 x3 x4 y0 : Int32) (s : xS) : Option xS := (f_M_merged y0 x1 x2 x3 ).bind fun q3 => (f_M_keep x4 q3 s).bind fun q5 => f_M_store_162  q5
def f_M_store (x1 x2 x3 : Int32) (s : xS) : Option xS := if (s.1 15) = 0 then (some s) else ((f_M_inSram x1 ).bind fun q8 => if q8 = 0 then ((f_M_inFram x1 ).bind fun q11 => if q11 = 0 then (if x1 = (18 : Int32) then (f_M_store_107 x2 s) else (if x1 = (19 : Int32) then (f_M_store_107 x2 s) else (if x1 = (20 : Int32) then (f_M_store_157  s) else (if x1 = (21 : Int32) then (f_M_store_157  s) else (f_M_store_162  s))))) else (if x3 = 0 then (f_M_store_76 x1 x2 x3 ((x1 - (1024 : Int32)) / (2 : Int32)) (0 : Int32) s) else ((f_M_plain x1 s).bind fun q19 => f_M_store_76 x1 x2 x3 ((x1 - (1024 : Int32)) / (2 : Int32)) (q19.1) q19.2))) else (if xin ((x1 - (512 : Int32)) / (2 : Int32)) 16 = true then (f_M_merged ((s.2 1) ((x1 - (512 : Int32)) / (2 : Int32)).toNatClampNeg) x1 x2 x3 ).bind fun q22 => if xin ((x1 - (512 : Int32)) / (2 : Int32)) 16 = true then f_M_store_162  (xsa s 1 ((x1 - (512 : Int32)) / (2 : Int32)).toNatClampNeg q22) else none else none))
def f_M_put_41 (y1 y2 : Int32) (s : xS) : Option xS := if xin y1 16 = true then some (xsa s 0 (y1).toNatClampNeg y2) else none
def f_M_put (x1 x2 : Int32) (s : xS) : Option xS := if (2 : Int32) ≤ x1 then (if x1 = (2 : Int32) then (f_M_put_41 x1 (x2 &&& (263 : Int32)) s) else (if x1 = (3 : Int32) then (f_M_put_41 x1 (0 : Int32) s) else (f_M_put_41 x1 x2 s))) else (f_M_put_41 x1 ((x2 / (2 : Int32)) * (2 : Int32)) s)
def f_M_back_38 (s : xS) : Option xS := some s
def f_M_back (x1 x2 : Int32) (s : xS) : Option xS := if (s.1 20) = (1 : Int32) then ((f_M_put (s.1 21) x1 s).bind fun q5 => f_M_back_38  q5) else (if (s.1 20) = (2 : Int32) then ((f_M_store (s.1 21) x1 x2 s).bind fun q3 => f_M_back_38  q3) else (f_M_back_38  s))
def f_M_flags_33 (x1 x2 x5 y0 : Int32) (s : xS) : Option xS := some (xsa s 0 2 (((x1 + x5) + y0) + ((256 : Int32) * x2)))
def f_M_flags_25 (x1 x2 x5 y0 y1 : Int32) (s : xS) : Option xS := if y0 < y1 then (f_M_flags_33 x1 x2 x5 (0 : Int32) s) else (f_M_flags_33 x1 x2 x5 (4 : Int32) s)
def f_M_flags_9 (x1 x2 x3 x4 y0 : Int32) (s : xS) : Option xS := if x4 = 0 then (f_M_flags_25 x1 x2 y0 x3 (32768 : Int32) s) else (f_M_flags_25 x1 x2 y0 x3 (128 : Int32) s)
def f_M_flags (x1 x2 x3 x4 : Int32) (s : xS) : Option xS := if x3 = 0 then (f_M_flags_9 x1 x2 x3 x4 (2 : Int32) s) else (f_M_flags_9 x1 x2 x3 x4 (0 : Int32) s)
def f_M_silent_25 (y0 : Int32) (s : xS) : Option (Int32 × xS) := if xbl y0 = true then some (y0, s) else none
def f_M_silent_24 (s : xS) : Option (Int32 × xS) := f_M_silent_25 (0 : Int32) s
def f_M_silent (x1 : Int32) (s : xS) : Option (Int32 × xS) := if x1 = 0 then (f_M_silent_24  s) else (if (s.1 20) = (1 : Int32) then (if (s.1 21) = (2 : Int32) then (f_M_silent_25 (1 : Int32) s) else (f_M_silent_24  s)) else (f_M_silent_24  s))
def f_M_flag_16 (y0 : Int32) (s : xS) : Option (Int32 × xS) := some (y0, s)
def f_M_flag (x1 : Int32) (s : xS) : Option (Int32 × xS) := if (((s.2 0) 2) &&& x1) = 0 then (f_M_flag_16 (0 : Int32) s) else (f_M_flag_16 (1 : Int32) s)
def f_M_signed_14 (y0 : Int32)  : Option Int32 := some y0
def f_M_signed (x0 x1 : Int32)  : Option Int32 := if x0 < (x1 / (2 : Int32)) then (f_M_signed_14 x0 ) else (f_M_signed_14 (x0 - x1) )
def f_M_sense_109 (x1 y1 : Int32) (s : xS) : Option (Int32 × xS) := (f_M_write  (xsc s 12 y1)).bind fun q1 => if q1.1 = 0 then (some ((0 : Int32), q1.2)) else (if xin ((q1.2.1 2) - (1 : Int32)) 8 = true then (f_M_write  (xsa q1.2 12 ((q1.2.1 2) - (1 : Int32)).toNatClampNeg x1)).bind fun q5 => if q5.1 = 0 then (some ((0 : Int32), q5.2)) else (some (x1, (xsc q5.2 11 (q5.2.1 2)))) else none)
def f_M_sense_63 : Nat → Int32 → Int32 → xS → Option (Int32 × xS)
  | 0, _, _, _ => none
  | n + 1, x1, x2, s => if (s.1 12) ≤ x2 then (if (s.1 12) ≤ 0 then (f_M_sense_109 x1 (0 : Int32) s) else (f_M_sense_109 x1 ((s.1 12) - (1 : Int32)) s)) else (if xin x2 16 = true then if xin (x2 - (1 : Int32)) 16 = true then f_M_sense_63 n x1 (x2 + (1 : Int32)) (xsa s 13 (x2 - (1 : Int32)).toNatClampNeg ((s.2 13) (x2).toNatClampNeg)) else none else none)
def f_M_sense_60 (y0 : Int32) (s : xS) : Option (Int32 × xS) := f_M_sense_63 1000 y0 (1 : Int32) s
def f_M_sense (s : xS) : Option (Int32 × xS) := if (s.1 11) < ((s.1 2) + (1 : Int32)) then (if (s.1 15) = 0 then (some ((0 : Int32), (xsc s 2 ((s.1 2) + (1 : Int32))))) else (if (s.1 12) ≤ 0 then (f_M_sense_60 (65535 : Int32) (xsc s 2 ((s.1 2) + (1 : Int32)))) else (f_M_sense_60 ((s.2 13) 0) (xsc s 2 ((s.1 2) + (1 : Int32)))))) else (if xin (((s.1 2) + (1 : Int32)) - (1 : Int32)) 8 = true then some (((s.2 12) (((s.1 2) + (1 : Int32)) - (1 : Int32)).toNatClampNeg), (xsc s 2 ((s.1 2) + (1 : Int32)))) else none)
def f_M_loaded_52 (y0 : Int32) (s : xS) : Option (Int32 × xS) := some (y0, s)
def f_M_loaded_24 (x1 x2 y0 : Int32) (s : xS) : Option (Int32 × xS) := if x2 = 0 then (f_M_loaded_52 y0 s) else (if (xrem x1 (2 : Int32)) = 0 then (f_M_loaded_52 (xrem y0 (256 : Int32)) s) else (f_M_loaded_52 (y0 / (256 : Int32)) s))
def f_M_loaded_12 (x1 x2 : Int32) (s : xS) : Option (Int32 × xS) := (f_M_sense  s).bind fun q3 => f_M_loaded_24 x1 x2 (q3.1) q3.2
def f_M_loaded (x1 x2 : Int32) (s : xS) : Option (Int32 × xS) := if x1 = (16 : Int32) then (f_M_loaded_12 x1 x2 s) else (if x1 = (17 : Int32) then (f_M_loaded_12 x1 x2 s) else ((f_M_plain x1 s).bind fun q7 => f_M_loaded_24 x1 x2 (q7.1) q7.2))
def f_M_indexed_33 (y0 : Int32) (s : xS) : Option (Int32 × xS) := (f_M_fetch  s).bind fun q1 => some ((xrem (q1.1 + y0) (65536 : Int32)), q1.2)
def f_M_indexed_23 (s : xS) : Option (Int32 × xS) := f_M_indexed_33 (0 : Int32) s
def f_M_indexed (x1 : Int32) (s : xS) : Option (Int32 × xS) := if x1 = 0 then (f_M_indexed_33 ((s.2 0) 0) s) else (if x1 = (2 : Int32) then (f_M_indexed_23  s) else (if x1 = (3 : Int32) then (f_M_indexed_23  s) else (if xin x1 16 = true then f_M_indexed_33 ((s.2 0) (x1).toNatClampNeg) s else none)))
def f_M_operand_168 (x6 : Int32) (s : xS) : Option (Int32 × xS) := some (x6, s)
def f_M_operand_163 (x6 y1 y2 y3 : Int32) (s : xS) : Option (Int32 × xS) := if xin y1 16 = true then f_M_operand_168 x6 (xsa s 0 (y1).toNatClampNeg (xrem (y2 + y3) (65536 : Int32))) else none
def f_M_operand_162 (x6 y1 y2 : Int32) (s : xS) : Option (Int32 × xS) := f_M_operand_163 x6 y1 y2 (2 : Int32) s
def f_M_operand_120 (x1 x2 x3 y0 : Int32) (s : xS) : Option (Int32 × xS) := (f_M_loaded y0 x3 (xsc s 21 y0)).bind fun q2 => if x2 = (3 : Int32) then (if x3 = 0 then (f_M_operand_162 (q2.1) x1 y0 q2.2) else (if x1 = (1 : Int32) then (f_M_operand_162 (q2.1) x1 y0 q2.2) else (f_M_operand_163 (q2.1) x1 y0 (1 : Int32) q2.2))) else (f_M_operand_168 (q2.1) q2.2)
def f_M_operand_96 (x1 x2 x3 : Int32) (s : xS) : Option (Int32 × xS) := if x2 = (1 : Int32) then ((f_M_indexed x1 (xsc s 20 (2 : Int32))).bind fun q9 => f_M_operand_120 x1 x2 x3 (q9.1) q9.2) else (if xin x1 16 = true then f_M_operand_120 x1 x2 x3 ((s.2 0) (x1).toNatClampNeg) (xsc s 20 (2 : Int32)) else none)
def f_M_operand_55 (x1 x2 x3 x4 : Int32) (s : xS) : Option (Int32 × xS) := if x2 = 0 then (if xin x1 16 = true then if (!(x4 == 0)) = true then some ((xrem ((s.2 0) (x1).toNatClampNeg) x4), (xsc (xsc s 20 (1 : Int32)) 21 x1)) else none else none) else (if x1 = 0 then (if x2 = (3 : Int32) then ((f_M_fetch  s).bind fun q14 => if (!(x4 == 0)) = true then some ((xrem q14.1 x4), q14.2) else none) else (f_M_operand_96 x1 x2 x3 s)) else (f_M_operand_96 x1 x2 x3 s))
def f_M_operand_35 (x4 y0 : Int32) (s : xS) : Option (Int32 × xS) := if (!(x4 == 0)) = true then some ((xrem y0 x4), s) else none
def f_M_operand_12 (x1 x2 x3 y0 : Int32) (s : xS) : Option (Int32 × xS) := if x1 = (3 : Int32) then (if x2 = (3 : Int32) then (f_M_operand_35 y0 (65535 : Int32) (xsc s 20 (0 : Int32))) else (f_M_operand_35 y0 x2 (xsc s 20 (0 : Int32)))) else (if x1 = (2 : Int32) then (if x2 ≤ (1 : Int32) then (f_M_operand_55 x1 x2 x3 y0 (xsc s 20 (0 : Int32))) else (some (((4 : Int32) * (x2 - (1 : Int32))), (xsc s 20 (0 : Int32))))) else (f_M_operand_55 x1 x2 x3 y0 (xsc s 20 (0 : Int32))))
def f_M_operand (x1 x2 x3 : Int32) (s : xS) : Option (Int32 × xS) := if x3 = 0 then (f_M_operand_12 x1 x2 x3 (65536 : Int32) s) else (f_M_operand_12 x1 x2 x3 (256 : Int32) s)
def f_M_one_331 (x3 x6 : Int32) (s : xS) : Option xS := (f_M_back x6 x3 s).bind fun q1 => some q1
def f_M_one_324 (x3 x6 y1 : Int32) (s : xS) : Option xS := (f_M_flags y1 (0 : Int32) x6 x3 s).bind fun q3 => f_M_one_331 x3 x6 q3
def f_M_one_286 (x1 x3 x4 y0 : Int32) (s : xS) : Option xS := if x1 = (1 : Int32) then (f_M_one_331 x3 y0 s) else ((f_M_silent (1 : Int32) s).bind fun q6 => if q6.1 = 0 then (if x1 = (3 : Int32) then (if y0 = 0 then (f_M_one_324 x3 y0 (0 : Int32) q6.2) else (f_M_one_324 x3 y0 (1 : Int32) q6.2)) else (f_M_one_324 x3 y0 (xrem x4 (2 : Int32)) q6.2)) else (f_M_one_331 x3 y0 q6.2))
def f_M_one_285 (x1 x3 x4 y0 y1 : Int32) (s : xS) : Option xS := f_M_one_286 x1 x3 x4 (y0 + y1) s
def f_M_one_201 (s : xS) : Option xS := some s
def f_M_one_185 (x1 x3 x4 y1 y2 : Int32) (s : xS) : Option xS := (f_M_store y1 y2 x3 s).bind fun q11 => if x1 = (5 : Int32) then ((f_M_put (0 : Int32) x4 q11).bind fun q14 => f_M_one_201  q14) else (f_M_one_201  q11)
def f_M_one_137 (x1 x3 x4 y0 : Int32) (s : xS) : Option xS := if x1 ≤ (3 : Int32) then (if x1 = (1 : Int32) then (f_M_one_286 x1 x3 x4 (((xrem x4 (256 : Int32)) * (256 : Int32)) + (x4 / (256 : Int32))) s) else (if x1 = (3 : Int32) then ((f_M_signed (xrem x4 (256 : Int32)) (256 : Int32) ).bind fun q23 => f_M_one_286 x1 x3 x4 (xrem (q23 + (65536 : Int32)) (65536 : Int32)) s) else (if x1 = 0 then ((f_M_flag (1 : Int32) s).bind fun q21 => f_M_one_285 x1 x3 x4 (x4 / (2 : Int32)) (q21.1 * y0) q21.2) else (if x4 < y0 then (f_M_one_285 x1 x3 x4 (x4 / (2 : Int32)) (0 : Int32) s) else (f_M_one_285 x1 x3 x4 (x4 / (2 : Int32)) y0 s))))) else (if x1 = (4 : Int32) then (f_M_one_185 x1 x3 x4 (((xsa s 0 1 (xrem (((s.2 0) 1) + (65534 : Int32)) (65536 : Int32))).2 0) 1) x4 (xsa s 0 1 (xrem (((s.2 0) 1) + (65534 : Int32)) (65536 : Int32)))) else (f_M_one_185 x1 x3 x4 (((xsa s 0 1 (xrem (((s.2 0) 1) + (65534 : Int32)) (65536 : Int32))).2 0) 1) (((xsa s 0 1 (xrem (((s.2 0) 1) + (65534 : Int32)) (65536 : Int32))).2 0) 0) (xsa s 0 1 (xrem (((s.2 0) 1) + (65534 : Int32)) (65536 : Int32)))))
def f_M_one_107 (x1 x2 y0 : Int32) (s : xS) : Option xS := (f_M_operand (xrem x2 (16 : Int32)) (xrem (x2 / (16 : Int32)) (4 : Int32)) y0 s).bind fun q26 => if y0 = 0 then (f_M_one_137 x1 y0 (q26.1) (32768 : Int32) q26.2) else (f_M_one_137 x1 y0 (q26.1) (128 : Int32) q26.2)
def f_M_one_106 (x1 x2 : Int32) (s : xS) : Option xS := f_M_one_107 x1 x2 (0 : Int32) s
def f_M_one (x1 x2 : Int32) (s : xS) : Option xS := if x1 = (7 : Int32) then (some s) else (if x1 = (6 : Int32) then ((f_M_loaded ((s.2 0) 1) (0 : Int32) s).bind fun q33 => (f_M_put (2 : Int32) q33.1 q33.2).bind fun q35 => (f_M_loaded (((xsa q35 0 1 (xrem (((q35.2 0) 1) + (2 : Int32)) (65536 : Int32))).2 0) 1) (0 : Int32) (xsa q35 0 1 (xrem (((q35.2 0) 1) + (2 : Int32)) (65536 : Int32)))).bind fun q37 => (f_M_put (0 : Int32) q37.1 q37.2).bind fun q39 => some (xsa q39 0 1 (xrem (((q39.2 0) 1) + (2 : Int32)) (65536 : Int32)))) else (if (xrem (x2 / (64 : Int32)) (2 : Int32)) = (1 : Int32) then (if (xrem x1 (2 : Int32)) = 0 then (f_M_one_107 x1 x2 (1 : Int32) s) else (f_M_one_106 x1 x2 s)) else (f_M_one_106 x1 x2 s)))
def f_M_jump_223 (y1 y2 : Int32) (s : xS) : Option xS := if xin y1 16 = true then some (xsa s 0 (y1).toNatClampNeg y2) else none
def f_M_jump_172 (x1 y0 : Int32) (s : xS) : Option xS := (f_M_signed (xrem x1 (1024 : Int32)) (1024 : Int32) ).bind fun q2 => if y0 = 0 then (f_M_jump_223 (0 : Int32) ((s.2 0) 0) s) else (f_M_jump_223 (0 : Int32) (xrem ((((s.2 0) 0) + ((2 : Int32) * q2)) + (65536 : Int32)) (65536 : Int32)) s)
def f_M_jump (x1 : Int32) (s : xS) : Option xS := (f_M_flag (4 : Int32) s).bind fun q5 => (f_M_flag (256 : Int32) q5.2).bind fun q7 => if (xrem (x1 / (1024 : Int32)) (8 : Int32)) = 0 then ((f_M_flag (2 : Int32) q7.2).bind fun q28 => if q28.1 = 0 then (f_M_jump_172 x1 (1 : Int32) q28.2) else (f_M_jump_172 x1 (0 : Int32) q28.2)) else (if (xrem (x1 / (1024 : Int32)) (8 : Int32)) = (1 : Int32) then ((f_M_flag (2 : Int32) q7.2).bind fun q25 => if q25.1 = (1 : Int32) then (f_M_jump_172 x1 (1 : Int32) q25.2) else (f_M_jump_172 x1 (0 : Int32) q25.2)) else (if (xrem (x1 / (1024 : Int32)) (8 : Int32)) = (2 : Int32) then ((f_M_flag (1 : Int32) q7.2).bind fun q22 => if q22.1 = 0 then (f_M_jump_172 x1 (1 : Int32) q22.2) else (f_M_jump_172 x1 (0 : Int32) q22.2)) else (if (xrem (x1 / (1024 : Int32)) (8 : Int32)) = (3 : Int32) then ((f_M_flag (1 : Int32) q7.2).bind fun q19 => if q19.1 = (1 : Int32) then (f_M_jump_172 x1 (1 : Int32) q19.2) else (f_M_jump_172 x1 (0 : Int32) q19.2)) else (if (xrem (x1 / (1024 : Int32)) (8 : Int32)) = (4 : Int32) then (if q5.1 = (1 : Int32) then (f_M_jump_172 x1 (1 : Int32) q7.2) else (f_M_jump_172 x1 (0 : Int32) q7.2)) else (if (xrem (x1 / (1024 : Int32)) (8 : Int32)) = (5 : Int32) then (if q5.1 = q7.1 then (f_M_jump_172 x1 (1 : Int32) q7.2) else (f_M_jump_172 x1 (0 : Int32) q7.2)) else (if (xrem (x1 / (1024 : Int32)) (8 : Int32)) = (6 : Int32) then (if q5.1 = q7.1 then (f_M_jump_172 x1 (0 : Int32) q7.2) else (f_M_jump_172 x1 (1 : Int32) q7.2)) else (f_M_jump_172 x1 (1 : Int32) q7.2)))))))
def f_M_bits_152 (x6 : Int32) (s : xS) : Option (Int32 × xS) := some (x6, s)
def f_M_bits_143 (x4 x6 x8 y1 : Int32) (s : xS) : Option (Int32 × xS) := (f_M_flags y1 x8 x6 x4 s).bind fun q1 => f_M_bits_152 x6 q1
def f_M_bits_126 (x4 x6 x8 y1 : Int32) (s : xS) : Option (Int32 × xS) := (f_M_silent y1 s).bind fun q3 => if q3.1 = 0 then (if x6 = 0 then (f_M_bits_143 x4 x6 x8 (0 : Int32) q3.2) else (f_M_bits_143 x4 x6 x8 (1 : Int32) q3.2)) else (f_M_bits_152 x6 q3.2)
def f_M_bits_107 (x1 x4 x6 x7 y0 : Int32) (s : xS) : Option (Int32 × xS) := if x7 = 0 then (f_M_bits_152 x6 s) else (if x1 = (11 : Int32) then (f_M_bits_126 x4 x6 y0 (0 : Int32) s) else (f_M_bits_126 x4 x6 y0 (1 : Int32) s))
def f_M_bits_106 (x1 x4 x6 x7 : Int32) (s : xS) : Option (Int32 × xS) := f_M_bits_107 x1 x4 x6 x7 (0 : Int32) s
def f_M_bits_78 (x1 x2 x3 x4 x5 x6 y0 : Int32) (s : xS) : Option (Int32 × xS) := if x1 = (14 : Int32) then (if x2 < (x5 / (2 : Int32)) then (f_M_bits_106 x1 x4 x6 y0 s) else (if x3 < (x5 / (2 : Int32)) then (f_M_bits_106 x1 x4 x6 y0 s) else (f_M_bits_107 x1 x4 x6 y0 (1 : Int32) s))) else (f_M_bits_106 x1 x4 x6 y0 s)
def f_M_bits_77 (x1 x2 x3 x4 x5 x6 : Int32) (s : xS) : Option (Int32 × xS) := f_M_bits_78 x1 x2 x3 x4 x5 x6 (0 : Int32) s
def f_M_bits_59 (x1 x2 x3 x4 x5 y0 : Int32) (s : xS) : Option (Int32 × xS) := if x1 = (12 : Int32) then (f_M_bits_77 x1 x2 x3 x4 x5 y0 s) else (if x1 = (13 : Int32) then (f_M_bits_77 x1 x2 x3 x4 x5 y0 s) else (f_M_bits_78 x1 x2 x3 x4 x5 y0 (1 : Int32) s))
def f_M_bits_13 (x1 x2 x3 x4 y0 : Int32) (s : xS) : Option (Int32 × xS) := if x1 = (12 : Int32) then (f_M_bits_59 x1 x2 x3 x4 y0 (x3 &&& ((y0 - (1 : Int32)) - x2)) s) else (if x1 = (13 : Int32) then (f_M_bits_59 x1 x2 x3 x4 y0 (x3 ||| x2) s) else (if x1 = (14 : Int32) then (f_M_bits_59 x1 x2 x3 x4 y0 (x3 ^^^ x2) s) else (f_M_bits_59 x1 x2 x3 x4 y0 (x3 &&& x2) s)))
def f_M_bits (x1 x2 x3 x4 : Int32) (s : xS) : Option (Int32 × xS) := if x4 = 0 then (f_M_bits_13 x1 x2 x3 x4 (65536 : Int32) s) else (f_M_bits_13 x1 x2 x3 x4 (256 : Int32) s)
def f_M_decimal_123 (x5 : Int32) (s : xS) : Option (Int32 × xS) := some (x5, s)
def f_M_decimal_86 (lp : Int32 → Int32 → Int32 → Int32 → Int32 → Int32 → Int32 → xS → Option (Int32 × xS)) (x1 x2 x3 x4 x6 x7 y0 y1 : Int32) (s : xS) : Option (Int32 × xS) := lp x1 x2 x3 x4 (y0 + (y1 * x6)) (x6 * (16 : Int32)) (x7 + (1 : Int32)) s
def f_M_decimal_62 (lp : Int32 → Int32 → Int32 → Int32 → Int32 → Int32 → Int32 → xS → Option (Int32 × xS)) (x1 x2 x3 x5 x6 x7 x8 y0 : Int32) (s : xS) : Option (Int32 × xS) := if x8 ≤ (9 : Int32) then (f_M_decimal_86 lp x1 x2 x3 y0 x6 x7 x5 x8 s) else (f_M_decimal_86 lp x1 x2 x3 y0 x6 x7 x5 (xrem (x8 + (6 : Int32)) (16 : Int32)) s)
def f_M_decimal_27 (lp : Int32 → Int32 → Int32 → Int32 → Int32 → Int32 → Int32 → xS → Option (Int32 × xS)) (x1 x2 x3 x4 x5 x6 x7 y0 y1 : Int32) (s : xS) : Option (Int32 × xS) := if y1 ≤ y0 then ((f_M_silent (1 : Int32) s).bind fun q3 => if q3.1 = 0 then ((f_M_flags x4 (0 : Int32) x5 x3 q3.2).bind fun q6 => f_M_decimal_123 x5 q6) else (f_M_decimal_123 x5 q3.2)) else (if (!(x6 == 0)) = true then if (!(x6 == 0)) = true then if (((xrem (x1 / x6) (16 : Int32)) + (xrem (x2 / x6) (16 : Int32))) + x4) ≤ (9 : Int32) then (f_M_decimal_62 lp x1 x2 x3 x5 x6 x7 (((xrem (x1 / x6) (16 : Int32)) + (xrem (x2 / x6) (16 : Int32))) + x4) (0 : Int32) s) else (f_M_decimal_62 lp x1 x2 x3 x5 x6 x7 (((xrem (x1 / x6) (16 : Int32)) + (xrem (x2 / x6) (16 : Int32))) + x4) (1 : Int32) s) else none else none)
def f_M_decimal_16 : Nat → Int32 → Int32 → Int32 → Int32 → Int32 → Int32 → Int32 → xS → Option (Int32 × xS)
  | 0, _, _, _, _, _, _, _, _ => none
  | n + 1, x1, x2, x3, x4, x5, x6, x7, s => if x3 = 0 then (f_M_decimal_27 (f_M_decimal_16 n) x1 x2 x3 x4 x5 x6 x7 x7 (4 : Int32) s) else (f_M_decimal_27 (f_M_decimal_16 n) x1 x2 x3 x4 x5 x6 x7 x7 (2 : Int32) s)
def f_M_decimal (x1 x2 x3 : Int32) (s : xS) : Option (Int32 × xS) := (f_M_flag (1 : Int32) s).bind fun q12 => f_M_decimal_16 1000 x1 x2 x3 (q12.1) (0 : Int32) (1 : Int32) (0 : Int32) q12.2
def f_M_sum_155 (x10 : Int32) (s : xS) : Option (Int32 × xS) := some (x10, s)
def f_M_sum_148 (x4 x10 y1 y2 : Int32) (s : xS) : Option (Int32 × xS) := (f_M_flags y1 y2 x10 x4 s).bind fun q1 => f_M_sum_155 x10 q1
def f_M_sum_131 (x4 x5 x9 x10 y1 : Int32) (s : xS) : Option (Int32 × xS) := (f_M_signed x10 x5 ).bind fun q3 => if x9 = q3 then (f_M_sum_148 x4 x10 y1 (0 : Int32) s) else (f_M_sum_148 x4 x10 y1 (1 : Int32) s)
def f_M_sum_112 (x4 x5 x8 x9 x10 y1 : Int32) (s : xS) : Option (Int32 × xS) := (f_M_silent y1 s).bind fun q6 => if q6.1 = 0 then (if x8 < x5 then (f_M_sum_131 x4 x5 x9 x10 (0 : Int32) q6.2) else (f_M_sum_131 x4 x5 x9 x10 (1 : Int32) q6.2)) else (f_M_sum_155 x10 q6.2)
def f_M_sum_63 (x1 x3 x4 x5 x6 y0 : Int32) (s : xS) : Option (Int32 × xS) := (f_M_signed x3 x5 ).bind fun q10 => (f_M_signed x6 x5 ).bind fun q12 => if (!(x5 == 0)) = true then if x1 = (9 : Int32) then (f_M_sum_112 x4 x5 ((x3 + x6) + y0) ((q10 + q12) + y0) (xrem ((x3 + x6) + y0) x5) (0 : Int32) s) else (f_M_sum_112 x4 x5 ((x3 + x6) + y0) ((q10 + q12) + y0) (xrem ((x3 + x6) + y0) x5) (1 : Int32) s) else none
def f_M_sum_45 (x1 x3 x4 x5 x6 : Int32) (s : xS) : Option (Int32 × xS) := (f_M_flag (1 : Int32) s).bind fun q16 => f_M_sum_63 x1 x3 x4 x5 x6 (q16.1) q16.2
def f_M_sum_31 (x1 x3 x4 x5 y0 : Int32) (s : xS) : Option (Int32 × xS) := if x1 = (6 : Int32) then (f_M_sum_45 x1 x3 x4 x5 y0 s) else (if x1 = (7 : Int32) then (f_M_sum_45 x1 x3 x4 x5 y0 s) else (if x1 = (5 : Int32) then (f_M_sum_63 x1 x3 x4 x5 y0 (0 : Int32) s) else (f_M_sum_63 x1 x3 x4 x5 y0 (1 : Int32) s)))
def f_M_sum_13 (x1 x2 x3 x4 y0 : Int32) (s : xS) : Option (Int32 × xS) := if (7 : Int32) ≤ x1 then (f_M_sum_31 x1 x3 x4 y0 ((y0 - (1 : Int32)) - x2) s) else (f_M_sum_31 x1 x3 x4 y0 x2 s)
def f_M_sum (x1 x2 x3 x4 : Int32) (s : xS) : Option (Int32 × xS) := if x4 = 0 then (f_M_sum_13 x1 x2 x3 x4 (65536 : Int32) s) else (f_M_sum_13 x1 x2 x3 x4 (256 : Int32) s)
def f_M_two_226 (s : xS) : Option xS := some s
def f_M_two_205 (x1 x3 y0 : Int32) (s : xS) : Option xS := if x1 = (9 : Int32) then (f_M_two_226  s) else (if x1 = (11 : Int32) then (f_M_two_226  s) else ((f_M_back y0 x3 s).bind fun q3 => f_M_two_226  q3))
def f_M_two_148 (x1 x3 x5 x8 : Int32) (s : xS) : Option xS := if x1 = (4 : Int32) then (f_M_two_205 x1 x3 x5 s) else (if (10 : Int32) ≤ x1 then (if x1 = (10 : Int32) then ((f_M_decimal x5 x8 x3 s).bind fun q10 => f_M_two_205 x1 x3 (q10.1) q10.2) else ((f_M_bits x1 x5 x8 x3 s).bind fun q8 => f_M_two_205 x1 x3 (q8.1) q8.2)) else ((f_M_sum x1 x5 x8 x3 s).bind fun q12 => f_M_two_205 x1 x3 (q12.1) q12.2))
def f_M_two_131 (x1 x3 x5 y0 : Int32) (s : xS) : Option xS := f_M_two_148 x1 x3 x5 y0 s
def f_M_two_86 (x1 x3 x4 x5 x6 x7 y1 : Int32) (s : xS) : Option xS := if x6 = 0 then (if xin x4 16 = true then if (!(x7 == 0)) = true then f_M_two_148 x1 x3 x5 (xrem ((s.2 0) (x4).toNatClampNeg) x7) (xsc (xsc s 20 y1) 21 x4) else none else none) else ((f_M_indexed x4 (xsc (xsc s 20 y1) 21 x4)).bind fun q17 => if x1 = (4 : Int32) then (f_M_two_131 x1 x3 x5 (0 : Int32) (xsc q17.2 21 q17.1)) else ((f_M_loaded q17.1 x3 (xsc q17.2 21 q17.1)).bind fun q20 => f_M_two_131 x1 x3 x5 (q20.1) q20.2))
def f_M_two_73 (x1 x3 x4 x5 x6 y0 : Int32) (s : xS) : Option xS := if x6 = 0 then (f_M_two_86 x1 x3 x4 x5 x6 y0 (1 : Int32) s) else (f_M_two_86 x1 x3 x4 x5 x6 y0 (2 : Int32) s)
def f_M_two_59 (x1 x3 x4 x5 y0 : Int32) (s : xS) : Option xS := if x3 = 0 then (f_M_two_73 x1 x3 x4 x5 y0 (65536 : Int32) s) else (f_M_two_73 x1 x3 x4 x5 y0 (256 : Int32) s)
def f_M_two_15 (x1 x2 y0 : Int32) (s : xS) : Option xS := (f_M_operand (xrem (x2 / (256 : Int32)) (16 : Int32)) (xrem (x2 / (16 : Int32)) (4 : Int32)) y0 s).bind fun q24 => if (xrem (x2 / (128 : Int32)) (2 : Int32)) = (1 : Int32) then (f_M_two_59 x1 y0 (xrem x2 (16 : Int32)) (q24.1) (1 : Int32) q24.2) else (f_M_two_59 x1 y0 (xrem x2 (16 : Int32)) (q24.1) (0 : Int32) q24.2)
def f_M_two (x1 x2 : Int32) (s : xS) : Option xS := if (xrem (x2 / (64 : Int32)) (2 : Int32)) = (1 : Int32) then (f_M_two_15 x1 x2 (1 : Int32) s) else (f_M_two_15 x1 x2 (0 : Int32) s)
def f_M_instruction_60 (s : xS) : Option xS := some s
def f_M_instruction (s : xS) : Option xS := (f_M_fetch  s).bind fun q1 => if (q1.1 / (4096 : Int32)) ≤ (3 : Int32) then (if (q1.1 / (4096 : Int32)) ≤ (1 : Int32) then (if (q1.1 / (1024 : Int32)) = (4 : Int32) then ((f_M_one (xrem (q1.1 / (128 : Int32)) (8 : Int32)) q1.1 q1.2).bind fun q6 => f_M_instruction_60  q6) else (f_M_instruction_60  q1.2)) else ((f_M_jump q1.1 q1.2).bind fun q8 => f_M_instruction_60  q8)) else ((f_M_two (q1.1 / (4096 : Int32)) q1.1 q1.2).bind fun q10 => f_M_instruction_60  q10)
def f_M_finish_151 (y1 : Int32) (s : xS) : Option xS := some (xsc s 14 y1)
def f_M_finish_66 (s : xS) : Option xS := some s
def f_M_finish_41 : Nat → xS → Option xS
  | 0, _ => none
  | n + 1, s => if (s.1 6) ≤ (s.1 7) then ((f_M_write  s).bind fun q2 => if q2.1 = 0 then (some q2.2) else ((f_M_write  (xsc q2.2 11 (0 : Int32))).bind fun q5 => if q5.1 = 0 then (some q5.2) else ((f_M_fresh  (xsc q5.2 9 (0 : Int32))).bind fun q8 => if (q8.1 8) = 0 then (f_M_finish_151 (1 : Int32) q8) else (f_M_finish_151 (3 : Int32) q8)))) else ((f_M_write  s).bind fun q11 => if q11.1 = 0 then (f_M_finish_66  q11.2) else ((f_M_write  q11.2).bind fun q14 => if q14.1 = 0 then (f_M_finish_66  q14.2) else (if xin (q14.2.1 7) 8 = true then if xin (q14.2.1 13) 200 = true then f_M_finish_41 n  (xsc (xsc (xsa q14.2 14 (q14.2.1 13).toNatClampNeg ((q14.2.2 11) (q14.2.1 7).toNatClampNeg)) 13 ((q14.2.1 13) + (1 : Int32))) 7 ((q14.2.1 7) + (1 : Int32))) else none else none)))
def f_M_finish_2 : Nat → Int32 → xS → Option xS
  | 0, _, _ => none
  | n + 1, x1, s => if (s.1 5) ≤ x1 then (f_M_finish_41 1000  s) else ((f_M_write  s).bind fun q20 => if q20.1 = 0 then (some q20.2) else (if xin x1 8 = true then if xin x1 8 = true then if xin ((q20.2.2 9) (x1).toNatClampNeg) 128 = true then f_M_finish_2 n (x1 + (1 : Int32)) (xsa q20.2 2 ((q20.2.2 9) (x1).toNatClampNeg).toNatClampNeg ((q20.2.2 10) (x1).toNatClampNeg)) else none else none else none))
def f_M_finish (s : xS) : Option xS := f_M_finish_2 1000 (0 : Int32) s
def f_M_checkpoint_177 : Nat → Int32 → xS → Option xS
  | 0, _, _ => none
  | n + 1, x2, s => if (s.1 1) ≤ x2 then (if xbl (s.1 4) = true then (f_M_finish  (xsc (xsc (xsc s 7 (0 : Int32)) 8 (s.1 4)) 9 (1 : Int32))).bind fun q3 => some q3 else none) else (if xin x2 8 = true then if xin x2 8 = true then f_M_checkpoint_177 n (x2 + (1 : Int32)) (xsa s 11 (x2).toNatClampNeg ((s.2 6) (x2).toNatClampNeg)) else none else none)
def f_M_checkpoint_161 (lp : Int32 → xS → Option xS) (x2 : Int32) (s : xS) : Option xS := lp (x2 + (1 : Int32)) s
def f_M_checkpoint_112 : Nat → Int32 → xS → Option xS
  | 0, _, _ => none
  | n + 1, x2, s => if (128 : Int32) ≤ x2 then (f_M_checkpoint_177 1000 (0 : Int32) (xsc s 6 (s.1 1))) else (if xin x2 128 = true then if ((s.2 4) (x2).toNatClampNeg) ≤ 0 then (f_M_checkpoint_161 (f_M_checkpoint_112 n) x2 s) else (if xin x2 128 = true then if xin (((s.2 4) (x2).toNatClampNeg) - (1 : Int32)) 8 = true then if xin x2 128 = true then if xin x2 128 = true then if xin (((s.2 4) (x2).toNatClampNeg) - (1 : Int32)) 8 = true then f_M_checkpoint_161 (f_M_checkpoint_112 n) x2 (xsa (xsa s 9 (((s.2 4) (x2).toNatClampNeg) - (1 : Int32)).toNatClampNeg x2) 10 (((s.2 4) (x2).toNatClampNeg) - (1 : Int32)).toNatClampNeg ((s.2 5) (x2).toNatClampNeg)) else none else none else none else none else none) else none)
def f_M_checkpoint_66 : Nat → Int32 → xS → Option xS
  | 0, _, _ => none
  | n + 1, x2, s => if (16 : Int32) ≤ x2 then (f_M_checkpoint_112 1000 (0 : Int32) (xsc s 5 (s.1 0))) else (if xin x2 16 = true then if xin x2 16 = true then if xin x2 16 = true then if xin x2 16 = true then f_M_checkpoint_66 n (x2 + (1 : Int32)) (xsa (xsa s 7 (x2).toNatClampNeg ((s.2 0) (x2).toNatClampNeg)) 8 (x2).toNatClampNeg ((s.2 1) (x2).toNatClampNeg)) else none else none else none else none)
def f_M_checkpoint_17 : Nat → Int32 → Int32 → xS → Option xS
  | 0, _, _, _ => none
  | n + 1, x1, x2, s => if x1 ≤ x2 then (f_M_checkpoint_66 1000 (0 : Int32) (xsc (xsc (xsc s 19 ((s.1 19) + (1 : Int32))) 10 ((s.1 10) + (s.1 3))) 3 (0 : Int32))) else ((f_M_write  s).bind fun q21 => if q21.1 = 0 then (some q21.2) else (f_M_checkpoint_17 n x1 (x2 + (1 : Int32)) q21.2))
def f_M_checkpoint (s : xS) : Option xS := f_M_checkpoint_17 1000 (((37 : Int32) + ((2 : Int32) * (s.1 0))) + (s.1 1)) (0 : Int32) s
def f_M_tracked_27 (lp : Int32 → Int32 → xS → Option (Int32 × xS)) (x2 y0 : Int32) (s : xS) : Option (Int32 × xS) := lp y0 (x2 + (1 : Int32)) s
def f_M_tracked_4 : Nat → Int32 → Int32 → xS → Option (Int32 × xS)
  | 0, _, _, _ => none
  | n + 1, x1, x2, s => if (128 : Int32) ≤ x2 then (some (x1, s)) else (if xin x2 128 = true then if ((s.2 3) (x2).toNatClampNeg) ≤ 0 then (f_M_tracked_27 (f_M_tracked_4 n) x2 x1 s) else (f_M_tracked_27 (f_M_tracked_4 n) x2 (x1 + (1 : Int32)) s) else none)
def f_M_tracked (s : xS) : Option (Int32 × xS) := f_M_tracked_4 1000 (0 : Int32) (0 : Int32) s
def f_M_step_115 (s : xS) : Option (Int32 × xS) := if xbl (s.1 15) = true then some ((s.1 15), s) else none
def f_M_step_72 (s : xS) : Option (Int32 × xS) := if (s.1 15) = 0 then (some ((0 : Int32), s)) else ((f_M_instruction  s).bind fun q3 => if (q3.1 15) = 0 then (some ((0 : Int32), q3)) else (if (q3.1 4) = 0 then (f_M_step_115  (xsc q3 3 ((q3.1 3) + (1 : Int32)))) else ((f_M_checkpoint  (xsc q3 3 ((q3.1 3) + (1 : Int32)))).bind fun q7 => f_M_step_115  q7)))
def f_M_step_68 (s : xS) : Option (Int32 × xS) := (f_M_checkpoint  s).bind fun q9 => f_M_step_72  q9
def f_M_step_32 (y1 : Int32) (s : xS) : Option (Int32 × xS) := (f_M_tracked  (xsc s 17 y1)).bind fun q11 => if (11 : Int32) < q11.1 then (f_M_step_68  q11.2) else (if (q11.2.1 0) = (4 : Int32) then (f_M_step_68  q11.2) else (if (q11.2.1 1) = (4 : Int32) then (f_M_step_68  q11.2) else (if (q11.2.1 2) ≤ (2 : Int32) then (f_M_step_72  q11.2) else (f_M_step_68  q11.2))))
def f_M_step (s : xS) : Option (Int32 × xS) := if (s.1 17) = (1 : Int32) then ((f_M_off  s).bind fun q19 => some ((0 : Int32), q19)) else (if (s.1 17) ≤ 0 then (f_M_step_32 (0 : Int32) s) else (f_M_step_32 ((s.1 17) - (1 : Int32)) s))
def f_M_run_54 (x2 : Int32) (s : xS) : Option (Int32 × xS) := some (x2, s)
def f_M_run_48 (lp : Int32 → Int32 → Int32 → xS → Option (Int32 × xS)) (x1 x2 x3 : Int32) (s : xS) : Option (Int32 × xS) := lp x1 x2 (x3 + (1 : Int32)) s
def f_M_run_25 : Nat → Int32 → Int32 → Int32 → xS → Option (Int32 × xS)
  | 0, _, _, _, _ => none
  | n + 1, x1, x2, x3, s => if x1 ≤ x3 then (f_M_run_54 x2 s) else (if (s.1 14) = (1 : Int32) then ((f_M_step  s).bind fun q3 => if q3.1 = 0 then (f_M_run_48 (f_M_run_25 n) x1 x2 x3 q3.2) else (f_M_run_48 (f_M_run_25 n) x1 (x2 + (1 : Int32)) x3 q3.2)) else (f_M_run_54 x2 s))
def f_M_run_19 (s : xS) : Option (Int32 × xS) := some ((-1 : Int32), s)
def f_M_run (x1 : Int32) (s : xS) : Option (Int32 × xS) := if (s.1 14) = (1 : Int32) then (if x1 < 0 then (f_M_run_19  s) else (if x1 ≤ (200 : Int32) then (f_M_run_25 1000 x1 (0 : Int32) (0 : Int32) s) else (f_M_run_19  s))) else (f_M_run_19  s)
def f_M_boot_58 : Nat → Int32 → xS → Option (Int32 × xS)
  | 0, _, _ => none
  | n + 1, x1, s => if (16 : Int32) ≤ x1 then ((f_M_fresh  s).bind fun q2 => some ((1 : Int32), q2)) else (if xin x1 16 = true then if xin x1 16 = true then if xin x1 16 = true then if xin x1 16 = true then f_M_boot_58 n (x1 + (1 : Int32)) (xsa (xsa s 0 (x1).toNatClampNeg ((s.2 7) (x1).toNatClampNeg)) 1 (x1).toNatClampNeg ((s.2 8) (x1).toNatClampNeg)) else none else none else none else none)
def f_M_boot_53 (y1 : Int32) (s : xS) : Option (Int32 × xS) := f_M_boot_58 1000 (0 : Int32) (xsc s 14 y1)
def f_M_boot_31 (s : xS) : Option (Int32 × xS) := if (s.1 15) = 0 then (some ((0 : Int32), s)) else (if (s.1 8) = 0 then (f_M_boot_53 (1 : Int32) s) else (f_M_boot_53 (3 : Int32) s))
def f_M_boot (s : xS) : Option (Int32 × xS) := if (s.1 14) = (2 : Int32) then (if (s.1 9) = 0 then (f_M_boot_31  (xsc (xsc s 15 (1 : Int32)) 14 (1 : Int32))) else ((f_M_finish  (xsc (xsc s 15 (1 : Int32)) 14 (1 : Int32))).bind fun q12 => f_M_boot_31  q12)) else (some ((0 : Int32), s))
def f_M_load_17 (s : xS) : Option (Int32 × xS) := some ((0 : Int32), s)
def f_M_load (x1 x2 : Int32) (s : xS) : Option (Int32 × xS) := if x1 < 0 then (f_M_load_17  s) else (if (127 : Int32) < x1 then (f_M_load_17  s) else (if (s.1 14) = 0 then (if xin x1 128 = true then some ((1 : Int32), (xsa s 2 (x1).toNatClampNeg (x2 &&& (65535 : Int32)))) else none) else (f_M_load_17  s)))
def f_M_start (x1 : Int32) (s : xS) : Option (Int32 × xS) := if (s.1 14) = 0 then (some ((1 : Int32), (xsc (xsc (xsa (xsa s 0 0 (x1 &&& (65534 : Int32))) 7 0 (((xsa s 0 0 (x1 &&& (65534 : Int32))).2 0) 0)) 15 (1 : Int32)) 14 (1 : Int32)))) else (some ((0 : Int32), s))
def f_M_sample (x1 : Int32) (s : xS) : Option (Int32 × xS) := if (s.1 12) = (16 : Int32) then (some ((0 : Int32), s)) else (if xin (s.1 12) 16 = true then some ((1 : Int32), (xsc (xsa s 13 (s.1 12).toNatClampNeg (x1 &&& (65535 : Int32))) 12 ((s.1 12) + (1 : Int32)))) else none)
def f_M_failWrite_11 (s : xS) : Option (Int32 × xS) := some ((0 : Int32), s)
def f_M_failWrite (x1 : Int32) (s : xS) : Option (Int32 × xS) := if x1 < 0 then (f_M_failWrite_11  s) else (if x1 ≤ (1000 : Int32) then (some ((1 : Int32), (xsc s 16 x1))) else (f_M_failWrite_11  s))
def f_M_failStep_11 (s : xS) : Option (Int32 × xS) := some ((0 : Int32), s)
def f_M_failStep (x1 : Int32) (s : xS) : Option (Int32 × xS) := if x1 < 0 then (f_M_failStep_11  s) else (if x1 ≤ (1000 : Int32) then (some ((1 : Int32), (xsc s 17 x1))) else (f_M_failStep_11  s))
def f_M_state (s : xS) : Option (Int32 × xS) := some ((s.1 14), s)
def f_M_register_28 (y0 : Int32) (s : xS) : Option (Int32 × xS) := some (y0, s)
def f_M_register_18 (s : xS) : Option (Int32 × xS) := f_M_register_28 (0 : Int32) s
def f_M_register (x1 : Int32) (s : xS) : Option (Int32 × xS) := if x1 < 0 then (f_M_register_18  s) else (if (15 : Int32) < x1 then (f_M_register_18  s) else (if (s.1 14) = (2 : Int32) then (f_M_register_18  s) else (if xin x1 16 = true then f_M_register_28 ((s.2 0) (x1).toNatClampNeg) s else none)))
def f_M_memory_50 (y0 : Int32) (s : xS) : Option (Int32 × xS) := some (y0, s)
def f_M_memory_49 (s : xS) : Option (Int32 × xS) := f_M_memory_50 (0 : Int32) s
def f_M_memory (x1 : Int32) (s : xS) : Option (Int32 × xS) := (f_M_inFram x1 ).bind fun q1 => if q1 = 0 then ((f_M_inSram x1 ).bind fun q4 => if q4 = 0 then (f_M_memory_49  s) else (if (s.1 14) = (2 : Int32) then (f_M_memory_49  s) else (if xin ((x1 - (512 : Int32)) / (2 : Int32)) 16 = true then f_M_memory_50 ((s.2 1) ((x1 - (512 : Int32)) / (2 : Int32)).toNatClampNeg) s else none))) else ((f_M_framNow ((x1 - (1024 : Int32)) / (2 : Int32)) s).bind fun q9 => some (q9.1, q9.2))
def f_M_fram_20 (y0 : Int32) (s : xS) : Option (Int32 × xS) := some (y0, s)
def f_M_fram_10 (s : xS) : Option (Int32 × xS) := f_M_fram_20 (0 : Int32) s
def f_M_fram (x1 : Int32) (s : xS) : Option (Int32 × xS) := if x1 < 0 then (f_M_fram_10  s) else (if x1 ≤ (127 : Int32) then (if xin x1 128 = true then f_M_fram_20 ((s.2 2) (x1).toNatClampNeg) s else none) else (f_M_fram_10  s))
def f_M_radio_34 (y0 : Int32) (s : xS) : Option (Int32 × xS) := some (y0, s)
def f_M_radio_24 (s : xS) : Option (Int32 × xS) := f_M_radio_34 (0 : Int32) s
def f_M_radio (x1 : Int32) (s : xS) : Option (Int32 × xS) := if x1 = (-1 : Int32) then (f_M_radio_34 (s.1 13) s) else (if x1 < 0 then (f_M_radio_24  s) else (if x1 < (s.1 13) then (if xin x1 200 = true then f_M_radio_34 ((s.2 14) (x1).toNatClampNeg) s else none) else (f_M_radio_24  s)))
def f_M_waiting (s : xS) : Option (Int32 × xS) := some ((s.1 12), s)
def f_M_writes (s : xS) : Option (Int32 × xS) := some ((s.1 18), s)
def f_M_flips (s : xS) : Option (Int32 × xS) := some ((s.1 19), s)
def f_M_retired (s : xS) : Option (Int32 × xS) := some (((s.1 10) + (s.1 3)), s)
def f_M_section (s : xS) : Option (Int32 × xS) := (f_M_tracked  s).bind fun q1 => some ((((q1.1 + ((32 : Int32) * (q1.2.1 0))) + ((256 : Int32) * (q1.2.1 1))) + ((2048 : Int32) * (q1.2.1 11))), q1.2)
def f_L_law_447 (n0 : Nat) (f0 : Nat → Int32) (lp : Int32 → xS → xS → Option Int32) (x3 : Int32) (s t : xS) : Option Int32 := lp (x3 + (3 : Int32)) s t
def f_L_law_18 (n0 : Nat) (f0 : Nat → Int32) : Nat → Int32 → xS → xS → Option Int32
  | 0, _, _, _ => none
  | n + 1, x3, s, t => if ((Int32.ofNat n0) - (3 : Int32)) < x3 then (some (1 : Int32)) else (if xin x3 n0 = true then if ((f0 (x3).toNatClampNeg) &&& (31 : Int32)) < (0 : Int32) ∨ (16 : Int32) < ((f0 (x3).toNatClampNeg) &&& (31 : Int32)) then (f_L_law_447 n0 f0 (f_L_law_18 n0 f0 n) x3 s t) else if ((f0 (x3).toNatClampNeg) &&& (31 : Int32)) = (0 : Int32) then (if xin (x3 + (1 : Int32)) n0 = true then if xin (x3 + (2 : Int32)) n0 = true then (f_C_load (f0 (x3 + (1 : Int32)).toNatClampNeg) (f0 (x3 + (2 : Int32)).toNatClampNeg) s).bind fun q7 => if xin (x3 + (1 : Int32)) n0 = true then if xin (x3 + (2 : Int32)) n0 = true then (f_M_load (f0 (x3 + (1 : Int32)).toNatClampNeg) (f0 (x3 + (2 : Int32)).toNatClampNeg) t).bind fun q11 => if q7.1 = q11.1 then (f_L_law_447 n0 f0 (f_L_law_18 n0 f0 n) x3 q7.2 q11.2) else (some (0 : Int32)) else none else none else none else none) else if ((f0 (x3).toNatClampNeg) &&& (31 : Int32)) = (1 : Int32) then (if xin (x3 + (1 : Int32)) n0 = true then (f_C_start (f0 (x3 + (1 : Int32)).toNatClampNeg) s).bind fun q16 => if xin (x3 + (1 : Int32)) n0 = true then (f_M_start (f0 (x3 + (1 : Int32)).toNatClampNeg) t).bind fun q19 => if q16.1 = q19.1 then (f_L_law_447 n0 f0 (f_L_law_18 n0 f0 n) x3 q16.2 q19.2) else (some (0 : Int32)) else none else none) else if ((f0 (x3).toNatClampNeg) &&& (31 : Int32)) = (2 : Int32) then (if xin (x3 + (1 : Int32)) n0 = true then (f_C_sample (f0 (x3 + (1 : Int32)).toNatClampNeg) s).bind fun q24 => if xin (x3 + (1 : Int32)) n0 = true then (f_M_sample (f0 (x3 + (1 : Int32)).toNatClampNeg) t).bind fun q27 => if q24.1 = q27.1 then (f_L_law_447 n0 f0 (f_L_law_18 n0 f0 n) x3 q24.2 q27.2) else (some (0 : Int32)) else none else none) else if ((f0 (x3).toNatClampNeg) &&& (31 : Int32)) = (3 : Int32) then (if xin (x3 + (1 : Int32)) n0 = true then (f_C_failWrite (f0 (x3 + (1 : Int32)).toNatClampNeg) s).bind fun q32 => if xin (x3 + (1 : Int32)) n0 = true then (f_M_failWrite (f0 (x3 + (1 : Int32)).toNatClampNeg) t).bind fun q35 => if q32.1 = q35.1 then (f_L_law_447 n0 f0 (f_L_law_18 n0 f0 n) x3 q32.2 q35.2) else (some (0 : Int32)) else none else none) else if ((f0 (x3).toNatClampNeg) &&& (31 : Int32)) = (4 : Int32) then (if xin (x3 + (1 : Int32)) n0 = true then (f_C_failStep (f0 (x3 + (1 : Int32)).toNatClampNeg) s).bind fun q40 => if xin (x3 + (1 : Int32)) n0 = true then (f_M_failStep (f0 (x3 + (1 : Int32)).toNatClampNeg) t).bind fun q43 => if q40.1 = q43.1 then (f_L_law_447 n0 f0 (f_L_law_18 n0 f0 n) x3 q40.2 q43.2) else (some (0 : Int32)) else none else none) else if ((f0 (x3).toNatClampNeg) &&& (31 : Int32)) = (5 : Int32) then (if xin (x3 + (1 : Int32)) n0 = true then (f_C_run (f0 (x3 + (1 : Int32)).toNatClampNeg) s).bind fun q48 => if xin (x3 + (1 : Int32)) n0 = true then (f_M_run (f0 (x3 + (1 : Int32)).toNatClampNeg) t).bind fun q51 => if q48.1 = q51.1 then (f_L_law_447 n0 f0 (f_L_law_18 n0 f0 n) x3 q48.2 q51.2) else (some (0 : Int32)) else none else none) else if ((f0 (x3).toNatClampNeg) &&& (31 : Int32)) = (6 : Int32) then ((f_C_boot  s).bind fun q55 => (f_M_boot  t).bind fun q57 => if q55.1 = q57.1 then (f_L_law_447 n0 f0 (f_L_law_18 n0 f0 n) x3 q55.2 q57.2) else (some (0 : Int32))) else if ((f0 (x3).toNatClampNeg) &&& (31 : Int32)) = (7 : Int32) then ((f_C_state  s).bind fun q61 => (f_M_state  t).bind fun q63 => if q61.1 = q63.1 then (f_L_law_447 n0 f0 (f_L_law_18 n0 f0 n) x3 q61.2 q63.2) else (some (0 : Int32))) else if ((f0 (x3).toNatClampNeg) &&& (31 : Int32)) = (8 : Int32) then (if xin (x3 + (1 : Int32)) n0 = true then (f_C_register (f0 (x3 + (1 : Int32)).toNatClampNeg) s).bind fun q68 => if xin (x3 + (1 : Int32)) n0 = true then (f_M_register (f0 (x3 + (1 : Int32)).toNatClampNeg) t).bind fun q71 => if q68.1 = q71.1 then (f_L_law_447 n0 f0 (f_L_law_18 n0 f0 n) x3 q68.2 q71.2) else (some (0 : Int32)) else none else none) else if ((f0 (x3).toNatClampNeg) &&& (31 : Int32)) = (9 : Int32) then (if xin (x3 + (1 : Int32)) n0 = true then (f_C_memory (f0 (x3 + (1 : Int32)).toNatClampNeg) s).bind fun q76 => if xin (x3 + (1 : Int32)) n0 = true then (f_M_memory (f0 (x3 + (1 : Int32)).toNatClampNeg) t).bind fun q79 => if q76.1 = q79.1 then (f_L_law_447 n0 f0 (f_L_law_18 n0 f0 n) x3 q76.2 q79.2) else (some (0 : Int32)) else none else none) else if ((f0 (x3).toNatClampNeg) &&& (31 : Int32)) = (10 : Int32) then (if xin (x3 + (1 : Int32)) n0 = true then (f_C_fram (f0 (x3 + (1 : Int32)).toNatClampNeg) s).bind fun q84 => if xin (x3 + (1 : Int32)) n0 = true then (f_M_fram (f0 (x3 + (1 : Int32)).toNatClampNeg) t).bind fun q87 => if q84.1 = q87.1 then (f_L_law_447 n0 f0 (f_L_law_18 n0 f0 n) x3 q84.2 q87.2) else (some (0 : Int32)) else none else none) else if ((f0 (x3).toNatClampNeg) &&& (31 : Int32)) = (11 : Int32) then (if xin (x3 + (1 : Int32)) n0 = true then (f_C_radio (f0 (x3 + (1 : Int32)).toNatClampNeg) s).bind fun q92 => if xin (x3 + (1 : Int32)) n0 = true then (f_M_radio (f0 (x3 + (1 : Int32)).toNatClampNeg) t).bind fun q95 => if q92.1 = q95.1 then (f_L_law_447 n0 f0 (f_L_law_18 n0 f0 n) x3 q92.2 q95.2) else (some (0 : Int32)) else none else none) else if ((f0 (x3).toNatClampNeg) &&& (31 : Int32)) = (12 : Int32) then ((f_C_waiting  s).bind fun q99 => (f_M_waiting  t).bind fun q101 => if q99.1 = q101.1 then (f_L_law_447 n0 f0 (f_L_law_18 n0 f0 n) x3 q99.2 q101.2) else (some (0 : Int32))) else if ((f0 (x3).toNatClampNeg) &&& (31 : Int32)) = (13 : Int32) then ((f_C_writes  s).bind fun q105 => (f_M_writes  t).bind fun q107 => if q105.1 = q107.1 then (f_L_law_447 n0 f0 (f_L_law_18 n0 f0 n) x3 q105.2 q107.2) else (some (0 : Int32))) else if ((f0 (x3).toNatClampNeg) &&& (31 : Int32)) = (14 : Int32) then ((f_C_flips  s).bind fun q111 => (f_M_flips  t).bind fun q113 => if q111.1 = q113.1 then (f_L_law_447 n0 f0 (f_L_law_18 n0 f0 n) x3 q111.2 q113.2) else (some (0 : Int32))) else if ((f0 (x3).toNatClampNeg) &&& (31 : Int32)) = (15 : Int32) then ((f_C_retired  s).bind fun q117 => (f_M_retired  t).bind fun q119 => if q117.1 = q119.1 then (f_L_law_447 n0 f0 (f_L_law_18 n0 f0 n) x3 q117.2 q119.2) else (some (0 : Int32))) else if ((f0 (x3).toNatClampNeg) &&& (31 : Int32)) = (16 : Int32) then ((f_C_section  s).bind fun q123 => (f_M_section  t).bind fun q125 => if q123.1 = q125.1 then (f_L_law_447 n0 f0 (f_L_law_18 n0 f0 n) x3 q123.2 q125.2) else (some (0 : Int32))) else none else none)
