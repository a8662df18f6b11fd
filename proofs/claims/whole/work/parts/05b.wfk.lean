def xwfP (k : Nat) : Bool := (xcd k).zipIdx.all (fun q => xwf1 k q.2 q.1)
set_option maxRecDepth 100000 in
theorem xwf_c0 : ([0, 1, 2, 3, 4, 5] : List Nat).all xwfP = true := by decide +kernel
set_option maxRecDepth 100000 in
theorem xwf_c1 : ([6, 7, 8, 9, 10, 11] : List Nat).all xwfP = true := by decide +kernel
set_option maxRecDepth 100000 in
theorem xwf_c2 : ([12, 13, 14, 15, 16, 17] : List Nat).all xwfP = true := by decide +kernel
set_option maxRecDepth 100000 in
theorem xwf_c3 : ([18, 19, 20, 21, 22, 23] : List Nat).all xwfP = true := by decide +kernel
set_option maxRecDepth 100000 in
theorem xwf_c4 : ([24, 25, 26, 27, 28, 29] : List Nat).all xwfP = true := by decide +kernel
set_option maxRecDepth 100000 in
theorem xwf_c5 : ([30, 31, 32, 33, 34, 35] : List Nat).all xwfP = true := by decide +kernel
set_option maxRecDepth 100000 in
theorem xwf_c6 : ([36, 37, 38, 39, 40, 41] : List Nat).all xwfP = true := by decide +kernel
set_option maxRecDepth 100000 in
theorem xwf_c7 : ([42, 43, 44, 45, 46, 47] : List Nat).all xwfP = true := by decide +kernel
set_option maxRecDepth 100000 in
theorem xwf_c8 : ([48, 49, 50, 51, 52, 53] : List Nat).all xwfP = true := by decide +kernel
set_option maxRecDepth 100000 in
theorem xwf_c9 : ([54, 55, 56, 57, 58, 59] : List Nat).all xwfP = true := by decide +kernel
set_option maxRecDepth 100000 in
theorem xwf_c10 : ([60, 61, 62, 63, 64, 65] : List Nat).all xwfP = true := by decide +kernel
set_option maxRecDepth 100000 in
theorem xwf_c11 : ([66, 67, 68, 69, 70, 71] : List Nat).all xwfP = true := by decide +kernel
set_option maxRecDepth 100000 in
theorem xwf_c12 : ([72, 73, 74, 75, 76, 77] : List Nat).all xwfP = true := by decide +kernel
set_option maxRecDepth 100000 in
theorem xwf_c13 : ([78, 79, 80, 81, 82, 83] : List Nat).all xwfP = true := by decide +kernel
set_option maxRecDepth 100000 in
theorem xwf_c14 : ([84, 85, 86, 87, 88, 89] : List Nat).all xwfP = true := by decide +kernel
set_option maxRecDepth 100000 in
theorem xwf_c15 : ([90, 91, 92, 93, 94, 95] : List Nat).all xwfP = true := by decide +kernel
set_option maxRecDepth 100000 in
theorem xwf_c16 : ([96, 97, 98, 99, 100, 101] : List Nat).all xwfP = true := by decide +kernel
set_option maxRecDepth 100000 in
theorem xwf_c17 : ([102, 103, 104, 105, 106, 107] : List Nat).all xwfP = true := by decide +kernel
set_option maxRecDepth 100000 in
theorem xwf_c18 : ([108, 109, 110, 111, 112, 113] : List Nat).all xwfP = true := by decide +kernel
set_option maxRecDepth 100000 in
theorem xwf_c19 : ([114, 115, 116, 117, 118, 119] : List Nat).all xwfP = true := by decide +kernel
set_option maxRecDepth 100000 in
theorem xwf_c20 : ([120, 121, 122, 123, 124, 125] : List Nat).all xwfP = true := by decide +kernel
set_option maxRecDepth 100000 in
theorem xwf_c21 : ([126, 127, 128, 129, 130, 131] : List Nat).all xwfP = true := by decide +kernel
set_option maxRecDepth 100000 in
theorem xwf_c22 : ([132, 133, 134, 135, 136, 137] : List Nat).all xwfP = true := by decide +kernel
set_option maxRecDepth 100000 in
theorem xwf_c23 : ([138, 139, 140, 141, 142, 143] : List Nat).all xwfP = true := by decide +kernel
set_option maxRecDepth 100000 in
theorem xwf_c24 : ([144, 145, 146, 147, 148] : List Nat).all xwfP = true := by decide +kernel
theorem xwf_all : (([0, 1, 2, 3, 4, 5] : List Nat) ++ (([6, 7, 8, 9, 10, 11] : List Nat) ++ (([12, 13, 14, 15, 16, 17] : List Nat) ++ (([18, 19, 20, 21, 22, 23] : List Nat) ++ (([24, 25, 26, 27, 28, 29] : List Nat) ++ (([30, 31, 32, 33, 34, 35] : List Nat) ++ (([36, 37, 38, 39, 40, 41] : List Nat) ++ (([42, 43, 44, 45, 46, 47] : List Nat) ++ (([48, 49, 50, 51, 52, 53] : List Nat) ++ (([54, 55, 56, 57, 58, 59] : List Nat) ++ (([60, 61, 62, 63, 64, 65] : List Nat) ++ (([66, 67, 68, 69, 70, 71] : List Nat) ++ (([72, 73, 74, 75, 76, 77] : List Nat) ++ (([78, 79, 80, 81, 82, 83] : List Nat) ++ (([84, 85, 86, 87, 88, 89] : List Nat) ++ (([90, 91, 92, 93, 94, 95] : List Nat) ++ (([96, 97, 98, 99, 100, 101] : List Nat) ++ (([102, 103, 104, 105, 106, 107] : List Nat) ++ (([108, 109, 110, 111, 112, 113] : List Nat) ++ (([114, 115, 116, 117, 118, 119] : List Nat) ++ (([120, 121, 122, 123, 124, 125] : List Nat) ++ (([126, 127, 128, 129, 130, 131] : List Nat) ++ (([132, 133, 134, 135, 136, 137] : List Nat) ++ (([138, 139, 140, 141, 142, 143] : List Nat) ++ (([144, 145, 146, 147, 148] : List Nat)))))))))))))))))))))))))).all xwfP = true := by
  simp only [List.all_append, xwf_c0, xwf_c1, xwf_c2, xwf_c3, xwf_c4, xwf_c5, xwf_c6, xwf_c7, xwf_c8, xwf_c9, xwf_c10, xwf_c11, xwf_c12, xwf_c13, xwf_c14, xwf_c15, xwf_c16, xwf_c17, xwf_c18, xwf_c19, xwf_c20, xwf_c21, xwf_c22, xwf_c23, xwf_c24, Bool.and_self]
set_option maxRecDepth 100000 in
theorem xwf {k : Nat} (hk : k < xN) : xwfP k = true := by
  refine List.all_eq_true.mp xwf_all k ?_
  have h : k ∈ List.range xN := List.mem_range.mpr hk
  exact h
