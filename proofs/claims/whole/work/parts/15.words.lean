def xtb : Nat → List Cond
  | 0 => k2_sels lw_privs
  | 1 => tables_1_1
  | 2 => tables_1_2
  | 3 => tables_1_3
  | 4 => tables_1_4
  | _ => tables_1_5
theorem xtb_in : ∀ (j : Nat), ∀ w ∈ xtb j, w ∈ lw_tbl
  | 0 => fun w h => List.mem_append_left _ h
  | 1 => fun w h => List.mem_append_right _ (List.mem_append_left _ h)
  | 2 => fun w h => List.mem_append_right _ (List.mem_append_right _ (List.mem_append_left _ h))
  | 3 => fun w h => List.mem_append_right _ (List.mem_append_right _ (List.mem_append_right _ (List.mem_append_left _ h)))
  | 4 => fun w h => List.mem_append_right _ (List.mem_append_right _ (List.mem_append_right _ (List.mem_append_right _ (List.mem_append_left _ h))))
  | _ + 5 => fun w h => List.mem_append_right _ (List.mem_append_right _ (List.mem_append_right _ (List.mem_append_right _ (List.mem_append_right _ h))))
def xat2 : List Cond → List (Nat × Nat) → Prop
  | [], [] => True
  | w :: ws, q :: is => xnth (xtb q.1) q.2 = some w ∧ xat2 ws is
  | _, _ => False
theorem xat2_ok : ∀ (ws : List Cond) (is : List (Nat × Nat)), xat2 ws is → ∀ w ∈ ws, w ∈ lw_tbl
  | [], [], _ => fun w h => absurd h List.not_mem_nil
  | v :: ws, q :: is, h => by
    intro w hw
    rcases List.mem_cons.mp hw with z | z
    · rw [z]
      have h1 := h.1
      rw [xnth_eq] at h1
      exact xtb_in q.1 v (List.mem_of_getElem? h1)
    · exact xat2_ok ws is h.2 w z
  | [], _ :: _, h => h.elim
  | _ :: _, [], h => h.elim
set_option maxRecDepth 100000 in
set_option maxHeartbeats 4000000 in
theorem xa_lays : xat2 (xlays) [(2, 41), (2, 43), (2, 45), (2, 47), (2, 49), (2, 51), (2, 53), (2, 55), (1, 35), (1, 37), (1, 39), (1, 63), (1, 65), (1, 67), (1, 69), (1, 71), (1, 84), (1, 86), (1, 88), (1, 118), (1, 120), (1, 122), (1, 124), (1, 126), (1, 141), (1, 143), (1, 145), (1, 147), (1, 149), (1, 165), (1, 167), (1, 169), (1, 171), (1, 173), (1, 175), (1, 192), (1, 194), (1, 196), (1, 198), (1, 200), (1, 202), (1, 204), (1, 234), (1, 236), (1, 238), (2, 0), (2, 2), (2, 4), (2, 6), (2, 18), (2, 20), (2, 22), (2, 24), (2, 26), (2, 28), (2, 30), (3, 228), (3, 230), (3, 232), (3, 234), (3, 236), (3, 238), (4, 0), (4, 2), (4, 4), (4, 6), (4, 8), (4, 10), (4, 12), (4, 14), (4, 16), (4, 18), (4, 20), (4, 22), (4, 24), (4, 26), (4, 28), (4, 30), (4, 32), (4, 34), (4, 36), (4, 38), (4, 40), (4, 42), (4, 44), (4, 46), (4, 48), (4, 50), (4, 52), (4, 54), (4, 56), (4, 58), (4, 60)] := ⟨rfl, rfl, rfl, rfl, rfl, rfl, rfl, rfl, rfl, rfl, rfl, rfl, rfl, rfl, rfl, rfl, rfl, rfl, rfl, rfl, rfl, rfl, rfl, rfl, rfl, rfl, rfl, rfl, rfl, rfl, rfl, rfl, rfl, rfl, rfl, rfl, rfl, rfl, rfl, rfl, rfl, rfl, rfl, rfl, rfl, rfl, rfl, rfl, rfl, rfl, rfl, rfl, rfl, rfl, rfl, rfl, rfl, rfl, rfl, rfl, rfl, rfl, rfl, rfl, rfl, rfl, rfl, rfl, rfl, rfl, rfl, rfl, rfl, rfl, rfl, rfl, rfl, rfl, rfl, rfl, rfl, rfl, rfl, rfl, rfl, rfl, rfl, rfl, rfl, rfl, rfl, rfl, rfl, trivial⟩
set_option maxRecDepth 100000 in
set_option maxHeartbeats 4000000 in
theorem xa_codes : xat2 (xcodes) [(1, 19), (2, 61), (2, 69), (2, 81), (2, 89), (2, 97), (2, 101), (3, 139), (3, 147), (3, 151), (3, 155), (3, 160), (3, 164), (3, 168), (3, 172), (3, 176), (3, 180), (3, 184), (2, 64), (2, 105), (3, 125), (3, 133), (1, 27), (2, 93), (2, 109), (1, 47), (3, 89), (3, 0), (3, 4), (2, 144), (2, 148), (1, 78), (2, 85), (2, 234), (1, 101), (2, 163), (2, 127), (2, 195), (3, 78), (3, 93), (1, 95), (2, 156), (2, 113), (2, 191), (3, 74), (1, 156), (3, 129), (2, 175), (2, 225), (3, 58), (3, 62), (2, 230), (3, 70), (3, 85), (3, 65), (2, 181), (2, 178), (2, 184), (2, 187), (1, 182), (2, 167), (2, 205), (3, 109), (3, 97), (3, 101), (3, 17), (3, 121), (3, 21), (3, 42), (3, 46), (3, 34), (3, 50), (3, 54), (2, 209), (3, 13), (2, 213), (2, 217), (2, 221), (2, 171), (3, 117), (3, 113), (2, 199), (3, 105), (3, 38), (3, 9), (3, 29), (3, 25), (1, 217), (1, 211), (2, 74), (2, 117), (3, 143), (2, 122), (2, 132), (2, 136), (2, 140), (2, 152), (3, 189), (4, 74), (4, 78), (4, 90), (4, 86), (4, 94), (4, 116), (4, 109), (4, 113), (4, 106), (4, 138), (4, 134), (4, 181), (4, 178), (4, 185), (4, 102), (4, 174), (4, 146), (4, 130), (4, 125), (4, 170), (4, 157), (4, 149), (4, 98), (4, 189), (4, 121), (4, 153), (4, 142), (4, 162), (4, 166), (4, 193), (4, 82), (4, 70), (4, 66), (4, 198), (4, 202), (4, 206), (4, 210), (4, 214), (4, 218), (4, 222), (4, 226), (4, 230), (4, 234), (4, 238), (5, 2), (5, 6), (5, 10), (5, 14), (5, 18), (2, 159)] := ⟨rfl, rfl, rfl, rfl, rfl, rfl, rfl, rfl, rfl, rfl, rfl, rfl, rfl, rfl, rfl, rfl, rfl, rfl, rfl, rfl, rfl, rfl, rfl, rfl, rfl, rfl, rfl, rfl, rfl, rfl, rfl, rfl, rfl, rfl, rfl, rfl, rfl, rfl, rfl, rfl, rfl, rfl, rfl, rfl, rfl, rfl, rfl, rfl, rfl, rfl, rfl, rfl, rfl, rfl, rfl, rfl, rfl, rfl, rfl, rfl, rfl, rfl, rfl, rfl, rfl, rfl, rfl, rfl, rfl, rfl, rfl, rfl, rfl, rfl, rfl, rfl, rfl, rfl, rfl, rfl, rfl, rfl, rfl, rfl, rfl, rfl, rfl, rfl, rfl, rfl, rfl, rfl, rfl, rfl, rfl, rfl, rfl, rfl, rfl, rfl, rfl, rfl, rfl, rfl, rfl, rfl, rfl, rfl, rfl, rfl, rfl, rfl, rfl, rfl, rfl, rfl, rfl, rfl, rfl, rfl, rfl, rfl, rfl, rfl, rfl, rfl, rfl, rfl, rfl, rfl, rfl, rfl, rfl, rfl, rfl, rfl, rfl, rfl, rfl, rfl, rfl, rfl, rfl, rfl, rfl, rfl, rfl, rfl, trivial⟩
set_option maxRecDepth 100000 in
set_option maxHeartbeats 4000000 in
theorem xa_0 : xat2 (cd_0.flatMap (xword 0)) [(1, 20), (1, 21), (1, 22), (1, 23), (1, 24), (1, 2), (1, 26), (1, 2), (2, 33), (1, 43), (1, 44), (1, 3), (1, 46), (1, 3), (2, 34), (1, 74), (1, 75), (1, 4), (1, 77), (1, 4), (2, 35), (1, 91), (1, 92), (1, 5), (1, 94), (1, 5), (2, 36), (1, 152), (1, 153), (1, 7), (2, 33), (2, 34), (2, 35), (2, 36), (1, 154), (1, 155), (1, 7), (2, 37), (1, 178), (1, 179), (1, 8), (2, 37), (1, 180), (1, 181), (1, 8), (2, 38), (1, 207), (1, 208), (1, 9), (2, 33), (2, 34), (2, 36), (2, 38), (1, 185), (2, 37), (1, 159), (1, 209), (1, 210), (1, 9), (2, 39), (2, 40)] := ⟨rfl, rfl, rfl, rfl, rfl, rfl, rfl, rfl, rfl, rfl, rfl, rfl, rfl, rfl, rfl, rfl, rfl, rfl, rfl, rfl, rfl, rfl, rfl, rfl, rfl, rfl, rfl, rfl, rfl, rfl, rfl, rfl, rfl, rfl, rfl, rfl, rfl, rfl, rfl, rfl, rfl, rfl, rfl, rfl, rfl, rfl, rfl, rfl, rfl, rfl, rfl, rfl, rfl, rfl, rfl, rfl, rfl, rfl, rfl, rfl, rfl, trivial⟩
set_option maxRecDepth 100000 in
set_option maxHeartbeats 4000000 in
theorem xa_1 : xat2 (cd_1.flatMap (xword 1)) [(2, 40), (2, 62), (2, 63), (1, 1), (2, 34), (1, 50), (2, 65)] := ⟨rfl, rfl, rfl, rfl, rfl, rfl, rfl, trivial⟩
set_option maxRecDepth 100000 in
set_option maxHeartbeats 4000000 in
theorem xa_2 : xat2 (cd_2.flatMap (xword 2)) [(2, 40), (2, 38), (1, 185), (2, 70), (2, 39), (2, 71), (2, 72), (2, 73), (1, 9), (2, 33), (1, 30), (2, 40)] := ⟨rfl, rfl, rfl, rfl, rfl, rfl, rfl, rfl, rfl, rfl, rfl, rfl, trivial⟩
set_option maxRecDepth 100000 in
set_option maxHeartbeats 4000000 in
theorem xa_3 : xat2 (cd_3.flatMap (xword 3)) [(2, 35), (2, 65), (2, 82), (2, 83), (2, 84), (1, 4)] := ⟨rfl, rfl, rfl, rfl, rfl, rfl, trivial⟩
set_option maxRecDepth 100000 in
set_option maxHeartbeats 4000000 in
theorem xa_4 : xat2 (cd_4.flatMap (xword 4)) [(2, 33), (2, 90), (2, 91), (2, 92), (1, 2)] := ⟨rfl, rfl, rfl, rfl, rfl, trivial⟩
set_option maxRecDepth 100000 in
set_option maxHeartbeats 4000000 in
theorem xa_5 : xat2 (cd_5.flatMap (xword 5)) [(2, 33), (2, 90), (2, 91), (2, 92), (1, 2)] := ⟨rfl, rfl, rfl, rfl, rfl, trivial⟩
set_option maxRecDepth 100000 in
set_option maxHeartbeats 4000000 in
theorem xa_6 : xat2 (cd_6.flatMap (xword 6)) [(2, 40), (2, 40), (2, 102), (2, 104), (0, 0), (1, 1), (2, 38), (2, 164), (2, 165), (2, 166), (1, 8), (3, 122), (3, 124), (0, 35), (1, 1)] := ⟨rfl, rfl, rfl, rfl, rfl, rfl, rfl, rfl, rfl, rfl, rfl, rfl, rfl, rfl, rfl, trivial⟩
set_option maxRecDepth 100000 in
set_option maxHeartbeats 4000000 in
theorem xa_7 : xat2 (cd_7.flatMap (xword 7)) [(2, 40), (2, 33), (1, 30), (2, 39), (3, 140), (3, 141), (3, 142), (1, 9), (2, 39), (2, 10), (1, 231), (2, 40)] := ⟨rfl, rfl, rfl, rfl, rfl, rfl, rfl, rfl, rfl, rfl, rfl, rfl, trivial⟩
set_option maxRecDepth 100000 in
set_option maxHeartbeats 4000000 in
theorem xa_8 : xat2 (cd_8.flatMap (xword 8)) [(2, 40)] := ⟨rfl, trivial⟩
set_option maxRecDepth 100000 in
set_option maxHeartbeats 4000000 in
theorem xa_9 : xat2 (cd_9.flatMap (xword 9)) [(2, 38), (1, 185)] := ⟨rfl, rfl, trivial⟩
set_option maxRecDepth 100000 in
set_option maxHeartbeats 4000000 in
theorem xa_10 : xat2 (cd_10.flatMap (xword 10)) [(2, 37), (3, 156), (3, 60), (3, 61), (1, 7)] := ⟨rfl, rfl, rfl, rfl, rfl, trivial⟩
set_option maxRecDepth 100000 in
set_option maxHeartbeats 4000000 in
theorem xa_11 : xat2 (cd_11.flatMap (xword 11)) [(2, 62), (2, 63), (1, 1), (2, 34), (1, 50)] := ⟨rfl, rfl, rfl, rfl, rfl, trivial⟩
set_option maxRecDepth 100000 in
set_option maxHeartbeats 4000000 in
theorem xa_12 : xat2 (cd_12.flatMap (xword 12)) [(2, 34), (1, 62), (2, 34), (1, 62), (2, 34), (1, 56)] := ⟨rfl, rfl, rfl, rfl, rfl, rfl, trivial⟩
set_option maxRecDepth 100000 in
set_option maxHeartbeats 4000000 in
theorem xa_13 : xat2 (cd_13.flatMap (xword 13)) [(2, 35), (1, 83)] := ⟨rfl, rfl, trivial⟩
set_option maxRecDepth 100000 in
set_option maxHeartbeats 4000000 in
theorem xa_14 : xat2 (cd_14.flatMap (xword 14)) [(2, 33), (1, 33)] := ⟨rfl, rfl, trivial⟩
set_option maxRecDepth 100000 in
set_option maxHeartbeats 4000000 in
theorem xa_15 : xat2 (cd_15.flatMap (xword 15)) [(2, 39), (2, 12)] := ⟨rfl, rfl, trivial⟩
set_option maxRecDepth 100000 in
set_option maxHeartbeats 4000000 in
theorem xa_16 : xat2 (cd_16.flatMap (xword 16)) [(2, 39), (2, 10), (1, 228), (2, 36), (1, 140)] := ⟨rfl, rfl, rfl, rfl, rfl, trivial⟩
set_option maxRecDepth 100000 in
set_option maxHeartbeats 4000000 in
theorem xa_17 : xat2 (cd_17.flatMap (xword 17)) [(2, 36), (1, 135), (2, 36), (1, 133), (1, 112), (2, 36), (1, 133), (1, 117), (2, 34), (1, 60)] := ⟨rfl, rfl, rfl, rfl, rfl, rfl, rfl, rfl, rfl, rfl, trivial⟩
set_option maxRecDepth 100000 in
set_option maxHeartbeats 4000000 in
theorem xa_18 : xat2 (cd_18.flatMap (xword 18)) [] := trivial
set_option maxRecDepth 100000 in
set_option maxHeartbeats 4000000 in
theorem xa_19 : xat2 (cd_19.flatMap (xword 19)) [(2, 33), (2, 106), (2, 107), (2, 108), (1, 2), (2, 36), (2, 110), (2, 111), (2, 112), (1, 5), (2, 39), (2, 114), (2, 115), (2, 116), (1, 9)] := ⟨rfl, rfl, rfl, rfl, rfl, rfl, rfl, rfl, rfl, rfl, rfl, rfl, rfl, rfl, rfl, trivial⟩
set_option maxRecDepth 100000 in
set_option maxHeartbeats 4000000 in
theorem xa_20 : xat2 (cd_20.flatMap (xword 20)) [(2, 37), (3, 126), (3, 127), (3, 128), (1, 7), (2, 33), (1, 30), (2, 36), (1, 140), (1, 140), (2, 39), (2, 114), (2, 115), (2, 116), (1, 9), (2, 40), (2, 33), (1, 30), (3, 130), (3, 132), (0, 36), (1, 1), (2, 33), (1, 30)] := ⟨rfl, rfl, rfl, rfl, rfl, rfl, rfl, rfl, rfl, rfl, rfl, rfl, rfl, rfl, rfl, rfl, rfl, rfl, rfl, rfl, rfl, rfl, rfl, rfl, trivial⟩
set_option maxRecDepth 100000 in
set_option maxHeartbeats 4000000 in
theorem xa_21 : xat2 (cd_21.flatMap (xword 21)) [(2, 38), (1, 185), (3, 134), (2, 158), (1, 13), (2, 37), (1, 159), (3, 134), (2, 158), (1, 13), (2, 36), (3, 135), (2, 154), (2, 155), (1, 5), (2, 40)] := ⟨rfl, rfl, rfl, rfl, rfl, rfl, rfl, rfl, rfl, rfl, rfl, rfl, rfl, rfl, rfl, rfl, trivial⟩
set_option maxRecDepth 100000 in
set_option maxHeartbeats 4000000 in
theorem xa_22 : xat2 (cd_22.flatMap (xword 22)) [(1, 28), (1, 21), (1, 22), (1, 42), (1, 34)] := ⟨rfl, rfl, rfl, rfl, rfl, trivial⟩
set_option maxRecDepth 100000 in
set_option maxHeartbeats 4000000 in
theorem xa_23 : xat2 (cd_23.flatMap (xword 23)) [(1, 34)] := ⟨rfl, trivial⟩
set_option maxRecDepth 100000 in
set_option maxHeartbeats 4000000 in
theorem xa_24 : xat2 (cd_24.flatMap (xword 24)) [(1, 29), (1, 34), (1, 29), (1, 34), (1, 34), (1, 29), (1, 34), (1, 34), (1, 32), (1, 32)] := ⟨rfl, rfl, rfl, rfl, rfl, rfl, rfl, rfl, rfl, rfl, trivial⟩
set_option maxRecDepth 100000 in
set_option maxHeartbeats 4000000 in
theorem xa_25 : xat2 (cd_25.flatMap (xword 25)) [(1, 48), (1, 21), (1, 22), (1, 42), (1, 49), (1, 42), (1, 53), (1, 42), (1, 55)] := ⟨rfl, rfl, rfl, rfl, rfl, rfl, rfl, rfl, rfl, trivial⟩
set_option maxRecDepth 100000 in
set_option maxHeartbeats 4000000 in
theorem xa_26 : xat2 (cd_26.flatMap (xword 26)) [(1, 61)] := ⟨rfl, trivial⟩
set_option maxRecDepth 100000 in
set_option maxHeartbeats 4000000 in
theorem xa_27 : xat2 (cd_27.flatMap (xword 27)) [(1, 57), (1, 53), (1, 57)] := ⟨rfl, rfl, rfl, trivial⟩
set_option maxRecDepth 100000 in
set_option maxHeartbeats 4000000 in
theorem xa_28 : xat2 (cd_28.flatMap (xword 28)) [(1, 57), (1, 57), (1, 57)] := ⟨rfl, rfl, rfl, trivial⟩
set_option maxRecDepth 100000 in
set_option maxHeartbeats 4000000 in
theorem xa_29 : xat2 (cd_29.flatMap (xword 29)) [(1, 61), (1, 55), (1, 61)] := ⟨rfl, rfl, rfl, trivial⟩
set_option maxRecDepth 100000 in
set_option maxHeartbeats 4000000 in
theorem xa_30 : xat2 (cd_30.flatMap (xword 30)) [(1, 61), (1, 61), (1, 61)] := ⟨rfl, rfl, rfl, trivial⟩
set_option maxRecDepth 100000 in
set_option maxHeartbeats 4000000 in
theorem xa_31 : xat2 (cd_31.flatMap (xword 31)) [(1, 79), (1, 21), (1, 22), (1, 42), (1, 80)] := ⟨rfl, rfl, rfl, rfl, rfl, trivial⟩
set_option maxRecDepth 100000 in
set_option maxHeartbeats 4000000 in
theorem xa_32 : xat2 (cd_32.flatMap (xword 32)) [(1, 82), (1, 80), (1, 81), (1, 82), (1, 82), (1, 82)] := ⟨rfl, rfl, rfl, rfl, rfl, rfl, trivial⟩
set_option maxRecDepth 100000 in
set_option maxHeartbeats 4000000 in
theorem xa_33 : xat2 (cd_33.flatMap (xword 33)) [(1, 82), (2, 235), (1, 80), (1, 81), (1, 81), (1, 81), (1, 82), (1, 82)] := ⟨rfl, rfl, rfl, rfl, rfl, rfl, rfl, rfl, trivial⟩
set_option maxRecDepth 100000 in
set_option maxHeartbeats 4000000 in
theorem xa_34 : xat2 (cd_34.flatMap (xword 34)) [(1, 102), (1, 21), (1, 22), (1, 42), (1, 103), (1, 42), (1, 105), (1, 42), (1, 107)] := ⟨rfl, rfl, rfl, rfl, rfl, rfl, rfl, rfl, rfl, trivial⟩
set_option maxRecDepth 100000 in
set_option maxHeartbeats 4000000 in
theorem xa_35 : xat2 (cd_35.flatMap (xword 35)) [(1, 109), (1, 113)] := ⟨rfl, rfl, trivial⟩
set_option maxRecDepth 100000 in
set_option maxHeartbeats 4000000 in
theorem xa_36 : xat2 (cd_36.flatMap (xword 36)) [(1, 103), (1, 103), (2, 128), (2, 77), (2, 76), (1, 12), (1, 105), (1, 105), (2, 128), (2, 77), (2, 76), (1, 12), (1, 107), (1, 107), (2, 128), (2, 77), (2, 76), (1, 12), (1, 109), (1, 109), (1, 113), (1, 113)] := ⟨rfl, rfl, rfl, rfl, rfl, rfl, rfl, rfl, rfl, rfl, rfl, rfl, rfl, rfl, rfl, rfl, rfl, rfl, rfl, rfl, rfl, rfl, trivial⟩
set_option maxRecDepth 100000 in
set_option maxHeartbeats 4000000 in
theorem xa_37 : xat2 (cd_37.flatMap (xword 37)) [(1, 109), (1, 103), (1, 105)] := ⟨rfl, rfl, rfl, trivial⟩
set_option maxRecDepth 100000 in
set_option maxHeartbeats 4000000 in
theorem xa_38 : xat2 (cd_38.flatMap (xword 38)) [(1, 109), (1, 103), (1, 103), (1, 105), (1, 109), (3, 79), (3, 80), (1, 14), (3, 81), (1, 109)] := ⟨rfl, rfl, rfl, rfl, rfl, rfl, rfl, rfl, rfl, rfl, trivial⟩
set_option maxRecDepth 100000 in
set_option maxHeartbeats 4000000 in
theorem xa_39 : xat2 (cd_39.flatMap (xword 39)) [(1, 113), (1, 107), (1, 113), (1, 113), (1, 113)] := ⟨rfl, rfl, rfl, rfl, rfl, trivial⟩
set_option maxRecDepth 100000 in
set_option maxHeartbeats 4000000 in
theorem xa_40 : xat2 (cd_40.flatMap (xword 40)) [(1, 96), (1, 21), (1, 22), (1, 42), (1, 129), (1, 97), (1, 98), (1, 6), (1, 100), (1, 6), (1, 130)] := ⟨rfl, rfl, rfl, rfl, rfl, rfl, rfl, rfl, rfl, rfl, rfl, trivial⟩
set_option maxRecDepth 100000 in
set_option maxHeartbeats 4000000 in
theorem xa_41 : xat2 (cd_41.flatMap (xword 41)) [(1, 129), (2, 157), (2, 158), (1, 13), (1, 130), (2, 160), (2, 161), (2, 162), (1, 6), (1, 134), (1, 136), (1, 138)] := ⟨rfl, rfl, rfl, rfl, rfl, rfl, rfl, rfl, rfl, rfl, rfl, rfl, trivial⟩
set_option maxRecDepth 100000 in
set_option maxHeartbeats 4000000 in
theorem xa_42 : xat2 (cd_42.flatMap (xword 42)) [(1, 134), (1, 130), (1, 111), (1, 130), (1, 115), (1, 136)] := ⟨rfl, rfl, rfl, rfl, rfl, rfl, trivial⟩
set_option maxRecDepth 100000 in
set_option maxHeartbeats 4000000 in
theorem xa_43 : xat2 (cd_43.flatMap (xword 43)) [(1, 129), (1, 129), (1, 134), (1, 134)] := ⟨rfl, rfl, rfl, rfl, trivial⟩
set_option maxRecDepth 100000 in
set_option maxHeartbeats 4000000 in
theorem xa_44 : xat2 (cd_44.flatMap (xword 44)) [(1, 129), (1, 129), (1, 134), (1, 134), (1, 129)] := ⟨rfl, rfl, rfl, rfl, rfl, trivial⟩
set_option maxRecDepth 100000 in
set_option maxHeartbeats 4000000 in
theorem xa_45 : xat2 (cd_45.flatMap (xword 45)) [(1, 157), (1, 21), (1, 22), (1, 42), (1, 158), (1, 160), (1, 161), (1, 162), (1, 163)] := ⟨rfl, rfl, rfl, rfl, rfl, rfl, rfl, rfl, rfl, trivial⟩
set_option maxRecDepth 100000 in
set_option maxHeartbeats 4000000 in
theorem xa_46 : xat2 (cd_46.flatMap (xword 46)) [(1, 164), (1, 164)] := ⟨rfl, rfl, trivial⟩
set_option maxRecDepth 100000 in
set_option maxHeartbeats 4000000 in
theorem xa_47 : xat2 (cd_47.flatMap (xword 47)) [(2, 176), (2, 177), (1, 7), (2, 179), (2, 180), (1, 7), (1, 158), (2, 182), (2, 183), (1, 7), (2, 185), (2, 186), (1, 7), (1, 163), (2, 188), (2, 189), (2, 190), (1, 5), (1, 163), (1, 132), (1, 161), (1, 51), (2, 192), (2, 193), (2, 194), (1, 6)] := ⟨rfl, rfl, rfl, rfl, rfl, rfl, rfl, rfl, rfl, rfl, rfl, rfl, rfl, rfl, rfl, rfl, rfl, rfl, rfl, rfl, rfl, rfl, rfl, rfl, rfl, rfl, trivial⟩
set_option maxRecDepth 100000 in
set_option maxHeartbeats 4000000 in
theorem xa_48 : xat2 (cd_48.flatMap (xword 48)) [(2, 226), (2, 227), (2, 229), (0, 13), (1, 7), (3, 5), (2, 173), (2, 174), (1, 7)] := ⟨rfl, rfl, rfl, rfl, rfl, rfl, rfl, rfl, rfl, trivial⟩
set_option maxRecDepth 100000 in
set_option maxHeartbeats 4000000 in
theorem xa_49 : xat2 (cd_49.flatMap (xword 49)) [(3, 59), (3, 60), (3, 61), (1, 7), (3, 63), (3, 64), (1, 7), (2, 179), (2, 180), (1, 7), (1, 158), (2, 182), (2, 183), (1, 7), (2, 176), (2, 177), (1, 7), (1, 163), (2, 185), (2, 186), (1, 7), (2, 188), (2, 189), (2, 190), (1, 5), (2, 185), (2, 186), (1, 7), (3, 67), (3, 69), (0, 26), (1, 7), (2, 226), (3, 82), (3, 84), (0, 27), (1, 7)] := ⟨rfl, rfl, rfl, rfl, rfl, rfl, rfl, rfl, rfl, rfl, rfl, rfl, rfl, rfl, rfl, rfl, rfl, rfl, rfl, rfl, rfl, rfl, rfl, rfl, rfl, rfl, rfl, rfl, rfl, rfl, rfl, rfl, rfl, rfl, rfl, rfl, rfl, trivial⟩
set_option maxRecDepth 100000 in
set_option maxHeartbeats 4000000 in
theorem xa_50 : xat2 (cd_50.flatMap (xword 50)) [(2, 176), (2, 177), (1, 7), (2, 179), (2, 180), (1, 7), (1, 158), (2, 182), (2, 183), (1, 7), (2, 185), (2, 186), (1, 7), (1, 163), (1, 132), (1, 161), (1, 51), (2, 192), (2, 193), (2, 194), (1, 6)] := ⟨rfl, rfl, rfl, rfl, rfl, rfl, rfl, rfl, rfl, rfl, rfl, rfl, rfl, rfl, rfl, rfl, rfl, rfl, rfl, rfl, rfl, trivial⟩
set_option maxRecDepth 100000 in
set_option maxHeartbeats 4000000 in
theorem xa_51 : xat2 (cd_51.flatMap (xword 51)) [(1, 163), (1, 137), (1, 163), (1, 137), (1, 137), (1, 161), (1, 58), (1, 161), (1, 54), (1, 161), (1, 54), (1, 160), (1, 31), (1, 162), (2, 231), (2, 232), (2, 233), (1, 4), (1, 160), (2, 236), (2, 107), (2, 108), (1, 2), (1, 161), (2, 237), (2, 238), (2, 239), (1, 3), (1, 160), (2, 236), (2, 107), (2, 108), (1, 2), (1, 161), (3, 1), (3, 2), (3, 3), (1, 3)] := ⟨rfl, rfl, rfl, rfl, rfl, rfl, rfl, rfl, rfl, rfl, rfl, rfl, rfl, rfl, rfl, rfl, rfl, rfl, rfl, rfl, rfl, rfl, rfl, rfl, rfl, rfl, rfl, rfl, rfl, rfl, rfl, rfl, rfl, rfl, rfl, rfl, rfl, rfl, trivial⟩
set_option maxRecDepth 100000 in
set_option maxHeartbeats 4000000 in
theorem xa_52 : xat2 (cd_52.flatMap (xword 52)) [(1, 163), (3, 71), (3, 72), (3, 73), (1, 5), (1, 163), (1, 132), (3, 75), (3, 76), (3, 77), (1, 6), (1, 160), (2, 236), (2, 107), (2, 108), (1, 2), (1, 161), (1, 51)] := ⟨rfl, rfl, rfl, rfl, rfl, rfl, rfl, rfl, rfl, rfl, rfl, rfl, rfl, rfl, rfl, rfl, rfl, rfl, trivial⟩
set_option maxRecDepth 100000 in
set_option maxHeartbeats 4000000 in
theorem xa_53 : xat2 (cd_53.flatMap (xword 53)) [(1, 161), (1, 163), (1, 132), (1, 116), (3, 86), (3, 87), (3, 88), (1, 3), (1, 163), (1, 132), (3, 90), (3, 91), (3, 92), (1, 6), (1, 164)] := ⟨rfl, rfl, rfl, rfl, rfl, rfl, rfl, rfl, rfl, rfl, rfl, rfl, rfl, rfl, rfl, trivial⟩
set_option maxRecDepth 100000 in
set_option maxHeartbeats 4000000 in
theorem xa_54 : xat2 (cd_54.flatMap (xword 54)) [(3, 66)] := ⟨rfl, trivial⟩
set_option maxRecDepth 100000 in
set_option maxHeartbeats 4000000 in
theorem xa_55 : xat2 (cd_55.flatMap (xword 55)) [] := trivial
set_option maxRecDepth 100000 in
set_option maxHeartbeats 4000000 in
theorem xa_56 : xat2 (cd_56.flatMap (xword 56)) [] := trivial
set_option maxRecDepth 100000 in
set_option maxHeartbeats 4000000 in
theorem xa_57 : xat2 (cd_57.flatMap (xword 57)) [] := trivial
set_option maxRecDepth 100000 in
set_option maxHeartbeats 4000000 in
theorem xa_58 : xat2 (cd_58.flatMap (xword 58)) [] := trivial
set_option maxRecDepth 100000 in
set_option maxHeartbeats 4000000 in
theorem xa_59 : xat2 (cd_59.flatMap (xword 59)) [(1, 183), (1, 21), (1, 22), (1, 42), (1, 184), (1, 186)] := ⟨rfl, rfl, rfl, rfl, rfl, rfl, trivial⟩
set_option maxRecDepth 100000 in
set_option maxHeartbeats 4000000 in
theorem xa_60 : xat2 (cd_60.flatMap (xword 60)) [(2, 168), (2, 170), (0, 6), (1, 8), (1, 191), (2, 202), (2, 204), (0, 8), (1, 8), (3, 94), (3, 96), (0, 28), (1, 8), (3, 106), (3, 108), (0, 31), (1, 8)] := ⟨rfl, rfl, rfl, rfl, rfl, rfl, rfl, rfl, rfl, rfl, rfl, rfl, rfl, rfl, rfl, rfl, rfl, trivial⟩
set_option maxRecDepth 100000 in
set_option maxHeartbeats 4000000 in
theorem xa_61 : xat2 (cd_61.flatMap (xword 61)) [(1, 187), (2, 206), (2, 208), (0, 9), (1, 8), (2, 218), (2, 220), (0, 12), (1, 8), (3, 10), (3, 12), (0, 15), (1, 8), (2, 218), (2, 220), (0, 12), (1, 8), (3, 14), (3, 16), (0, 16), (1, 8), (3, 47), (3, 49), (0, 24), (1, 8), (3, 51), (3, 53), (0, 25), (1, 8)] := ⟨rfl, rfl, rfl, rfl, rfl, rfl, rfl, rfl, rfl, rfl, rfl, rfl, rfl, rfl, rfl, rfl, rfl, rfl, rfl, rfl, rfl, rfl, rfl, rfl, rfl, rfl, rfl, rfl, rfl, trivial⟩
set_option maxRecDepth 100000 in
set_option maxHeartbeats 4000000 in
theorem xa_62 : xat2 (cd_62.flatMap (xword 62)) [(3, 110), (3, 112), (0, 32), (1, 8), (2, 196), (2, 198), (0, 7), (1, 8), (3, 110), (3, 112), (0, 32), (1, 8), (2, 196), (2, 198), (0, 7), (1, 8), (1, 187), (2, 206), (2, 208), (0, 9), (1, 8), (2, 218), (2, 220), (0, 12), (1, 8), (3, 114), (3, 116), (0, 33), (1, 8), (1, 184), (3, 114), (3, 116), (0, 33), (1, 8), (2, 196), (2, 198), (0, 7), (1, 8), (3, 118), (3, 120), (0, 34), (1, 8), (3, 51), (3, 53), (0, 25), (1, 8)] := ⟨rfl, rfl, rfl, rfl, rfl, rfl, rfl, rfl, rfl, rfl, rfl, rfl, rfl, rfl, rfl, rfl, rfl, rfl, rfl, rfl, rfl, rfl, rfl, rfl, rfl, rfl, rfl, rfl, rfl, rfl, rfl, rfl, rfl, rfl, rfl, rfl, rfl, rfl, rfl, rfl, rfl, rfl, rfl, rfl, rfl, rfl, trivial⟩
set_option maxRecDepth 100000 in
set_option maxHeartbeats 4000000 in
theorem xa_63 : xat2 (cd_63.flatMap (xword 63)) [(3, 98), (3, 100), (0, 29), (1, 8), (1, 184), (2, 196), (2, 198), (0, 7), (1, 8)] := ⟨rfl, rfl, rfl, rfl, rfl, rfl, rfl, rfl, rfl, trivial⟩
set_option maxRecDepth 100000 in
set_option maxHeartbeats 4000000 in
theorem xa_64 : xat2 (cd_64.flatMap (xword 64)) [(3, 102), (3, 104), (0, 30), (1, 8), (3, 102), (3, 104), (0, 30), (1, 8), (3, 102), (3, 104), (0, 30), (1, 8), (3, 102), (3, 104), (0, 30), (1, 8), (3, 102), (3, 104), (0, 30), (1, 8), (3, 102), (3, 104), (0, 30), (1, 8), (3, 102), (3, 104), (0, 30), (1, 8)] := ⟨rfl, rfl, rfl, rfl, rfl, rfl, rfl, rfl, rfl, rfl, rfl, rfl, rfl, rfl, rfl, rfl, rfl, rfl, rfl, rfl, rfl, rfl, rfl, rfl, rfl, rfl, rfl, rfl, trivial⟩
set_option maxRecDepth 100000 in
set_option maxHeartbeats 4000000 in
theorem xa_65 : xat2 (cd_65.flatMap (xword 65)) [(3, 6), (3, 8), (0, 14), (1, 8), (3, 18), (3, 20), (0, 17), (1, 8), (3, 35), (3, 37), (0, 21), (1, 8), (3, 18), (3, 20), (0, 17), (1, 8), (3, 35), (3, 37), (0, 21), (1, 8), (3, 18), (3, 20), (0, 17), (1, 8), (3, 18), (3, 20), (0, 17), (1, 8), (3, 39), (3, 41), (0, 22), (1, 8), (3, 43), (3, 45), (0, 23), (1, 8), (3, 26), (3, 28), (0, 19), (1, 8), (3, 43), (3, 45), (0, 23), (1, 8)] := ⟨rfl, rfl, rfl, rfl, rfl, rfl, rfl, rfl, rfl, rfl, rfl, rfl, rfl, rfl, rfl, rfl, rfl, rfl, rfl, rfl, rfl, rfl, rfl, rfl, rfl, rfl, rfl, rfl, rfl, rfl, rfl, rfl, rfl, rfl, rfl, rfl, rfl, rfl, rfl, rfl, rfl, rfl, rfl, rfl, trivial⟩
set_option maxRecDepth 100000 in
set_option maxHeartbeats 4000000 in
theorem xa_66 : xat2 (cd_66.flatMap (xword 66)) [(3, 35), (3, 37), (0, 21), (1, 8), (3, 26), (3, 28), (0, 19), (1, 8), (3, 31), (3, 33), (0, 20), (1, 8), (3, 26), (3, 28), (0, 19), (1, 8), (3, 31), (3, 33), (0, 20), (1, 8), (2, 201), (3, 43), (3, 45), (0, 23), (1, 8)] := ⟨rfl, rfl, rfl, rfl, rfl, rfl, rfl, rfl, rfl, rfl, rfl, rfl, rfl, rfl, rfl, rfl, rfl, rfl, rfl, rfl, rfl, rfl, rfl, rfl, rfl, trivial⟩
set_option maxRecDepth 100000 in
set_option maxHeartbeats 4000000 in
theorem xa_67 : xat2 (cd_67.flatMap (xword 67)) [(3, 22), (3, 24), (0, 18), (1, 8), (3, 22), (3, 24), (0, 18), (1, 8), (3, 26), (3, 28), (0, 19), (1, 8), (3, 26), (3, 28), (0, 19), (1, 8), (3, 6), (3, 8), (0, 14), (1, 8), (3, 6), (3, 8), (0, 14), (1, 8), (3, 31), (3, 33), (0, 20), (1, 8)] := ⟨rfl, rfl, rfl, rfl, rfl, rfl, rfl, rfl, rfl, rfl, rfl, rfl, rfl, rfl, rfl, rfl, rfl, rfl, rfl, rfl, rfl, rfl, rfl, rfl, rfl, rfl, rfl, rfl, trivial⟩
set_option maxRecDepth 100000 in
set_option maxHeartbeats 4000000 in
theorem xa_68 : xat2 (cd_68.flatMap (xword 68)) [(1, 187), (3, 35), (3, 37), (0, 21), (1, 8), (3, 31), (3, 33), (0, 20), (1, 8)] := ⟨rfl, rfl, rfl, rfl, rfl, rfl, rfl, rfl, rfl, trivial⟩
set_option maxRecDepth 100000 in
set_option maxHeartbeats 4000000 in
theorem xa_69 : xat2 (cd_69.flatMap (xword 69)) [(3, 31), (3, 33), (0, 20), (1, 8)] := ⟨rfl, rfl, rfl, rfl, trivial⟩
set_option maxRecDepth 100000 in
set_option maxHeartbeats 4000000 in
theorem xa_70 : xat2 (cd_70.flatMap (xword 70)) [(3, 26), (3, 28), (0, 19), (1, 8), (1, 190), (1, 191)] := ⟨rfl, rfl, rfl, rfl, rfl, rfl, trivial⟩
set_option maxRecDepth 100000 in
set_option maxHeartbeats 4000000 in
theorem xa_71 : xat2 (cd_71.flatMap (xword 71)) [(1, 191), (1, 184), (1, 190)] := ⟨rfl, rfl, rfl, trivial⟩
set_option maxRecDepth 100000 in
set_option maxHeartbeats 4000000 in
theorem xa_72 : xat2 (cd_72.flatMap (xword 72)) [(1, 188), (1, 186), (1, 189), (1, 187), (3, 55), (3, 56), (3, 57), (1, 7), (1, 188), (1, 189), (2, 196), (2, 198), (0, 7), (1, 8), (1, 188), (1, 189), (3, 47), (3, 49), (0, 24), (1, 8)] := ⟨rfl, rfl, rfl, rfl, rfl, rfl, rfl, rfl, rfl, rfl, rfl, rfl, rfl, rfl, rfl, rfl, rfl, rfl, rfl, rfl, trivial⟩
set_option maxRecDepth 100000 in
set_option maxHeartbeats 4000000 in
theorem xa_73 : xat2 (cd_73.flatMap (xword 73)) [(2, 201), (2, 210), (2, 212), (0, 10), (1, 8), (2, 210), (2, 212), (0, 10), (1, 8), (2, 210), (2, 212), (0, 10), (1, 8), (2, 214), (2, 216), (0, 11), (1, 8), (2, 168), (2, 170), (0, 6), (1, 8), (2, 201), (2, 210), (2, 212), (0, 10), (1, 8), (2, 168), (2, 170), (0, 6), (1, 8), (2, 210), (2, 212), (0, 10), (1, 8), (1, 184), (2, 210), (2, 212), (0, 10), (1, 8), (1, 184), (1, 187), (2, 196), (2, 198), (0, 7), (1, 8)] := ⟨rfl, rfl, rfl, rfl, rfl, rfl, rfl, rfl, rfl, rfl, rfl, rfl, rfl, rfl, rfl, rfl, rfl, rfl, rfl, rfl, rfl, rfl, rfl, rfl, rfl, rfl, rfl, rfl, rfl, rfl, rfl, rfl, rfl, rfl, rfl, rfl, rfl, rfl, rfl, rfl, rfl, rfl, rfl, rfl, rfl, trivial⟩
set_option maxRecDepth 100000 in
set_option maxHeartbeats 4000000 in
theorem xa_74 : xat2 (cd_74.flatMap (xword 74)) [(2, 210), (2, 212), (0, 10), (1, 8), (2, 214), (2, 216), (0, 11), (1, 8), (2, 168), (2, 170), (0, 6), (1, 8), (2, 201), (2, 210), (2, 212), (0, 10), (1, 8)] := ⟨rfl, rfl, rfl, rfl, rfl, rfl, rfl, rfl, rfl, rfl, rfl, rfl, rfl, rfl, rfl, rfl, rfl, trivial⟩
set_option maxRecDepth 100000 in
set_option maxHeartbeats 4000000 in
theorem xa_75 : xat2 (cd_75.flatMap (xword 75)) [(1, 188), (1, 189)] := ⟨rfl, rfl, trivial⟩
set_option maxRecDepth 100000 in
set_option maxHeartbeats 4000000 in
theorem xa_76 : xat2 (cd_76.flatMap (xword 76)) [(1, 184)] := ⟨rfl, trivial⟩
set_option maxRecDepth 100000 in
set_option maxHeartbeats 4000000 in
theorem xa_77 : xat2 (cd_77.flatMap (xword 77)) [(1, 188), (1, 186), (1, 189), (1, 187), (2, 222), (2, 223), (2, 224), (1, 7), (1, 188), (1, 184), (1, 189), (1, 189), (3, 6), (3, 8), (0, 14), (1, 8)] := ⟨rfl, rfl, rfl, rfl, rfl, rfl, rfl, rfl, rfl, rfl, rfl, rfl, rfl, rfl, rfl, rfl, trivial⟩
set_option maxRecDepth 100000 in
set_option maxHeartbeats 4000000 in
theorem xa_78 : xat2 (cd_78.flatMap (xword 78)) [(1, 186), (1, 184), (2, 172), (2, 173), (2, 174), (1, 7), (1, 184), (2, 196), (2, 198), (0, 7), (1, 8)] := ⟨rfl, rfl, rfl, rfl, rfl, rfl, rfl, rfl, rfl, rfl, rfl, trivial⟩
set_option maxRecDepth 100000 in
set_option maxHeartbeats 4000000 in
theorem xa_79 : xat2 (cd_79.flatMap (xword 79)) [(1, 184), (2, 196), (2, 198), (0, 7), (1, 8), (1, 186), (1, 184), (1, 187), (3, 55), (3, 56), (3, 57), (1, 7)] := ⟨rfl, rfl, rfl, rfl, rfl, rfl, rfl, rfl, rfl, rfl, rfl, rfl, trivial⟩
set_option maxRecDepth 100000 in
set_option maxHeartbeats 4000000 in
theorem xa_80 : xat2 (cd_80.flatMap (xword 80)) [(1, 186), (1, 184), (2, 222), (2, 223), (2, 224), (1, 7), (1, 184), (2, 196), (2, 198), (0, 7), (1, 8)] := ⟨rfl, rfl, rfl, rfl, rfl, rfl, rfl, rfl, rfl, rfl, rfl, trivial⟩
set_option maxRecDepth 100000 in
set_option maxHeartbeats 4000000 in
theorem xa_81 : xat2 (cd_81.flatMap (xword 81)) [(1, 184), (2, 200), (1, 184), (1, 184), (2, 201)] := ⟨rfl, rfl, rfl, rfl, rfl, trivial⟩
set_option maxRecDepth 100000 in
set_option maxHeartbeats 4000000 in
theorem xa_82 : xat2 (cd_82.flatMap (xword 82)) [(1, 184)] := ⟨rfl, trivial⟩
set_option maxRecDepth 100000 in
set_option maxHeartbeats 4000000 in
theorem xa_83 : xat2 (cd_83.flatMap (xword 83)) [(1, 184)] := ⟨rfl, trivial⟩
set_option maxRecDepth 100000 in
set_option maxHeartbeats 4000000 in
theorem xa_84 : xat2 (cd_84.flatMap (xword 84)) [(1, 187), (2, 201)] := ⟨rfl, rfl, trivial⟩
set_option maxRecDepth 100000 in
set_option maxHeartbeats 4000000 in
theorem xa_85 : xat2 (cd_85.flatMap (xword 85)) [(1, 187), (3, 30)] := ⟨rfl, rfl, trivial⟩
set_option maxRecDepth 100000 in
set_option maxHeartbeats 4000000 in
theorem xa_86 : xat2 (cd_86.flatMap (xword 86)) [(3, 26), (3, 28), (0, 19), (1, 8), (3, 26), (3, 28), (0, 19), (1, 8)] := ⟨rfl, rfl, rfl, rfl, rfl, rfl, rfl, rfl, trivial⟩
set_option maxRecDepth 100000 in
set_option maxHeartbeats 4000000 in
theorem xa_87 : xat2 (cd_87.flatMap (xword 87)) [(1, 218), (1, 21), (1, 22), (1, 42), (1, 221), (1, 42), (1, 223), (1, 219), (1, 98), (1, 6), (1, 100), (1, 6), (1, 225), (1, 232)] := ⟨rfl, rfl, rfl, rfl, rfl, rfl, rfl, rfl, rfl, rfl, rfl, rfl, rfl, rfl, trivial⟩
set_option maxRecDepth 100000 in
set_option maxHeartbeats 4000000 in
theorem xa_88 : xat2 (cd_88.flatMap (xword 88)) [(1, 212), (1, 21), (1, 22), (1, 213), (1, 214), (1, 10), (1, 216), (1, 10), (2, 9), (2, 13), (2, 14), (2, 15), (2, 16), (2, 17)] := ⟨rfl, rfl, rfl, rfl, rfl, rfl, rfl, rfl, rfl, rfl, rfl, rfl, rfl, rfl, trivial⟩
set_option maxRecDepth 100000 in
set_option maxHeartbeats 4000000 in
theorem xa_89 : xat2 (cd_89.flatMap (xword 89)) [(2, 16), (2, 9), (1, 222), (2, 75), (2, 77), (2, 76), (1, 12), (2, 17), (2, 9), (1, 224), (2, 75), (2, 77), (2, 76), (1, 12)] := ⟨rfl, rfl, rfl, rfl, rfl, rfl, rfl, rfl, rfl, rfl, rfl, rfl, rfl, rfl, trivial⟩
set_option maxRecDepth 100000 in
set_option maxHeartbeats 4000000 in
theorem xa_90 : xat2 (cd_90.flatMap (xword 90)) [(2, 15), (1, 131), (1, 110), (2, 15), (1, 131), (1, 114), (2, 13), (2, 118), (2, 107), (2, 108), (1, 2), (2, 13), (2, 118), (2, 107), (2, 108), (1, 2), (2, 119), (2, 121), (0, 1), (1, 9), (2, 129), (2, 131), (0, 2), (1, 9), (2, 15), (2, 153), (2, 154), (2, 155), (1, 5)] := ⟨rfl, rfl, rfl, rfl, rfl, rfl, rfl, rfl, rfl, rfl, rfl, rfl, rfl, rfl, rfl, rfl, rfl, rfl, rfl, rfl, rfl, rfl, rfl, rfl, rfl, rfl, rfl, rfl, rfl, trivial⟩
set_option maxRecDepth 100000 in
set_option maxHeartbeats 4000000 in
theorem xa_91 : xat2 (cd_91.flatMap (xword 91)) [(2, 9), (1, 233), (2, 129), (2, 131), (0, 2), (1, 9), (2, 9), (1, 222), (2, 16), (2, 75), (2, 77), (2, 76), (1, 12), (2, 9), (1, 224), (2, 17), (2, 75), (2, 77), (2, 76), (1, 12), (2, 15), (2, 153), (2, 154), (2, 155), (1, 5)] := ⟨rfl, rfl, rfl, rfl, rfl, rfl, rfl, rfl, rfl, rfl, rfl, rfl, rfl, rfl, rfl, rfl, rfl, rfl, rfl, rfl, rfl, rfl, rfl, rfl, rfl, trivial⟩
set_option maxRecDepth 100000 in
set_option maxHeartbeats 4000000 in
theorem xa_92 : xat2 (cd_92.flatMap (xword 92)) [(2, 123), (2, 72), (2, 73), (1, 9), (2, 9), (1, 226), (2, 15), (1, 131), (2, 124), (2, 125), (2, 126), (1, 6), (2, 9), (1, 227), (2, 15), (1, 139), (1, 227), (2, 9), (1, 229), (2, 9), (1, 230), (2, 9), (1, 233), (2, 11), (2, 11)] := ⟨rfl, rfl, rfl, rfl, rfl, rfl, rfl, rfl, rfl, rfl, rfl, rfl, rfl, rfl, rfl, rfl, rfl, rfl, rfl, rfl, rfl, rfl, rfl, rfl, rfl, trivial⟩
set_option maxRecDepth 100000 in
set_option maxHeartbeats 4000000 in
theorem xa_93 : xat2 (cd_93.flatMap (xword 93)) [(2, 133), (2, 135), (0, 3), (1, 9), (2, 137), (2, 139), (0, 4), (1, 9), (2, 149), (2, 151), (0, 5), (1, 9)] := ⟨rfl, rfl, rfl, rfl, rfl, rfl, rfl, rfl, rfl, rfl, rfl, rfl, trivial⟩
set_option maxRecDepth 100000 in
set_option maxHeartbeats 4000000 in
theorem xa_94 : xat2 (cd_94.flatMap (xword 94)) [(2, 9), (1, 226), (1, 110), (2, 13), (2, 118), (2, 107), (2, 108), (1, 2), (2, 14), (1, 52), (2, 9), (1, 226), (1, 104), (2, 9), (1, 226), (1, 106)] := ⟨rfl, rfl, rfl, rfl, rfl, rfl, rfl, rfl, rfl, rfl, rfl, rfl, rfl, rfl, rfl, rfl, trivial⟩
set_option maxRecDepth 100000 in
set_option maxHeartbeats 4000000 in
theorem xa_95 : xat2 (cd_95.flatMap (xword 95)) [(2, 9), (1, 229), (2, 9), (1, 226), (1, 114), (2, 13), (2, 118), (2, 107), (2, 108), (1, 2), (2, 14), (2, 9), (1, 226), (1, 108), (2, 141), (2, 142), (2, 143), (1, 3), (2, 13), (2, 118), (2, 107), (2, 108), (1, 2), (2, 14), (2, 145), (2, 146), (2, 147), (1, 3), (2, 9), (1, 229), (1, 229)] := ⟨rfl, rfl, rfl, rfl, rfl, rfl, rfl, rfl, rfl, rfl, rfl, rfl, rfl, rfl, rfl, rfl, rfl, rfl, rfl, rfl, rfl, rfl, rfl, rfl, rfl, rfl, rfl, rfl, rfl, rfl, rfl, trivial⟩
set_option maxRecDepth 100000 in
set_option maxHeartbeats 4000000 in
theorem xa_96 : xat2 (cd_96.flatMap (xword 96)) [(2, 13), (2, 118), (2, 107), (2, 108), (1, 2), (2, 14), (1, 59), (2, 13), (2, 118), (2, 107), (2, 108), (1, 2), (2, 9), (1, 233)] := ⟨rfl, rfl, rfl, rfl, rfl, rfl, rfl, rfl, rfl, rfl, rfl, rfl, rfl, rfl, trivial⟩
set_option maxRecDepth 100000 in
set_option maxHeartbeats 4000000 in
theorem xa_97 : xat2 (cd_97.flatMap (xword 97)) [(3, 190), (1, 21), (1, 22), (1, 42), (3, 191), (1, 42), (3, 192), (1, 42), (3, 193), (1, 42), (3, 194), (1, 42), (3, 195), (1, 42), (3, 196), (1, 42), (3, 198), (1, 42), (3, 203), (1, 42), (3, 204), (1, 42), (3, 205), (1, 42), (3, 206), (1, 42), (3, 208), (1, 42), (3, 214), (1, 42), (3, 216), (1, 42), (3, 218)] := ⟨rfl, rfl, rfl, rfl, rfl, rfl, rfl, rfl, rfl, rfl, rfl, rfl, rfl, rfl, rfl, rfl, rfl, rfl, rfl, rfl, rfl, rfl, rfl, rfl, rfl, rfl, rfl, rfl, rfl, rfl, rfl, rfl, rfl, trivial⟩
set_option maxRecDepth 100000 in
set_option maxHeartbeats 4000000 in
theorem xa_98 : xat2 (cd_98.flatMap (xword 98)) [(3, 221), (3, 220), (3, 222), (3, 223), (3, 201), (4, 75), (4, 77), (0, 39), (1, 11)] := ⟨rfl, rfl, rfl, rfl, rfl, rfl, rfl, rfl, rfl, trivial⟩
set_option maxRecDepth 100000 in
set_option maxHeartbeats 4000000 in
theorem xa_99 : xat2 (cd_99.flatMap (xword 99)) [(3, 194), (3, 195), (3, 197), (3, 199), (3, 200), (3, 202)] := ⟨rfl, rfl, rfl, rfl, rfl, rfl, trivial⟩
set_option maxRecDepth 100000 in
set_option maxHeartbeats 4000000 in
theorem xa_100 : xat2 (cd_100.flatMap (xword 100)) [(3, 221), (3, 222), (4, 71), (4, 73), (0, 38), (1, 11), (3, 222), (3, 222), (3, 222), (3, 224), (3, 224)] := ⟨rfl, rfl, rfl, rfl, rfl, rfl, rfl, rfl, rfl, rfl, rfl, trivial⟩
set_option maxRecDepth 100000 in
set_option maxHeartbeats 4000000 in
theorem xa_101 : xat2 (cd_101.flatMap (xword 101)) [(3, 197), (3, 199), (4, 87), (4, 89), (0, 42), (1, 11), (3, 225), (3, 225), (3, 213), (3, 201), (3, 213), (3, 201), (3, 203), (3, 191), (3, 204), (3, 192), (3, 197), (3, 207), (3, 195), (3, 205), (3, 195), (3, 206), (3, 195), (3, 196), (3, 199), (3, 209), (3, 199), (3, 208), (3, 198), (3, 210), (3, 202), (3, 211), (3, 212), (4, 91), (4, 93), (0, 43), (1, 11)] := ⟨rfl, rfl, rfl, rfl, rfl, rfl, rfl, rfl, rfl, rfl, rfl, rfl, rfl, rfl, rfl, rfl, rfl, rfl, rfl, rfl, rfl, rfl, rfl, rfl, rfl, rfl, rfl, rfl, rfl, rfl, rfl, rfl, rfl, rfl, rfl, rfl, rfl, trivial⟩
set_option maxRecDepth 100000 in
set_option maxHeartbeats 4000000 in
theorem xa_102 : xat2 (cd_102.flatMap (xword 102)) [(3, 207), (4, 87), (4, 89), (0, 42), (1, 11), (3, 193), (3, 205), (3, 206), (3, 210), (3, 209), (4, 87), (4, 89), (0, 42), (1, 11), (4, 87), (4, 89), (0, 42), (1, 11), (3, 218), (3, 219), (3, 208), (3, 210), (3, 219), (3, 219), (3, 210), (3, 210), (4, 87), (4, 89), (0, 42), (1, 11), (3, 215), (4, 87), (4, 89), (0, 42), (1, 11), (3, 212), (4, 75), (4, 77), (0, 39), (1, 11), (3, 211), (3, 220)] := ⟨rfl, rfl, rfl, rfl, rfl, rfl, rfl, rfl, rfl, rfl, rfl, rfl, rfl, rfl, rfl, rfl, rfl, rfl, rfl, rfl, rfl, rfl, rfl, rfl, rfl, rfl, rfl, rfl, rfl, rfl, rfl, rfl, rfl, rfl, rfl, rfl, rfl, rfl, rfl, rfl, rfl, rfl, trivial⟩
set_option maxRecDepth 100000 in
set_option maxHeartbeats 4000000 in
theorem xa_103 : xat2 (cd_103.flatMap (xword 103)) [] := trivial
set_option maxRecDepth 100000 in
set_option maxHeartbeats 4000000 in
theorem xa_104 : xat2 (cd_104.flatMap (xword 104)) [] := trivial
set_option maxRecDepth 100000 in
set_option maxHeartbeats 4000000 in
theorem xa_105 : xat2 (cd_105.flatMap (xword 105)) [(3, 195), (3, 196), (3, 193)] := ⟨rfl, rfl, rfl, trivial⟩
set_option maxRecDepth 100000 in
set_option maxHeartbeats 4000000 in
theorem xa_106 : xat2 (cd_106.flatMap (xword 106)) [(4, 107), (4, 108), (1, 11), (3, 194), (3, 221), (3, 194), (3, 194), (4, 110), (4, 112), (0, 47), (1, 11), (4, 114), (4, 115), (1, 11), (3, 192)] := ⟨rfl, rfl, rfl, rfl, rfl, rfl, rfl, rfl, rfl, rfl, rfl, rfl, rfl, rfl, rfl, trivial⟩
set_option maxRecDepth 100000 in
set_option maxHeartbeats 4000000 in
theorem xa_107 : xat2 (cd_107.flatMap (xword 107)) [(3, 200), (3, 200), (3, 215), (3, 200), (3, 214), (3, 200), (3, 221), (3, 217), (3, 216), (4, 126), (3, 217), (3, 216), (3, 216), (3, 217), (3, 217), (3, 217), (4, 87), (4, 89), (0, 42), (1, 11), (3, 214), (3, 200), (4, 87), (4, 89), (0, 42), (1, 11), (3, 200), (3, 215)] := ⟨rfl, rfl, rfl, rfl, rfl, rfl, rfl, rfl, rfl, rfl, rfl, rfl, rfl, rfl, rfl, rfl, rfl, rfl, rfl, rfl, rfl, rfl, rfl, rfl, rfl, rfl, rfl, rfl, trivial⟩
set_option maxRecDepth 100000 in
set_option maxHeartbeats 4000000 in
theorem xa_108 : xat2 (cd_108.flatMap (xword 108)) [(4, 135), (4, 137), (0, 52), (1, 11), (4, 103), (4, 105), (0, 46), (1, 11)] := ⟨rfl, rfl, rfl, rfl, rfl, rfl, rfl, rfl, trivial⟩
set_option maxRecDepth 100000 in
set_option maxHeartbeats 4000000 in
theorem xa_109 : xat2 (cd_109.flatMap (xword 109)) [] := trivial
set_option maxRecDepth 100000 in
set_option maxHeartbeats 4000000 in
theorem xa_110 : xat2 (cd_110.flatMap (xword 110)) [(3, 221), (4, 114), (4, 115), (1, 11), (3, 192), (3, 192), (4, 179), (4, 180), (1, 11), (4, 107), (4, 108), (1, 11), (4, 103), (4, 105), (0, 46), (1, 11), (4, 179), (4, 180), (1, 11), (4, 182), (4, 184), (0, 62), (1, 11), (3, 219), (3, 199), (3, 198), (3, 199), (3, 199), (3, 199), (3, 202)] := ⟨rfl, rfl, rfl, rfl, rfl, rfl, rfl, rfl, rfl, rfl, rfl, rfl, rfl, rfl, rfl, rfl, rfl, rfl, rfl, rfl, rfl, rfl, rfl, rfl, rfl, rfl, rfl, rfl, rfl, rfl, trivial⟩
set_option maxRecDepth 100000 in
set_option maxHeartbeats 4000000 in
theorem xa_111 : xat2 (cd_111.flatMap (xword 111)) [(3, 194), (3, 195), (3, 197), (3, 197), (3, 195), (3, 197), (3, 196), (3, 194), (4, 87), (4, 89), (0, 42), (1, 11), (3, 193)] := ⟨rfl, rfl, rfl, rfl, rfl, rfl, rfl, rfl, rfl, rfl, rfl, rfl, rfl, trivial⟩
set_option maxRecDepth 100000 in
set_option maxHeartbeats 4000000 in
theorem xa_112 : xat2 (cd_112.flatMap (xword 112)) [(3, 191), (4, 103), (4, 105), (0, 46), (1, 11), (3, 191), (3, 191), (4, 117)] := ⟨rfl, rfl, rfl, rfl, rfl, rfl, rfl, rfl, trivial⟩
set_option maxRecDepth 100000 in
set_option maxHeartbeats 4000000 in
theorem xa_113 : xat2 (cd_113.flatMap (xword 113)) [(3, 191)] := ⟨rfl, trivial⟩
set_option maxRecDepth 100000 in
set_option maxHeartbeats 4000000 in
theorem xa_114 : xat2 (cd_114.flatMap (xword 114)) [(3, 191)] := ⟨rfl, trivial⟩
set_option maxRecDepth 100000 in
set_option maxHeartbeats 4000000 in
theorem xa_115 : xat2 (cd_115.flatMap (xword 115)) [(3, 191), (3, 191), (4, 99), (4, 101), (0, 45), (1, 11), (4, 117)] := ⟨rfl, rfl, rfl, rfl, rfl, rfl, rfl, trivial⟩
set_option maxRecDepth 100000 in
set_option maxHeartbeats 4000000 in
theorem xa_116 : xat2 (cd_116.flatMap (xword 116)) [(4, 117), (3, 226), (4, 126), (3, 226), (3, 227), (3, 191), (4, 99), (4, 101), (0, 45), (1, 11), (3, 226), (4, 127), (4, 129), (0, 50), (1, 11), (3, 191), (3, 227), (4, 131), (4, 133), (0, 51), (1, 11), (3, 191), (4, 117)] := ⟨rfl, rfl, rfl, rfl, rfl, rfl, rfl, rfl, rfl, rfl, rfl, rfl, rfl, rfl, rfl, rfl, rfl, rfl, rfl, rfl, rfl, rfl, rfl, trivial⟩
set_option maxRecDepth 100000 in
set_option maxHeartbeats 4000000 in
theorem xa_117 : xat2 (cd_117.flatMap (xword 117)) [(3, 226), (3, 227), (4, 171), (4, 173), (0, 60), (1, 11), (3, 226), (3, 227), (4, 175), (4, 177), (0, 61), (1, 11)] := ⟨rfl, rfl, rfl, rfl, rfl, rfl, rfl, rfl, rfl, rfl, rfl, rfl, trivial⟩
set_option maxRecDepth 100000 in
set_option maxHeartbeats 4000000 in
theorem xa_118 : xat2 (cd_118.flatMap (xword 118)) [(4, 158), (3, 191)] := ⟨rfl, rfl, trivial⟩
set_option maxRecDepth 100000 in
set_option maxHeartbeats 4000000 in
theorem xa_119 : xat2 (cd_119.flatMap (xword 119)) [] := trivial
set_option maxRecDepth 100000 in
set_option maxHeartbeats 4000000 in
theorem xa_120 : xat2 (cd_120.flatMap (xword 120)) [(4, 99), (4, 101), (0, 45), (1, 11), (4, 118), (4, 120), (0, 48), (1, 11), (4, 186), (4, 188), (0, 63), (1, 11), (4, 190), (4, 192), (0, 64), (1, 11)] := ⟨rfl, rfl, rfl, rfl, rfl, rfl, rfl, rfl, rfl, rfl, rfl, rfl, rfl, rfl, rfl, rfl, trivial⟩
set_option maxRecDepth 100000 in
set_option maxHeartbeats 4000000 in
theorem xa_121 : xat2 (cd_121.flatMap (xword 121)) [(4, 143), (4, 145), (0, 54), (1, 11), (4, 143), (4, 145), (0, 54), (1, 11), (4, 143), (4, 145), (0, 54), (1, 11), (4, 143), (4, 145), (0, 54), (1, 11), (4, 143), (4, 145), (0, 54), (1, 11), (4, 143), (4, 145), (0, 54), (1, 11), (4, 147), (4, 148), (1, 11), (3, 191), (3, 191), (4, 117), (4, 117), (3, 191)] := ⟨rfl, rfl, rfl, rfl, rfl, rfl, rfl, rfl, rfl, rfl, rfl, rfl, rfl, rfl, rfl, rfl, rfl, rfl, rfl, rfl, rfl, rfl, rfl, rfl, rfl, rfl, rfl, rfl, rfl, rfl, rfl, rfl, trivial⟩
set_option maxRecDepth 100000 in
set_option maxHeartbeats 4000000 in
theorem xa_122 : xat2 (cd_122.flatMap (xword 122)) [(4, 122), (4, 124), (0, 49), (1, 11), (4, 117), (3, 226), (3, 227), (4, 127), (4, 129), (0, 50), (1, 11), (3, 227), (3, 227), (4, 131), (4, 133), (0, 51), (1, 11), (3, 191), (4, 139), (4, 141), (0, 53), (1, 11), (4, 159), (4, 161), (0, 57), (1, 11), (4, 163), (4, 165), (0, 58), (1, 11), (4, 167), (4, 169), (0, 59), (1, 11)] := ⟨rfl, rfl, rfl, rfl, rfl, rfl, rfl, rfl, rfl, rfl, rfl, rfl, rfl, rfl, rfl, rfl, rfl, rfl, rfl, rfl, rfl, rfl, rfl, rfl, rfl, rfl, rfl, rfl, rfl, rfl, rfl, rfl, rfl, rfl, trivial⟩
set_option maxRecDepth 100000 in
set_option maxHeartbeats 4000000 in
theorem xa_123 : xat2 (cd_123.flatMap (xword 123)) [(3, 226), (3, 227)] := ⟨rfl, rfl, trivial⟩
set_option maxRecDepth 100000 in
set_option maxHeartbeats 4000000 in
theorem xa_124 : xat2 (cd_124.flatMap (xword 124)) [(4, 117), (4, 143), (4, 145), (0, 54), (1, 11), (4, 147), (4, 148), (1, 11), (4, 147), (4, 148), (1, 11), (4, 150), (4, 152), (0, 55), (1, 11), (4, 147), (4, 148), (1, 11), (4, 154), (4, 156), (0, 56), (1, 11)] := ⟨rfl, rfl, rfl, rfl, rfl, rfl, rfl, rfl, rfl, rfl, rfl, rfl, rfl, rfl, rfl, rfl, rfl, rfl, rfl, rfl, rfl, rfl, trivial⟩
set_option maxRecDepth 100000 in
set_option maxHeartbeats 4000000 in
theorem xa_125 : xat2 (cd_125.flatMap (xword 125)) [(4, 143), (4, 145), (0, 54), (1, 11), (4, 150), (4, 152), (0, 55), (1, 11), (4, 154), (4, 156), (0, 56), (1, 11)] := ⟨rfl, rfl, rfl, rfl, rfl, rfl, rfl, rfl, rfl, rfl, rfl, rfl, trivial⟩
set_option maxRecDepth 100000 in
set_option maxHeartbeats 4000000 in
theorem xa_126 : xat2 (cd_126.flatMap (xword 126)) [(4, 117), (4, 150), (4, 152), (0, 55), (1, 11), (4, 154), (4, 156), (0, 56), (1, 11)] := ⟨rfl, rfl, rfl, rfl, rfl, rfl, rfl, rfl, rfl, trivial⟩
set_option maxRecDepth 100000 in
set_option maxHeartbeats 4000000 in
theorem xa_127 : xat2 (cd_127.flatMap (xword 127)) [(3, 191), (4, 131), (4, 133), (0, 51), (1, 11), (4, 171), (4, 173), (0, 60), (1, 11), (3, 191), (3, 191), (4, 117), (3, 191), (4, 131), (4, 133), (0, 51), (1, 11), (4, 171), (4, 173), (0, 60), (1, 11), (3, 191), (3, 191), (4, 117), (4, 122), (4, 124), (0, 49), (1, 11), (4, 158), (3, 191), (3, 191), (4, 194), (4, 117), (3, 191), (3, 191), (4, 175), (4, 177), (0, 61), (1, 11), (4, 171), (4, 173), (0, 60), (1, 11), (4, 147), (4, 148), (1, 11), (4, 117), (4, 117), (4, 143), (4, 145), (0, 54), (1, 11), (4, 150), (4, 152), (0, 55), (1, 11), (4, 154), (4, 156), (0, 56), (1, 11), (4, 167), (4, 169), (0, 59), (1, 11)] := ⟨rfl, rfl, rfl, rfl, rfl, rfl, rfl, rfl, rfl, rfl, rfl, rfl, rfl, rfl, rfl, rfl, rfl, rfl, rfl, rfl, rfl, rfl, rfl, rfl, rfl, rfl, rfl, rfl, rfl, rfl, rfl, rfl, rfl, rfl, rfl, rfl, rfl, rfl, rfl, rfl, rfl, rfl, rfl, rfl, rfl, rfl, rfl, rfl, rfl, rfl, rfl, rfl, rfl, rfl, rfl, rfl, rfl, rfl, rfl, rfl, rfl, rfl, rfl, rfl, trivial⟩
set_option maxRecDepth 100000 in
set_option maxHeartbeats 4000000 in
theorem xa_128 : xat2 (cd_128.flatMap (xword 128)) [(3, 194)] := ⟨rfl, trivial⟩
set_option maxRecDepth 100000 in
set_option maxHeartbeats 4000000 in
theorem xa_129 : xat2 (cd_129.flatMap (xword 129)) [(3, 223), (4, 71), (4, 73), (0, 38), (1, 11), (3, 223), (3, 223), (3, 223), (4, 79), (4, 81), (0, 40), (1, 11), (3, 197), (3, 199), (3, 200), (4, 83), (4, 85), (0, 41), (1, 11), (3, 221), (4, 95), (4, 97), (0, 44), (1, 11), (3, 221), (3, 201), (3, 201), (3, 202), (4, 83), (4, 85), (0, 41), (1, 11), (3, 221)] := ⟨rfl, rfl, rfl, rfl, rfl, rfl, rfl, rfl, rfl, rfl, rfl, rfl, rfl, rfl, rfl, rfl, rfl, rfl, rfl, rfl, rfl, rfl, rfl, rfl, rfl, rfl, rfl, rfl, rfl, rfl, rfl, rfl, rfl, trivial⟩
set_option maxRecDepth 100000 in
set_option maxHeartbeats 4000000 in
theorem xa_130 : xat2 (cd_130.flatMap (xword 130)) [(3, 220), (3, 220), (4, 67), (4, 69), (0, 37), (1, 11)] := ⟨rfl, rfl, rfl, rfl, rfl, rfl, trivial⟩
set_option maxRecDepth 100000 in
set_option maxHeartbeats 4000000 in
theorem xa_131 : xat2 (cd_131.flatMap (xword 131)) [(3, 220), (3, 221), (3, 220), (3, 212), (4, 91), (4, 93), (0, 43), (1, 11), (3, 221), (3, 211), (3, 220), (3, 191), (3, 203), (3, 192), (3, 204), (4, 75), (4, 77), (0, 39), (1, 11)] := ⟨rfl, rfl, rfl, rfl, rfl, rfl, rfl, rfl, rfl, rfl, rfl, rfl, rfl, rfl, rfl, rfl, rfl, rfl, rfl, trivial⟩
set_option maxRecDepth 100000 in
set_option maxHeartbeats 4000000 in
theorem xa_132 : xat2 (cd_132.flatMap (xword 132)) [(3, 220), (3, 193), (4, 126)] := ⟨rfl, rfl, rfl, trivial⟩
set_option maxRecDepth 100000 in
set_option maxHeartbeats 4000000 in
theorem xa_133 : xat2 (cd_133.flatMap (xword 133)) [(3, 220), (3, 191), (4, 194), (3, 203), (3, 191), (3, 221), (3, 220)] := ⟨rfl, rfl, rfl, rfl, rfl, rfl, rfl, trivial⟩
set_option maxRecDepth 100000 in
set_option maxHeartbeats 4000000 in
theorem xa_134 : xat2 (cd_134.flatMap (xword 134)) [(3, 217), (3, 216), (3, 217), (4, 126), (3, 217), (3, 217)] := ⟨rfl, rfl, rfl, rfl, rfl, rfl, trivial⟩
set_option maxRecDepth 100000 in
set_option maxHeartbeats 4000000 in
theorem xa_135 : xat2 (cd_135.flatMap (xword 135)) [(3, 222)] := ⟨rfl, trivial⟩
set_option maxRecDepth 100000 in
set_option maxHeartbeats 4000000 in
theorem xa_136 : xat2 (cd_136.flatMap (xword 136)) [(3, 223)] := ⟨rfl, trivial⟩
set_option maxRecDepth 100000 in
set_option maxHeartbeats 4000000 in
theorem xa_137 : xat2 (cd_137.flatMap (xword 137)) [(3, 220)] := ⟨rfl, trivial⟩
set_option maxRecDepth 100000 in
set_option maxHeartbeats 4000000 in
theorem xa_138 : xat2 (cd_138.flatMap (xword 138)) [(3, 220), (3, 191)] := ⟨rfl, rfl, trivial⟩
set_option maxRecDepth 100000 in
set_option maxHeartbeats 4000000 in
theorem xa_139 : xat2 (cd_139.flatMap (xword 139)) [(4, 107), (4, 108), (1, 11), (4, 110), (4, 112), (0, 47), (1, 11), (4, 114), (4, 115), (1, 11), (3, 220), (3, 192)] := ⟨rfl, rfl, rfl, rfl, rfl, rfl, rfl, rfl, rfl, rfl, rfl, rfl, trivial⟩
set_option maxRecDepth 100000 in
set_option maxHeartbeats 4000000 in
theorem xa_140 : xat2 (cd_140.flatMap (xword 140)) [(3, 193)] := ⟨rfl, trivial⟩
set_option maxRecDepth 100000 in
set_option maxHeartbeats 4000000 in
theorem xa_141 : xat2 (cd_141.flatMap (xword 141)) [(3, 219), (3, 219), (3, 218)] := ⟨rfl, rfl, rfl, trivial⟩
set_option maxRecDepth 100000 in
set_option maxHeartbeats 4000000 in
theorem xa_142 : xat2 (cd_142.flatMap (xword 142)) [(3, 217)] := ⟨rfl, trivial⟩
set_option maxRecDepth 100000 in
set_option maxHeartbeats 4000000 in
theorem xa_143 : xat2 (cd_143.flatMap (xword 143)) [(3, 224)] := ⟨rfl, trivial⟩
set_option maxRecDepth 100000 in
set_option maxHeartbeats 4000000 in
theorem xa_144 : xat2 (cd_144.flatMap (xword 144)) [(3, 225)] := ⟨rfl, trivial⟩
set_option maxRecDepth 100000 in
set_option maxHeartbeats 4000000 in
theorem xa_145 : xat2 (cd_145.flatMap (xword 145)) [(3, 213), (3, 201)] := ⟨rfl, rfl, trivial⟩
set_option maxRecDepth 100000 in
set_option maxHeartbeats 4000000 in
theorem xa_146 : xat2 (cd_146.flatMap (xword 146)) [(4, 79), (4, 81), (0, 40), (1, 11), (3, 197), (3, 199), (3, 215)] := ⟨rfl, rfl, rfl, rfl, rfl, rfl, rfl, trivial⟩
set_option maxRecDepth 100000 in
set_option maxHeartbeats 4000000 in
theorem xa_147 : xat2 (cd_147.flatMap (xword 147)) [] := trivial
set_option maxRecDepth 100000 in
set_option maxHeartbeats 4000000 in
theorem xa_148 : xat2 (cd_148.flatMap (xword 148)) [(1, 15), (1, 16), (1, 1), (1, 17), (1, 18), (1, 1), (3, 185), (3, 186), (1, 11), (3, 187), (3, 188), (1, 11), (2, 58), (2, 59), (2, 60), (1, 1), (4, 199), (4, 200), (4, 201), (1, 11), (2, 66), (2, 67), (2, 68), (1, 1), (4, 203), (4, 204), (4, 205), (1, 11), (2, 78), (2, 79), (2, 80), (1, 1), (4, 207), (4, 208), (4, 209), (1, 11), (2, 86), (2, 87), (2, 88), (1, 1), (4, 211), (4, 212), (4, 213), (1, 11), (2, 94), (2, 95), (2, 96), (1, 1), (4, 215), (4, 216), (4, 217), (1, 11), (2, 98), (2, 99), (2, 100), (1, 1), (4, 63), (4, 64), (4, 65), (1, 11), (3, 136), (3, 137), (3, 138), (1, 1), (4, 195), (4, 196), (4, 197), (1, 11), (3, 144), (3, 145), (3, 146), (1, 1), (4, 219), (4, 220), (4, 221), (1, 11), (3, 148), (3, 149), (3, 150), (1, 1), (4, 223), (4, 224), (4, 225), (1, 11), (3, 152), (3, 153), (3, 154), (1, 1), (4, 227), (4, 228), (4, 229), (1, 11), (3, 157), (3, 158), (3, 159), (1, 1), (4, 231), (4, 232), (4, 233), (1, 11), (3, 161), (3, 162), (3, 163), (1, 1), (4, 235), (4, 236), (4, 237), (1, 11), (3, 165), (3, 166), (3, 167), (1, 1), (4, 239), (5, 0), (5, 1), (1, 11), (3, 169), (3, 170), (3, 171), (1, 1), (5, 3), (5, 4), (5, 5), (1, 11), (3, 173), (3, 174), (3, 175), (1, 1), (5, 7), (5, 8), (5, 9), (1, 11), (3, 177), (3, 178), (3, 179), (1, 1), (5, 11), (5, 12), (5, 13), (1, 11), (3, 181), (3, 182), (3, 183), (1, 1), (5, 15), (5, 16), (5, 17), (1, 11)] := ⟨rfl, rfl, rfl, rfl, rfl, rfl, rfl, rfl, rfl, rfl, rfl, rfl, rfl, rfl, rfl, rfl, rfl, rfl, rfl, rfl, rfl, rfl, rfl, rfl, rfl, rfl, rfl, rfl, rfl, rfl, rfl, rfl, rfl, rfl, rfl, rfl, rfl, rfl, rfl, rfl, rfl, rfl, rfl, rfl, rfl, rfl, rfl, rfl, rfl, rfl, rfl, rfl, rfl, rfl, rfl, rfl, rfl, rfl, rfl, rfl, rfl, rfl, rfl, rfl, rfl, rfl, rfl, rfl, rfl, rfl, rfl, rfl, rfl, rfl, rfl, rfl, rfl, rfl, rfl, rfl, rfl, rfl, rfl, rfl, rfl, rfl, rfl, rfl, rfl, rfl, rfl, rfl, rfl, rfl, rfl, rfl, rfl, rfl, rfl, rfl, rfl, rfl, rfl, rfl, rfl, rfl, rfl, rfl, rfl, rfl, rfl, rfl, rfl, rfl, rfl, rfl, rfl, rfl, rfl, rfl, rfl, rfl, rfl, rfl, rfl, rfl, rfl, rfl, rfl, rfl, rfl, rfl, rfl, rfl, rfl, rfl, rfl, rfl, rfl, rfl, rfl, rfl, rfl, rfl, rfl, rfl, rfl, rfl, trivial⟩
set_option maxRecDepth 100000 in
set_option maxHeartbeats 4000000 in
theorem xa_ins : ∀ k ∈ List.range xN, ∀ w ∈ (xcd k).flatMap (xword k), w ∈ lw_tbl := by
  show ∀ k ∈ [0, 1, 2, 3, 4, 5, 6, 7, 8, 9, 10, 11, 12, 13, 14, 15, 16, 17, 18, 19, 20, 21, 22, 23, 24, 25, 26, 27, 28, 29, 30, 31, 32, 33, 34, 35, 36, 37, 38, 39, 40, 41, 42, 43, 44, 45, 46, 47, 48, 49, 50, 51, 52, 53, 54, 55, 56, 57, 58, 59, 60, 61, 62, 63, 64, 65, 66, 67, 68, 69, 70, 71, 72, 73, 74, 75, 76, 77, 78, 79, 80, 81, 82, 83, 84, 85, 86, 87, 88, 89, 90, 91, 92, 93, 94, 95, 96, 97, 98, 99, 100, 101, 102, 103, 104, 105, 106, 107, 108, 109, 110, 111, 112, 113, 114, 115, 116, 117, 118, 119, 120, 121, 122, 123, 124, 125, 126, 127, 128, 129, 130, 131, 132, 133, 134, 135, 136, 137, 138, 139, 140, 141, 142, 143, 144, 145, 146, 147, 148], ∀ w ∈ (xcd k).flatMap (xword k), w ∈ lw_tbl
  exact List.forall_mem_cons.mpr ⟨xat2_ok _ _ xa_0, List.forall_mem_cons.mpr ⟨xat2_ok _ _ xa_1, List.forall_mem_cons.mpr ⟨xat2_ok _ _ xa_2, List.forall_mem_cons.mpr ⟨xat2_ok _ _ xa_3, List.forall_mem_cons.mpr ⟨xat2_ok _ _ xa_4, List.forall_mem_cons.mpr ⟨xat2_ok _ _ xa_5, List.forall_mem_cons.mpr ⟨xat2_ok _ _ xa_6, List.forall_mem_cons.mpr ⟨xat2_ok _ _ xa_7, List.forall_mem_cons.mpr ⟨xat2_ok _ _ xa_8, List.forall_mem_cons.mpr ⟨xat2_ok _ _ xa_9, List.forall_mem_cons.mpr ⟨xat2_ok _ _ xa_10, List.forall_mem_cons.mpr ⟨xat2_ok _ _ xa_11, List.forall_mem_cons.mpr ⟨xat2_ok _ _ xa_12, List.forall_mem_cons.mpr ⟨xat2_ok _ _ xa_13, List.forall_mem_cons.mpr ⟨xat2_ok _ _ xa_14, List.forall_mem_cons.mpr ⟨xat2_ok _ _ xa_15, List.forall_mem_cons.mpr ⟨xat2_ok _ _ xa_16, List.forall_mem_cons.mpr ⟨xat2_ok _ _ xa_17, List.forall_mem_cons.mpr ⟨xat2_ok _ _ xa_18, List.forall_mem_cons.mpr ⟨xat2_ok _ _ xa_19, List.forall_mem_cons.mpr ⟨xat2_ok _ _ xa_20, List.forall_mem_cons.mpr ⟨xat2_ok _ _ xa_21, List.forall_mem_cons.mpr ⟨xat2_ok _ _ xa_22, List.forall_mem_cons.mpr ⟨xat2_ok _ _ xa_23, List.forall_mem_cons.mpr ⟨xat2_ok _ _ xa_24, List.forall_mem_cons.mpr ⟨xat2_ok _ _ xa_25, List.forall_mem_cons.mpr ⟨xat2_ok _ _ xa_26, List.forall_mem_cons.mpr ⟨xat2_ok _ _ xa_27, List.forall_mem_cons.mpr ⟨xat2_ok _ _ xa_28, List.forall_mem_cons.mpr ⟨xat2_ok _ _ xa_29, List.forall_mem_cons.mpr ⟨xat2_ok _ _ xa_30, List.forall_mem_cons.mpr ⟨xat2_ok _ _ xa_31, List.forall_mem_cons.mpr ⟨xat2_ok _ _ xa_32, List.forall_mem_cons.mpr ⟨xat2_ok _ _ xa_33, List.forall_mem_cons.mpr ⟨xat2_ok _ _ xa_34, List.forall_mem_cons.mpr ⟨xat2_ok _ _ xa_35, List.forall_mem_cons.mpr ⟨xat2_ok _ _ xa_36, List.forall_mem_cons.mpr ⟨xat2_ok _ _ xa_37, List.forall_mem_cons.mpr ⟨xat2_ok _ _ xa_38, List.forall_mem_cons.mpr ⟨xat2_ok _ _ xa_39, List.forall_mem_cons.mpr ⟨xat2_ok _ _ xa_40, List.forall_mem_cons.mpr ⟨xat2_ok _ _ xa_41, List.forall_mem_cons.mpr ⟨xat2_ok _ _ xa_42, List.forall_mem_cons.mpr ⟨xat2_ok _ _ xa_43, List.forall_mem_cons.mpr ⟨xat2_ok _ _ xa_44, List.forall_mem_cons.mpr ⟨xat2_ok _ _ xa_45, List.forall_mem_cons.mpr ⟨xat2_ok _ _ xa_46, List.forall_mem_cons.mpr ⟨xat2_ok _ _ xa_47, List.forall_mem_cons.mpr ⟨xat2_ok _ _ xa_48, List.forall_mem_cons.mpr ⟨xat2_ok _ _ xa_49, List.forall_mem_cons.mpr ⟨xat2_ok _ _ xa_50, List.forall_mem_cons.mpr ⟨xat2_ok _ _ xa_51, List.forall_mem_cons.mpr ⟨xat2_ok _ _ xa_52, List.forall_mem_cons.mpr ⟨xat2_ok _ _ xa_53, List.forall_mem_cons.mpr ⟨xat2_ok _ _ xa_54, List.forall_mem_cons.mpr ⟨xat2_ok _ _ xa_55, List.forall_mem_cons.mpr ⟨xat2_ok _ _ xa_56, List.forall_mem_cons.mpr ⟨xat2_ok _ _ xa_57, List.forall_mem_cons.mpr ⟨xat2_ok _ _ xa_58, List.forall_mem_cons.mpr ⟨xat2_ok _ _ xa_59, List.forall_mem_cons.mpr ⟨xat2_ok _ _ xa_60, List.forall_mem_cons.mpr ⟨xat2_ok _ _ xa_61, List.forall_mem_cons.mpr ⟨xat2_ok _ _ xa_62, List.forall_mem_cons.mpr ⟨xat2_ok _ _ xa_63, List.forall_mem_cons.mpr ⟨xat2_ok _ _ xa_64, List.forall_mem_cons.mpr ⟨xat2_ok _ _ xa_65, List.forall_mem_cons.mpr ⟨xat2_ok _ _ xa_66, List.forall_mem_cons.mpr ⟨xat2_ok _ _ xa_67, List.forall_mem_cons.mpr ⟨xat2_ok _ _ xa_68, List.forall_mem_cons.mpr ⟨xat2_ok _ _ xa_69, List.forall_mem_cons.mpr ⟨xat2_ok _ _ xa_70, List.forall_mem_cons.mpr ⟨xat2_ok _ _ xa_71, List.forall_mem_cons.mpr ⟨xat2_ok _ _ xa_72, List.forall_mem_cons.mpr ⟨xat2_ok _ _ xa_73, List.forall_mem_cons.mpr ⟨xat2_ok _ _ xa_74, List.forall_mem_cons.mpr ⟨xat2_ok _ _ xa_75, List.forall_mem_cons.mpr ⟨xat2_ok _ _ xa_76, List.forall_mem_cons.mpr ⟨xat2_ok _ _ xa_77, List.forall_mem_cons.mpr ⟨xat2_ok _ _ xa_78, List.forall_mem_cons.mpr ⟨xat2_ok _ _ xa_79, List.forall_mem_cons.mpr ⟨xat2_ok _ _ xa_80, List.forall_mem_cons.mpr ⟨xat2_ok _ _ xa_81, List.forall_mem_cons.mpr ⟨xat2_ok _ _ xa_82, List.forall_mem_cons.mpr ⟨xat2_ok _ _ xa_83, List.forall_mem_cons.mpr ⟨xat2_ok _ _ xa_84, List.forall_mem_cons.mpr ⟨xat2_ok _ _ xa_85, List.forall_mem_cons.mpr ⟨xat2_ok _ _ xa_86, List.forall_mem_cons.mpr ⟨xat2_ok _ _ xa_87, List.forall_mem_cons.mpr ⟨xat2_ok _ _ xa_88, List.forall_mem_cons.mpr ⟨xat2_ok _ _ xa_89, List.forall_mem_cons.mpr ⟨xat2_ok _ _ xa_90, List.forall_mem_cons.mpr ⟨xat2_ok _ _ xa_91, List.forall_mem_cons.mpr ⟨xat2_ok _ _ xa_92, List.forall_mem_cons.mpr ⟨xat2_ok _ _ xa_93, List.forall_mem_cons.mpr ⟨xat2_ok _ _ xa_94, List.forall_mem_cons.mpr ⟨xat2_ok _ _ xa_95, List.forall_mem_cons.mpr ⟨xat2_ok _ _ xa_96, List.forall_mem_cons.mpr ⟨xat2_ok _ _ xa_97, List.forall_mem_cons.mpr ⟨xat2_ok _ _ xa_98, List.forall_mem_cons.mpr ⟨xat2_ok _ _ xa_99, List.forall_mem_cons.mpr ⟨xat2_ok _ _ xa_100, List.forall_mem_cons.mpr ⟨xat2_ok _ _ xa_101, List.forall_mem_cons.mpr ⟨xat2_ok _ _ xa_102, List.forall_mem_cons.mpr ⟨xat2_ok _ _ xa_103, List.forall_mem_cons.mpr ⟨xat2_ok _ _ xa_104, List.forall_mem_cons.mpr ⟨xat2_ok _ _ xa_105, List.forall_mem_cons.mpr ⟨xat2_ok _ _ xa_106, List.forall_mem_cons.mpr ⟨xat2_ok _ _ xa_107, List.forall_mem_cons.mpr ⟨xat2_ok _ _ xa_108, List.forall_mem_cons.mpr ⟨xat2_ok _ _ xa_109, List.forall_mem_cons.mpr ⟨xat2_ok _ _ xa_110, List.forall_mem_cons.mpr ⟨xat2_ok _ _ xa_111, List.forall_mem_cons.mpr ⟨xat2_ok _ _ xa_112, List.forall_mem_cons.mpr ⟨xat2_ok _ _ xa_113, List.forall_mem_cons.mpr ⟨xat2_ok _ _ xa_114, List.forall_mem_cons.mpr ⟨xat2_ok _ _ xa_115, List.forall_mem_cons.mpr ⟨xat2_ok _ _ xa_116, List.forall_mem_cons.mpr ⟨xat2_ok _ _ xa_117, List.forall_mem_cons.mpr ⟨xat2_ok _ _ xa_118, List.forall_mem_cons.mpr ⟨xat2_ok _ _ xa_119, List.forall_mem_cons.mpr ⟨xat2_ok _ _ xa_120, List.forall_mem_cons.mpr ⟨xat2_ok _ _ xa_121, List.forall_mem_cons.mpr ⟨xat2_ok _ _ xa_122, List.forall_mem_cons.mpr ⟨xat2_ok _ _ xa_123, List.forall_mem_cons.mpr ⟨xat2_ok _ _ xa_124, List.forall_mem_cons.mpr ⟨xat2_ok _ _ xa_125, List.forall_mem_cons.mpr ⟨xat2_ok _ _ xa_126, List.forall_mem_cons.mpr ⟨xat2_ok _ _ xa_127, List.forall_mem_cons.mpr ⟨xat2_ok _ _ xa_128, List.forall_mem_cons.mpr ⟨xat2_ok _ _ xa_129, List.forall_mem_cons.mpr ⟨xat2_ok _ _ xa_130, List.forall_mem_cons.mpr ⟨xat2_ok _ _ xa_131, List.forall_mem_cons.mpr ⟨xat2_ok _ _ xa_132, List.forall_mem_cons.mpr ⟨xat2_ok _ _ xa_133, List.forall_mem_cons.mpr ⟨xat2_ok _ _ xa_134, List.forall_mem_cons.mpr ⟨xat2_ok _ _ xa_135, List.forall_mem_cons.mpr ⟨xat2_ok _ _ xa_136, List.forall_mem_cons.mpr ⟨xat2_ok _ _ xa_137, List.forall_mem_cons.mpr ⟨xat2_ok _ _ xa_138, List.forall_mem_cons.mpr ⟨xat2_ok _ _ xa_139, List.forall_mem_cons.mpr ⟨xat2_ok _ _ xa_140, List.forall_mem_cons.mpr ⟨xat2_ok _ _ xa_141, List.forall_mem_cons.mpr ⟨xat2_ok _ _ xa_142, List.forall_mem_cons.mpr ⟨xat2_ok _ _ xa_143, List.forall_mem_cons.mpr ⟨xat2_ok _ _ xa_144, List.forall_mem_cons.mpr ⟨xat2_ok _ _ xa_145, List.forall_mem_cons.mpr ⟨xat2_ok _ _ xa_146, List.forall_mem_cons.mpr ⟨xat2_ok _ _ xa_147, List.forall_mem_cons.mpr ⟨xat2_ok _ _ xa_148, fun _ h => absurd h List.not_mem_nil⟩⟩⟩⟩⟩⟩⟩⟩⟩⟩⟩⟩⟩⟩⟩⟩⟩⟩⟩⟩⟩⟩⟩⟩⟩⟩⟩⟩⟩⟩⟩⟩⟩⟩⟩⟩⟩⟩⟩⟩⟩⟩⟩⟩⟩⟩⟩⟩⟩⟩⟩⟩⟩⟩⟩⟩⟩⟩⟩⟩⟩⟩⟩⟩⟩⟩⟩⟩⟩⟩⟩⟩⟩⟩⟩⟩⟩⟩⟩⟩⟩⟩⟩⟩⟩⟩⟩⟩⟩⟩⟩⟩⟩⟩⟩⟩⟩⟩⟩⟩⟩⟩⟩⟩⟩⟩⟩⟩⟩⟩⟩⟩⟩⟩⟩⟩⟩⟩⟩⟩⟩⟩⟩⟩⟩⟩⟩⟩⟩⟩⟩⟩⟩⟩⟩⟩⟩⟩⟩⟩⟩⟩⟩⟩⟩⟩⟩⟩⟩
theorem xall_tbl : ∀ w ∈ xall, w ∈ lw_tbl := by
  intro w hw
  rcases List.mem_append.mp hw with h | h
  · exact xat2_ok _ _ xa_lays w h
  · rcases List.mem_append.mp h with h | h
    · exact xat2_ok _ _ xa_codes w h
    · obtain ⟨k, hk, h⟩ := List.mem_flatMap.mp h
      exact xa_ins k hk w h
set_option maxRecDepth 100000 in
set_option maxHeartbeats 4000000 in
theorem xa_nw : xat2 (xnw.map (fun x => Cond.methodLinkNest x.1 x.2.1 x.2.2.1 x.2.2.2)) [(1, 25), (1, 45), (1, 76), (1, 93), (1, 99), (1, 220), (1, 215)] := ⟨rfl, rfl, rfl, rfl, rfl, rfl, rfl, trivial⟩
set_option maxRecDepth 100000 in
set_option maxHeartbeats 4000000 in
theorem xa_cl : xat2 (xcl.map (fun r => Cond.instantiable r.1 r.2.2)) [(1, 16), (1, 24), (1, 44), (1, 75), (1, 98), (1, 92), (1, 153), (1, 179), (1, 214), (1, 208), (3, 186)] := ⟨rfl, rfl, rfl, rfl, rfl, rfl, rfl, rfl, rfl, rfl, rfl, trivial⟩
set_option maxRecDepth 100000 in
set_option maxHeartbeats 4000000 in
theorem xa_ar : xat2 ([Cond.arrayClass .int]) [(1, 42)] := ⟨rfl, trivial⟩
theorem xnw_chk : ∀ x ∈ xnw, Cond.methodLinkNest x.1 x.2.1 x.2.2.1 x.2.2.2 ∈ lw_tbl := fun x hx => xat2_ok _ _ xa_nw _ (List.mem_map.mpr ⟨x, hx, rfl⟩)
theorem xcl_chk : ∀ r ∈ xcl, Cond.instantiable r.1 r.2.2 ∈ lw_tbl := fun r hr => xat2_ok _ _ xa_cl _ (List.mem_map.mpr ⟨r, hr, rfl⟩)
theorem xar_chk : Cond.arrayClass .int ∈ lw_tbl := xat2_ok _ _ xa_ar _ List.mem_cons_self
