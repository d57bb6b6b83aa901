/-! THE TABLES' WORDS that the machine's tables speak of, by their places; and the code. -/
def nc_cn (n : Nat) : String := ([RX0, RX1, RX2, RX3, RX4, RX5, RX6, RX7, RX8, RX9, RX10, RX11, RX12, RJ6, RJ7][n]?).getD ""
abbrev nc_cl : List vw_C := [(RX0, TX0, 9), (RX1, TX1, 11), (RX2, TX2, 19), (RX3, TX3, 3), (RX4, TX4, 1), (RX5, TX5, 3), (RX6, TX6, 4), (RX7, TX7, 17), (RX8, TX8, 7), (RX9, TX9, 5), (RX10, TX10, 16), (RX11, TX11, 16), (RX12, TX12, 49)]
def nc_tk (k : Nat) : List Cond := match k with
  | 0 => k2_sels lw_privs
  | 1 => tables_1_1
  | 2 => tables_1_2
  | 3 => tables_1_3
  | 4 => tables_1_4
  | 5 => tables_1_5
  | 6 => tables_1_6
  | 7 => tables_1_7
  | 8 => tables_1_8
  | _ => tables_1_9
theorem nc_tk_in {k : Nat} {w : Cond} (h : w ∈ nc_tk k) : w ∈ lw_tbl := by
  unfold nc_tk at h
  unfold lw_tbl tables_1
  simp only [List.mem_append]
  split at h <;> simp [h]
abbrev nc_at (p : Nat × Nat) (w : Cond) : Bool := decide ((nc_tk p.1)[p.2]? = some w)
theorem nc_at_in {p : Nat × Nat} {w : Cond} (h : nc_at p w = true) : w ∈ lw_tbl := nc_tk_in (List.mem_of_getElem? (of_decide_eq_true h))
theorem nc_gd_0 : (nc_tk 0).all goodWord = true := by decide +kernel
theorem nc_gd_1 : (nc_tk 1).all goodWord = true := by decide +kernel
theorem nc_gd_2 : (nc_tk 2).all goodWord = true := by decide +kernel
theorem nc_gd_3 : (nc_tk 3).all goodWord = true := by decide +kernel
theorem nc_gd_4 : (nc_tk 4).all goodWord = true := by decide +kernel
theorem nc_gd_5 : (nc_tk 5).all goodWord = true := by decide +kernel
theorem nc_gd_6 : (nc_tk 6).all goodWord = true := by decide +kernel
theorem nc_gd_7 : (nc_tk 7).all goodWord = true := by decide +kernel
theorem nc_gd_8 : (nc_tk 8).all goodWord = true := by decide +kernel
theorem nc_gd_9 : (nc_tk 9).all goodWord = true := by decide +kernel
theorem nc_good {w : Cond} (h : w ∈ lw_tbl) : goodWord w = true := by
  unfold lw_tbl tables_1 at h
  simp only [List.mem_append] at h
  rcases h with h | h | h | h | h | h | h | h | h | h
  · exact List.all_eq_true.mp nc_gd_0 w h
  · exact List.all_eq_true.mp nc_gd_1 w h
  · exact List.all_eq_true.mp nc_gd_2 w h
  · exact List.all_eq_true.mp nc_gd_3 w h
  · exact List.all_eq_true.mp nc_gd_4 w h
  · exact List.all_eq_true.mp nc_gd_5 w h
  · exact List.all_eq_true.mp nc_gd_6 w h
  · exact List.all_eq_true.mp nc_gd_7 w h
  · exact List.all_eq_true.mp nc_gd_8 w h
  · exact List.all_eq_true.mp nc_gd_9 w h
def nc_mq_l : List (Nat × Nat × (Nat × Nat) × (Nat × Nat) × (Nat × Nat) × (Nat × Nat)) := [(1, 2, (5, 56), (5, 55), (0, 0), (1, 14)), (0, 1, (5, 169), (5, 168), (0, 28), (1, 14)), (0, 1, (4, 123), (4, 121), (4, 122), (1, 7)), (0, 0, (5, 133), (5, 131), (5, 132), (1, 7)), (0, 0, (5, 44), (5, 42), (5, 43), (1, 7)), (0, 1, (4, 37), (4, 36), (0, 5), (1, 7)), (0, 1, (4, 80), (4, 78), (4, 79), (1, 7)), (0, 3, (5, 150), (5, 149), (0, 27), (1, 7)), (0, 1, (5, 222), (5, 221), (0, 31), (1, 16)), (0, 0, (4, 107), (4, 105), (4, 106), (1, 11)), (0, 1, (4, 159), (4, 157), (4, 158), (1, 9)), (0, 1, (4, 224), (4, 222), (4, 223), (1, 9)), (0, 2, (4, 183), (4, 182), (0, 13), (1, 9)), (0, 3, (4, 236), (4, 234), (4, 235), (1, 9)), (0, 1, (4, 232), (4, 230), (4, 231), (1, 9)), (0, 0, (4, 139), (4, 137), (4, 138), (1, 9)), (0, 1, (5, 14), (5, 13), (0, 17), (1, 9)), (0, 0, (4, 135), (4, 133), (4, 134), (1, 9)), (0, 2, (5, 202), (5, 200), (5, 201), (1, 9)), (0, 0, (4, 103), (4, 101), (4, 102), (1, 12)), (0, 3, (6, 67), (6, 66), (0, 38), (1, 12)), (0, 2, (6, 98), (6, 97), (0, 41), (1, 12)), (1, 2, (1, 92), (1, 91), (0, 0), (1, 2)), (1, 1, (3, 170), (3, 169), (0, 0), (1, 2)), (1, 1, (3, 173), (3, 172), (0, 0), (1, 2)), (0, 1, (3, 136), (3, 134), (3, 135), (1, 2)), (0, 1, (3, 167), (3, 165), (3, 166), (1, 2)), (0, 1, (3, 181), (3, 180), (0, 1), (1, 2)), (0, 4, (3, 185), (3, 184), (0, 2), (1, 2)), (0, 0, (4, 11), (4, 9), (4, 10), (1, 2)), (0, 1, (4, 27), (4, 25), (4, 26), (1, 2)), (0, 0, (4, 19), (4, 17), (4, 18), (1, 2)), (0, 1, (4, 49), (4, 47), (4, 48), (1, 2)), (0, 1, (3, 140), (3, 138), (3, 139), (1, 1)), (0, 0, (4, 111), (4, 109), (4, 110), (1, 1)), (0, 0, (5, 77), (5, 75), (5, 76), (1, 1)), (0, 1, (5, 122), (5, 120), (5, 121), (1, 1)), (0, 0, (5, 155), (5, 153), (5, 154), (1, 1)), (0, 0, (5, 180), (5, 178), (5, 179), (1, 1)), (0, 0, (5, 184), (5, 182), (5, 183), (1, 1)), (0, 1, (6, 36), (6, 34), (6, 35), (1, 1)), (0, 1, (6, 110), (6, 108), (6, 109), (1, 1)), (0, 1, (5, 141), (5, 140), (0, 26), (1, 1)), (0, 1, (4, 151), (4, 150), (0, 12), (1, 1)), (0, 1, (4, 119), (4, 118), (0, 10), (1, 1)), (0, 2, (4, 127), (4, 126), (0, 11), (1, 1)), (0, 0, (6, 197), (6, 195), (6, 196), (1, 18)), (0, 1, (8, 9), (8, 8), (0, 64), (1, 18)), (0, 1, (6, 206), (6, 204), (0, 44), (1, 18)), (0, 1, (6, 210), (6, 208), (6, 209), (1, 18)), (0, 1, (7, 156), (7, 155), (0, 45), (1, 18)), (1, 3, (7, 213), (7, 212), (0, 0), (1, 18)), (1, 2, (8, 16), (8, 15), (0, 0), (1, 18)), (1, 2, (8, 51), (8, 50), (0, 0), (1, 18)), (1, 1, (8, 229), (8, 228), (0, 0), (1, 18)), (1, 1, (8, 98), (8, 97), (0, 0), (1, 18)), (0, 1, (8, 226), (8, 225), (0, 98), (1, 18)), (0, 0, (7, 164), (7, 163), (0, 47), (1, 18)), (1, 1, (7, 167), (7, 166), (0, 0), (1, 18)), (1, 1, (7, 170), (7, 169), (0, 0), (1, 18)), (0, 1, (7, 182), (7, 181), (0, 50), (1, 18)), (0, 1, (7, 178), (7, 177), (0, 49), (1, 18)), (0, 1, (7, 233), (7, 232), (0, 62), (1, 18)), (0, 0, (7, 190), (7, 189), (0, 52), (1, 18)), (0, 2, (7, 194), (7, 193), (0, 53), (1, 18)), (0, 0, (7, 237), (7, 235), (7, 236), (1, 18)), (0, 2, (8, 28), (8, 27), (0, 68), (1, 18)), (0, 1, (8, 20), (8, 19), (0, 66), (1, 18)), (0, 1, (8, 71), (8, 70), (0, 76), (1, 18)), (0, 1, (8, 83), (8, 82), (0, 78), (1, 18)), (0, 0, (8, 87), (8, 86), (0, 79), (1, 18)), (0, 0, (8, 102), (8, 101), (0, 81), (1, 18)), (0, 0, (8, 142), (8, 140), (8, 141), (1, 18)), (0, 0, (8, 186), (8, 185), (0, 93), (1, 18)), (0, 0, (8, 198), (8, 197), (0, 96), (1, 18)), (0, 0, (8, 154), (8, 153), (0, 89), (1, 18)), (0, 1, (8, 166), (8, 165), (0, 92), (1, 18)), (0, 0, (8, 174), (8, 172), (8, 173), (1, 18)), (0, 3, (8, 194), (8, 193), (0, 95), (1, 18)), (0, 0, (8, 218), (8, 216), (8, 217), (1, 18)), (0, 0, (8, 233), (8, 231), (8, 232), (1, 18)), (0, 0, (8, 237), (8, 235), (8, 236), (1, 18)), (0, 1, (9, 29), (9, 28), (0, 101), (1, 18)), (0, 3, (9, 62), (9, 61), (0, 105), (1, 18)), (1, 1, (4, 162), (4, 161), (0, 0), (1, 26)), (1, 2, (3, 155), (3, 154), (0, 0), (1, 10)), (1, 2, (2, 52), (2, 51), (0, 0), (1, 10)), (0, 1, (4, 45), (4, 43), (4, 44), (1, 2)), (0, 3, (4, 59), (4, 57), (4, 58), (1, 7)), (0, 2, (4, 63), (4, 61), (4, 62), (1, 2)), (0, 3, (6, 71), (6, 70), (0, 39), (1, 12)), (0, 1, (4, 228), (4, 226), (4, 227), (1, 9)), (0, 2, (4, 155), (4, 153), (4, 154), (1, 9)), (0, 1, (5, 112), (5, 111), (0, 25), (1, 15)), (0, 1, (4, 220), (4, 218), (4, 219), (1, 9)), (0, 4, (5, 101), (5, 100), (0, 24), (1, 15)), (0, 1, (4, 173), (4, 171), (4, 172), (1, 9)), (0, 2, (4, 179), (4, 177), (4, 178), (1, 9)), (0, 2, (5, 6), (5, 5), (0, 16), (1, 9)), (0, 0, (5, 1), (4, 239), (5, 0), (1, 9)), (0, 0, (5, 10), (5, 8), (5, 9), (1, 9)), (0, 3, (6, 59), (6, 58), (0, 37), (1, 12)), (0, 3, (6, 55), (6, 54), (0, 36), (1, 12)), (0, 3, (6, 51), (6, 50), (0, 35), (1, 12)), (0, 3, (6, 59), (6, 58), (0, 37), (1, 12)), (0, 3, (6, 55), (6, 54), (0, 36), (1, 12)), (0, 3, (6, 51), (6, 50), (0, 35), (1, 12)), (0, 3, (6, 59), (6, 58), (0, 37), (1, 12)), (0, 3, (6, 55), (6, 54), (0, 36), (1, 12)), (0, 3, (6, 51), (6, 50), (0, 35), (1, 12)), (0, 3, (6, 59), (6, 58), (0, 37), (1, 12)), (0, 3, (6, 55), (6, 54), (0, 36), (1, 12)), (0, 3, (6, 51), (6, 50), (0, 35), (1, 12)), (0, 3, (6, 59), (6, 58), (0, 37), (1, 12)), (0, 3, (6, 55), (6, 54), (0, 36), (1, 12)), (0, 3, (6, 51), (6, 50), (0, 35), (1, 12)), (0, 3, (6, 59), (6, 58), (0, 37), (1, 12)), (0, 3, (6, 55), (6, 54), (0, 36), (1, 12)), (0, 3, (6, 51), (6, 50), (0, 35), (1, 12)), (0, 3, (6, 59), (6, 58), (0, 37), (1, 12)), (0, 3, (6, 55), (6, 54), (0, 36), (1, 12)), (0, 3, (6, 51), (6, 50), (0, 35), (1, 12)), (0, 3, (6, 59), (6, 58), (0, 37), (1, 12)), (0, 3, (6, 55), (6, 54), (0, 36), (1, 12)), (0, 3, (6, 51), (6, 50), (0, 35), (1, 12)), (0, 3, (6, 59), (6, 58), (0, 37), (1, 12)), (0, 3, (6, 55), (6, 54), (0, 36), (1, 12)), (0, 3, (6, 51), (6, 50), (0, 35), (1, 12)), (0, 4, (5, 97), (5, 96), (0, 23), (1, 15)), (0, 4, (5, 97), (5, 96), (0, 23), (1, 15)), (0, 4, (5, 97), (5, 96), (0, 23), (1, 15)), (0, 1, (3, 177), (3, 176), (0, 0), (1, 2)), (0, 1, (3, 160), (3, 158), (3, 159), (1, 2)), (0, 0, (4, 7), (4, 5), (4, 6), (1, 2)), (1, 3, (6, 16), (6, 15), (0, 0), (1, 13)), (0, 0, (4, 41), (4, 39), (4, 40), (1, 2)), (0, 2, (6, 9), (6, 8), (0, 33), (1, 13)), (0, 0, (4, 88), (4, 86), (4, 87), (1, 2)), (0, 2, (6, 3), (6, 1), (6, 2), (1, 13)), (0, 0, (4, 216), (4, 215), (0, 15), (1, 9)), (0, 1, (4, 212), (4, 210), (4, 211), (1, 9)), (0, 1, (4, 191), (4, 189), (4, 190), (1, 9)), (0, 2, (4, 204), (4, 203), (0, 14), (1, 9)), (0, 1, (4, 200), (4, 198), (4, 199), (1, 9)), (0, 1, (4, 196), (4, 194), (4, 195), (1, 9)), (0, 2, (6, 27), (6, 26), (0, 34), (1, 13)), (0, 1, (6, 23), (6, 21), (6, 22), (1, 13)), (0, 1, (5, 40), (5, 39), (0, 19), (1, 14)), (0, 1, (5, 60), (5, 59), (0, 21), (1, 14)), (0, 1, (5, 53), (5, 52), (0, 20), (1, 14)), (0, 1, (5, 36), (5, 34), (5, 35), (1, 14)), (0, 1, (5, 85), (5, 83), (5, 84), (1, 14)), (0, 2, (5, 73), (5, 72), (0, 22), (1, 14)), (0, 2, (5, 69), (5, 67), (5, 68), (1, 14)), (0, 1, (5, 173), (5, 172), (0, 29), (1, 14)), (0, 2, (5, 164), (5, 162), (5, 163), (1, 14)), (0, 0, (3, 152), (3, 150), (3, 151), (1, 7)), (0, 1, (4, 92), (4, 90), (4, 91), (1, 7)), (0, 2, (4, 31), (4, 29), (4, 30), (1, 7)), (0, 2, (4, 76), (4, 74), (4, 75), (1, 7)), (0, 2, (5, 145), (5, 143), (5, 144), (1, 7)), (0, 0, (4, 23), (4, 22), (0, 4), (1, 8)), (0, 0, (4, 54), (4, 53), (0, 6), (1, 8)), (0, 0, (4, 67), (4, 66), (0, 7), (1, 8)), (0, 0, (4, 72), (4, 71), (0, 8), (1, 8)), (0, 0, (4, 84), (4, 83), (0, 9), (1, 8)), (0, 0, (4, 15), (4, 14), (0, 3), (1, 8)), (0, 0, (3, 148), (3, 146), (3, 147), (1, 8)), (0, 1, (5, 218), (5, 216), (5, 217), (1, 16)), (0, 1, (4, 169), (4, 167), (4, 168), (1, 11)), (0, 1, (5, 22), (5, 20), (5, 21), (1, 11)), (0, 0, (4, 99), (4, 97), (4, 98), (1, 9)), (0, 3, (5, 93), (5, 91), (5, 92), (1, 15)), (0, 1, (6, 78), (6, 76), (6, 77), (1, 12)), (0, 2, (6, 44), (6, 42), (6, 43), (1, 12)), (0, 3, (6, 91), (6, 90), (0, 40), (1, 12)), (0, 2, (6, 87), (6, 85), (6, 86), (1, 12)), (0, 5, (3, 132), (3, 130), (3, 131), (1, 1)), (0, 0, (3, 144), (3, 142), (3, 143), (1, 1)), (0, 2, (6, 118), (6, 116), (6, 117), (1, 1)), (0, 2, (4, 115), (4, 113), (4, 114), (1, 1)), (0, 1, (6, 192), (6, 191), (0, 43), (1, 1)), (0, 2, (6, 188), (6, 186), (6, 187), (1, 1)), (0, 1, (4, 131), (4, 129), (4, 130), (1, 1)), (0, 2, (4, 147), (4, 145), (4, 146), (1, 1)), (0, 2, (4, 143), (4, 141), (4, 142), (1, 1)), (0, 1, (4, 187), (4, 185), (4, 186), (1, 1)), (0, 1, (4, 208), (4, 206), (4, 207), (1, 1)), (0, 0, (5, 18), (5, 16), (5, 17), (1, 1)), (0, 1, (5, 31), (5, 30), (0, 18), (1, 1)), (0, 1, (5, 27), (5, 25), (5, 26), (1, 1)), (0, 2, (5, 65), (5, 63), (5, 64), (1, 1)), (0, 1, (5, 81), (5, 79), (5, 80), (1, 1)), (0, 2, (5, 89), (5, 87), (5, 88), (1, 1)), (0, 1, (5, 126), (5, 124), (5, 125), (1, 1)), (0, 2, (5, 137), (5, 135), (5, 136), (1, 1)), (0, 1, (5, 159), (5, 157), (5, 158), (1, 1)), (0, 1, (5, 188), (5, 186), (5, 187), (1, 1)), (0, 3, (5, 198), (5, 197), (0, 30), (1, 1)), (0, 1, (5, 193), (5, 191), (5, 192), (1, 1)), (0, 2, (5, 206), (5, 204), (5, 205), (1, 1)), (0, 1, (5, 210), (5, 208), (5, 209), (1, 1)), (0, 2, (5, 214), (5, 212), (5, 213), (1, 1)), (0, 1, (5, 235), (5, 234), (0, 32), (1, 1)), (0, 3, (5, 231), (5, 229), (5, 230), (1, 1)), (0, 1, (5, 239), (5, 237), (5, 238), (1, 1)), (0, 0, (6, 40), (6, 38), (6, 39), (1, 1)), (0, 1, (6, 83), (6, 81), (6, 82), (1, 1)), (0, 1, (6, 102), (6, 100), (6, 101), (1, 1)), (0, 1, (6, 106), (6, 104), (6, 105), (1, 1)), (0, 5, (6, 201), (6, 199), (6, 200), (1, 18)), (0, 0, (7, 160), (7, 159), (0, 46), (1, 18)), (0, 1, (7, 229), (7, 228), (0, 61), (1, 18)), (0, 2, (7, 210), (7, 209), (0, 57), (1, 18)), (0, 3, (7, 206), (7, 205), (0, 56), (1, 18)), (0, 1, (7, 186), (7, 185), (0, 51), (1, 18)), (0, 2, (7, 202), (7, 201), (0, 55), (1, 18)), (0, 2, (7, 198), (7, 197), (0, 54), (1, 18)), (0, 0, (7, 221), (7, 220), (0, 59), (1, 18)), (0, 0, (7, 217), (7, 216), (0, 58), (1, 18)), (0, 0, (7, 225), (7, 224), (0, 60), (1, 18)), (0, 0, (7, 174), (7, 173), (0, 48), (1, 18)), (0, 0, (7, 152), (7, 150), (7, 151), (1, 18)), (0, 1, (8, 67), (8, 66), (0, 75), (1, 18)), (0, 1, (8, 5), (8, 4), (0, 63), (1, 18)), (0, 1, (8, 59), (8, 58), (0, 74), (1, 18)), (0, 1, (8, 13), (8, 12), (0, 65), (1, 18)), (0, 1, (8, 44), (8, 43), (0, 72), (1, 18)), (0, 1, (8, 24), (8, 23), (0, 67), (1, 18)), (0, 2, (8, 48), (8, 47), (0, 73), (1, 18)), (0, 3, (8, 40), (8, 39), (0, 71), (1, 18)), (0, 2, (8, 36), (8, 35), (0, 70), (1, 18)), (0, 1, (8, 32), (8, 31), (0, 69), (1, 18)), (0, 2, (8, 1), (7, 239), (8, 0), (1, 18)), (0, 2, (8, 55), (8, 53), (8, 54), (1, 18)), (0, 1, (8, 75), (8, 74), (0, 77), (1, 18)), (0, 2, (8, 63), (8, 61), (8, 62), (1, 18)), (0, 1, (8, 79), (8, 77), (8, 78), (1, 18)), (0, 2, (8, 95), (8, 94), (0, 80), (1, 18)), (0, 2, (8, 106), (8, 105), (0, 82), (1, 18)), (0, 1, (8, 114), (8, 113), (0, 83), (1, 18)), (0, 1, (8, 122), (8, 121), (0, 85), (1, 18)), (0, 1, (8, 118), (8, 117), (0, 84), (1, 18)), (0, 2, (8, 138), (8, 137), (0, 88), (1, 18)), (0, 0, (8, 134), (8, 133), (0, 87), (1, 18)), (0, 1, (8, 130), (8, 129), (0, 86), (1, 18)), (0, 2, (8, 91), (8, 89), (8, 90), (1, 18)), (0, 1, (8, 110), (8, 108), (8, 109), (1, 18)), (0, 1, (8, 126), (8, 124), (8, 125), (1, 18)), (0, 2, (8, 146), (8, 144), (8, 145), (1, 18)), (0, 2, (8, 162), (8, 161), (0, 91), (1, 18)), (0, 2, (8, 158), (8, 157), (0, 90), (1, 18)), (0, 1, (8, 150), (8, 148), (8, 149), (1, 18)), (0, 2, (8, 170), (8, 168), (8, 169), (1, 18)), (0, 1, (8, 178), (8, 176), (8, 177), (1, 18)), (0, 3, (8, 190), (8, 189), (0, 94), (1, 18)), (0, 2, (8, 182), (8, 180), (8, 181), (1, 18)), (0, 1, (8, 202), (8, 200), (8, 201), (1, 18)), (0, 1, (8, 206), (8, 204), (8, 205), (1, 18)), (0, 3, (8, 214), (8, 213), (0, 97), (1, 18)), (0, 2, (8, 210), (8, 208), (8, 209), (1, 18)), (0, 1, (8, 222), (8, 220), (8, 221), (1, 18)), (0, 1, (9, 1), (8, 239), (9, 0), (1, 18)), (0, 1, (9, 13), (9, 12), (0, 99), (1, 18)), (0, 1, (9, 5), (9, 3), (9, 4), (1, 18)), (0, 2, (9, 9), (9, 7), (9, 8), (1, 18)), (0, 1, (9, 17), (9, 15), (9, 16), (1, 18)), (0, 2, (9, 25), (9, 24), (0, 100), (1, 18)), (0, 2, (9, 21), (9, 19), (9, 20), (1, 18)), (0, 3, (9, 34), (9, 32), (9, 33), (1, 18)), (0, 0, (9, 42), (9, 41), (0, 102), (1, 18)), (0, 3, (9, 46), (9, 45), (0, 103), (1, 18)), (0, 1, (9, 38), (9, 36), (9, 37), (1, 18)), (0, 1, (9, 50), (9, 48), (9, 49), (1, 18)), (0, 1, (9, 66), (9, 65), (0, 106), (1, 18)), (0, 0, (9, 58), (9, 57), (0, 104), (1, 18)), (0, 0, (9, 78), (9, 77), (0, 109), (1, 18)), (0, 0, (9, 74), (9, 73), (0, 108), (1, 18)), (0, 0, (9, 70), (9, 69), (0, 107), (1, 18)), (0, 0, (9, 54), (9, 52), (9, 53), (1, 18)), (0, 4, (9, 90), (9, 89), (0, 111), (1, 18)), (0, 1, (9, 86), (9, 85), (0, 110), (1, 18)), (0, 1, (9, 82), (9, 80), (9, 81), (1, 18)), (0, 1, (9, 94), (9, 92), (9, 93), (1, 18)), (0, 1, (9, 98), (9, 96), (9, 97), (1, 18)), (0, 1, (9, 102), (9, 100), (9, 101), (1, 18))]
def nc_mq (M : Nat) : Nat × Nat × (Nat × Nat) × (Nat × Nat) × (Nat × Nat) × (Nat × Nat) := (nc_mq_l[M]?).getD (9, 0, (0, 0), (0, 0), (0, 0), (0, 0))
def nc_mchk (M : Nat) : Bool :=
  (nc_at (nc_mq M).2.2.1 (.code (nc_y M) (nc_b M) (nc_mL M) (nc_rt (nc_rk M))) &&
  (nc_at (nc_mq M).2.2.2.1 (if (nc_mq M).1 = 0 then .instanceMethod (nc_y M) else .static (nc_y M)) &&
  ((Nat.beq (nc_mq M).1 1 || nc_at (nc_mq M).2.2.2.2.1 (.selects (nc_y M).cls (nc_y M) (nc_y M))) &&
  (nc_at (nc_mq M).2.2.2.2.2 (.initialized (nc_y M).cls) &&
  (plainName (nc_y M).cls && (decide ((nc_y M).cls = nc_cn (nc_own M)) && ((decide ((nc_y M).cls ≠ "java/lang/invoke/MethodHandle") && decide ((nc_y M).cls ≠ "java/lang/invoke/VarHandle")) &&
  (decide ((parseMethodDescriptor (nc_y M).desc).map (fun d => d.parameters.length) = some (nc_mq M).2.1) && (Nat.ble (nc_mL M) 45 && Nat.ble (nc_own M) 14)))))))))
theorem nc_mk_0 : (List.range' 0 24).all nc_mchk = true := by decide +kernel
theorem nc_mk_1 : (List.range' 24 24).all nc_mchk = true := by decide +kernel
theorem nc_mk_2 : (List.range' 48 24).all nc_mchk = true := by decide +kernel
theorem nc_mk_3 : (List.range' 72 24).all nc_mchk = true := by decide +kernel
theorem nc_mk_4 : (List.range' 96 24).all nc_mchk = true := by decide +kernel
theorem nc_mk_5 : (List.range' 120 24).all nc_mchk = true := by decide +kernel
theorem nc_mk_6 : (List.range' 144 24).all nc_mchk = true := by decide +kernel
theorem nc_mk_7 : (List.range' 168 24).all nc_mchk = true := by decide +kernel
theorem nc_mk_8 : (List.range' 192 24).all nc_mchk = true := by decide +kernel
theorem nc_mk_9 : (List.range' 216 24).all nc_mchk = true := by decide +kernel
theorem nc_mk_10 : (List.range' 240 24).all nc_mchk = true := by decide +kernel
theorem nc_mk_11 : (List.range' 264 22).all nc_mchk = true := by decide +kernel
theorem nc_mok (M : Nat) (h : M < nc_many) : nc_mchk M = true := by
  have key : ∀ (a n : Nat), (List.range' a n).all nc_mchk = true → a ≤ M → M < a + n → nc_mchk M = true := fun a n hh h1 h2 => List.all_eq_true.mp hh M (List.mem_range'_1.mpr ⟨h1, h2⟩)
  have h : M < 286 := h
  by_cases q0 : M < 24
  · exact key 0 24 nc_mk_0 (by omega) (by omega)
  by_cases q1 : M < 48
  · exact key 24 24 nc_mk_1 (by omega) (by omega)
  by_cases q2 : M < 72
  · exact key 48 24 nc_mk_2 (by omega) (by omega)
  by_cases q3 : M < 96
  · exact key 72 24 nc_mk_3 (by omega) (by omega)
  by_cases q4 : M < 120
  · exact key 96 24 nc_mk_4 (by omega) (by omega)
  by_cases q5 : M < 144
  · exact key 120 24 nc_mk_5 (by omega) (by omega)
  by_cases q6 : M < 168
  · exact key 144 24 nc_mk_6 (by omega) (by omega)
  by_cases q7 : M < 192
  · exact key 168 24 nc_mk_7 (by omega) (by omega)
  by_cases q8 : M < 216
  · exact key 192 24 nc_mk_8 (by omega) (by omega)
  by_cases q9 : M < 240
  · exact key 216 24 nc_mk_9 (by omega) (by omega)
  by_cases q10 : M < 264
  · exact key 240 24 nc_mk_10 (by omega) (by omega)
  by_cases q11 : M < 286
  · exact key 264 22 nc_mk_11 (by omega) (by omega)
  exact absurd h (by omega)
/-- an instruction's length, and its place among the locals -/
def nc_lok (n : Nat) (i : Instr) (len : Nat) : Bool := match i with
  | .tableswitch _ _ _ _ => true
  | .istore_n k => Nat.beq len 1 && Nat.blt k.val n
  | .astore_n k => Nat.beq len 1 && Nat.blt k.val n
  | .lstore_n k => Nat.beq len 1 && Nat.blt (k.val + 1) n
  | .istore k => Nat.beq len 2 && Nat.blt k n
  | .astore k => Nat.beq len 2 && Nat.blt k n
  | .lstore k => Nat.beq len 2 && Nat.blt (k + 1) n
  | .iinc k _ => Nat.beq len 3 && Nat.blt k n
  | .bipush _ => Nat.beq len 2
  | .ldc _ => Nat.beq len 2
  | .iload _ => Nat.beq len 2
  | .lload _ => Nat.beq len 2
  | .aload _ => Nat.beq len 2
  | .sipush _ => Nat.beq len 3
  | .ldc_w _ => Nat.beq len 3
  | .ldc2_w _ => Nat.beq len 3
  | .goto _ => Nat.beq len 3
  | .ifCond _ _ => Nat.beq len 3
  | .if_icmp _ _ => Nat.beq len 3
  | .ifnull _ => Nat.beq len 3
  | .ifnonnull _ => Nat.beq len 3
  | .getfield _ => Nat.beq len 3
  | .putfield _ => Nat.beq len 3
  | .invokestatic _ => Nat.beq len 3
  | .invokevirtual _ => Nat.beq len 3
  | .invokespecial _ => true
  | .new _ => true
  | .newarray _ => true
  | .anewarray _ => true
  | _ => Nat.beq len 1
/-- a jump goes to a place -/
def nc_jok (pc : Nat) (i : Instr) : Bool := match i with
  | .goto o => decide (0 ≤ (pc : Int) + o)
  | .ifCond _ o => decide (0 ≤ (pc : Int) + o)
  | .if_icmp _ o => decide (0 ≤ (pc : Int) + o)
  | _ => true
def nc_dchk (b : ByteArray) (n : Nat) (l : List (Nat × Instr × Nat)) : Bool := l.all (fun q => decide (decode b q.1 = .ok (q.2.1, q.2.2)) && (nc_lok n q.2.1 q.2.2 && nc_jok q.1 q.2.1))
theorem nc_dk_X1_setAfter : nc_dchk cX1_setAfter 2 nc_c_X1_setAfter = true := by decide +kernel
theorem nc_dk_X1_countNews : nc_dchk cX1_countNews 3 nc_c_X1_countNews = true := by decide +kernel
theorem nc_dk_X2_isLie : nc_dchk cX2_isLie 2 nc_c_X2_isLie = true := by decide +kernel
theorem nc_dk_X2_allCows : nc_dchk cX2_allCows 1 nc_c_X2_allCows = true := by decide +kernel
theorem nc_dk_X2_allNews : nc_dchk cX2_allNews 1 nc_c_X2_allNews = true := by decide +kernel
theorem nc_dk_X2_slotOf : nc_dchk cX2_slotOf 4 nc_c_X2_slotOf = true := by decide +kernel
theorem nc_dk_X2_hedgesOf : nc_dchk cX2_hedgesOf 4 nc_c_X2_hedgesOf = true := by decide +kernel
theorem nc_dk_X2_comesTo : nc_dchk cX2_comesTo 8 nc_c_X2_comesTo = true := by decide +kernel
theorem nc_dk_X4_draw : nc_dchk cX4_draw 2 nc_c_X4_draw = true := by decide +kernel
theorem nc_dk_X5_clear : nc_dchk cX5_clear 1 nc_c_X5_clear = true := by decide +kernel
theorem nc_dk_X7_isDry : nc_dchk cX7_isDry 2 nc_c_X7_isDry = true := by decide +kernel
theorem nc_dk_X7_isCurdled : nc_dchk cX7_isCurdled 2 nc_c_X7_isCurdled = true := by decide +kernel
theorem nc_dk_X7_comes : nc_dchk cX7_comes 3 nc_c_X7_comes = true := by decide +kernel
theorem nc_dk_X7_addedBy : nc_dchk cX7_addedBy 5 nc_c_X7_addedBy = true := by decide +kernel
theorem nc_dk_X7_heardByOthers : nc_dchk cX7_heardByOthers 4 nc_c_X7_heardByOthers = true := by decide +kernel
theorem nc_dk_X7_talking : nc_dchk cX7_talking 4 nc_c_X7_talking = true := by decide +kernel
theorem nc_dk_X7_forget : nc_dchk cX7_forget 3 nc_c_X7_forget = true := by decide +kernel
theorem nc_dk_X7_allPails : nc_dchk cX7_allPails 3 nc_c_X7_allPails = true := by decide +kernel
theorem nc_dk_X7_pailsOn : nc_dchk cX7_pailsOn 3 nc_c_X7_pailsOn = true := by decide +kernel
theorem nc_dk_X9_clear : nc_dchk cX9_clear 1 nc_c_X9_clear = true := by decide +kernel
theorem nc_dk_X9_put : nc_dchk cX9_put 4 nc_c_X9_put = true := by decide +kernel
theorem nc_dk_X9_compares : nc_dchk cX9_compares 3 nc_c_X9_compares = true := by decide +kernel
theorem nc_dk_X10_withLetter : nc_dchk cX10_withLetter 3 nc_c_X10_withLetter = true := by decide +kernel
theorem nc_dk_X10_isLetter : nc_dchk cX10_isLetter 1 nc_c_X10_isLetter = true := by decide +kernel
theorem nc_dk_X10_isDigit : nc_dchk cX10_isDigit 1 nc_c_X10_isDigit = true := by decide +kernel
theorem nc_dk_X10_append : nc_dchk cX10_append 3 nc_c_X10_append = true := by decide +kernel
theorem nc_dk_X10_at : nc_dchk cX10_at 2 nc_c_X10_at = true := by decide +kernel
theorem nc_dk_X10_toldWord : nc_dchk cX10_toldWord 4 nc_c_X10_toldWord = true := by decide +kernel
theorem nc_dk_X10_add : nc_dchk cX10_add 6 nc_c_X10_add = true := by decide +kernel
theorem nc_dk_X10_next : nc_dchk cX10_next 1 nc_c_X10_next = true := by decide +kernel
theorem nc_dk_X10_fail : nc_dchk cX10_fail 2 nc_c_X10_fail = true := by decide +kernel
theorem nc_dk_X10_word : nc_dchk cX10_word 1 nc_c_X10_word = true := by decide +kernel
theorem nc_dk_X10_isSign : nc_dchk cX10_isSign 2 nc_c_X10_isSign = true := by decide +kernel
theorem nc_dk_X11_end : nc_dchk cX11_end 2 nc_c_X11_end = true := by decide +kernel
theorem nc_dk_X11_fault : nc_dchk cX11_fault 1 nc_c_X11_fault = true := by decide +kernel
theorem nc_dk_X11_told : nc_dchk cX11_told 1 nc_c_X11_told = true := by decide +kernel
theorem nc_dk_X11_planAt : nc_dchk cX11_planAt 2 nc_c_X11_planAt = true := by decide +kernel
theorem nc_dk_X11_parted : nc_dchk cX11_parted 1 nc_c_X11_parted = true := by decide +kernel
theorem nc_dk_X11_surely : nc_dchk cX11_surely 1 nc_c_X11_surely = true := by decide +kernel
theorem nc_dk_X11_ask : nc_dchk cX11_ask 1 nc_c_X11_ask = true := by decide +kernel
theorem nc_dk_X11_written : nc_dchk cX11_written 2 nc_c_X11_written = true := by decide +kernel
theorem nc_dk_X11_count : nc_dchk cX11_count 2 nc_c_X11_count = true := by decide +kernel
theorem nc_dk_X11_isFarm : nc_dchk cX11_isFarm 2 nc_c_X11_isFarm = true := by decide +kernel
theorem nc_dk_X11_isCow : nc_dchk cX11_isCow 2 nc_c_X11_isCow = true := by decide +kernel
theorem nc_dk_X11_isNews : nc_dchk cX11_isNews 2 nc_c_X11_isNews = true := by decide +kernel
theorem nc_dk_X11_cowsWith : nc_dchk cX11_cowsWith 5 nc_c_X11_cowsWith = true := by decide +kernel
theorem nc_dk_X12_thrown : nc_dchk cX12_thrown 1 nc_c_X12_thrown = true := by decide +kernel
theorem nc_dk_X12_throwsIf : nc_dchk cX12_throwsIf 2 nc_c_X12_throwsIf = true := by decide +kernel
theorem nc_dk_X12_four : nc_dchk cX12_four 3 nc_c_X12_four = true := by decide +kernel
theorem nc_dk_X12_end : nc_dchk cX12_end 2 nc_c_X12_end = true := by decide +kernel
theorem nc_dk_X12_taken : nc_dchk cX12_taken 2 nc_c_X12_taken = true := by decide +kernel
theorem nc_dk_X12_isIn : nc_dchk cX12_isIn 3 nc_c_X12_isIn = true := by decide +kernel
theorem nc_dk_X12_bitOf : nc_dchk cX12_bitOf 2 nc_c_X12_bitOf = true := by decide +kernel
theorem nc_dk_X12_greater : nc_dchk cX12_greater 2 nc_c_X12_greater = true := by decide +kernel
theorem nc_dk_X12_absolute : nc_dchk cX12_absolute 1 nc_c_X12_absolute = true := by decide +kernel
theorem nc_dk_X12_bits : nc_dchk cX12_bits 3 nc_c_X12_bits = true := by decide +kernel
theorem nc_dk_X12_octet : nc_dchk cX12_octet 2 nc_c_X12_octet = true := by decide +kernel
theorem nc_dk_X12_peek : nc_dchk cX12_peek 1 nc_c_X12_peek = true := by decide +kernel
theorem nc_dk_X12_isSmall : nc_dchk cX12_isSmall 1 nc_c_X12_isSmall = true := by decide +kernel
theorem nc_dk_X12_isDigit : nc_dchk cX12_isDigit 1 nc_c_X12_isDigit = true := by decide +kernel
theorem nc_dk_X12_bad : nc_dchk cX12_bad 2 nc_c_X12_bad = true := by decide +kernel
theorem nc_dk_X12_isWord : nc_dchk cX12_isWord 3 nc_c_X12_isWord = true := by decide +kernel
theorem nc_dk_X12_isSign : nc_dchk cX12_isSign 2 nc_c_X12_isSign = true := by decide +kernel
theorem nc_dk_X12_isName : nc_dchk cX12_isName 3 nc_c_X12_isName = true := by decide +kernel
theorem nc_dk_X12_seek : nc_dchk cX12_seek 4 nc_c_X12_seek = true := by decide +kernel
theorem nc_dk_X12_fault : nc_dchk cX12_fault 1 nc_c_X12_fault = true := by decide +kernel
theorem nc_dk_X12_knows : nc_dchk cX12_knows 4 nc_c_X12_knows = true := by decide +kernel
theorem nc_dk_X12_isCurdled : nc_dchk cX12_isCurdled 2 nc_c_X12_isCurdled = true := by decide +kernel
theorem nc_dk_X12_cowsOf : nc_dchk cX12_cowsOf 4 nc_c_X12_cowsOf = true := by decide +kernel
theorem nc_dk_X12_talks : nc_dchk cX12_talks 2 nc_c_X12_talks = true := by decide +kernel
theorem nc_dk_X12_allPails : nc_dchk cX12_allPails 1 nc_c_X12_allPails = true := by decide +kernel
theorem nc_dk_X12_keep : nc_dchk cX12_keep 2 nc_c_X12_keep = true := by decide +kernel
theorem nc_dk_X12_undo : nc_dchk cX12_undo 2 nc_c_X12_undo = true := by decide +kernel
theorem nc_dk_X12_tries : nc_dchk cX12_tries 2 nc_c_X12_tries = true := by decide +kernel
theorem nc_dk_X12_back : nc_dchk cX12_back 2 nc_c_X12_back = true := by decide +kernel
theorem nc_dk_X12_peace : nc_dchk cX12_peace 3 nc_c_X12_peace = true := by decide +kernel
theorem nc_dk_X12_tellsSet : nc_dchk cX12_tellsSet 2 nc_c_X12_tellsSet = true := by decide +kernel
theorem nc_dk_X12_told : nc_dchk cX12_told 1 nc_c_X12_told = true := by decide +kernel
theorem nc_dk_X12_digit : nc_dchk cX12_digit 6 nc_c_X12_digit = true := by decide +kernel
theorem nc_dk_X12_parted : nc_dchk cX12_parted 1 nc_c_X12_parted = true := by decide +kernel
theorem nc_dk_X12_surely : nc_dchk cX12_surely 1 nc_c_X12_surely = true := by decide +kernel
theorem nc_dk_X12_ask : nc_dchk cX12_ask 1 nc_c_X12_ask = true := by decide +kernel
theorem nc_dk_X12_draw : nc_dchk cX12_draw 2 nc_c_X12_draw = true := by decide +kernel
theorem nc_dk_X12_code : nc_dchk cX12_code 4 nc_c_X12_code = true := by decide +kernel
theorem nc_dk_J6_bitCount_0f7a4 : nc_dchk cJ6_bitCount_0f7a4 1 nc_c_J6_bitCount_0f7a4 = true := by decide +kernel
theorem nc_dk_J7_fill_d0a16 : nc_dchk cJ7_fill_d0a16 5 nc_c_J7_fill_d0a16 = true := by decide +kernel
theorem nc_dk_J7_fill_53178 : nc_dchk cJ7_fill_53178 4 nc_c_J7_fill_53178 = true := by decide +kernel
theorem nc_dk_X10_mustBeSign : nc_dchk cX10_mustBeSign 2 nc_c_X10_mustBeSign = true := by decide +kernel
theorem nc_dk_X2_named : nc_dchk cX2_named 5 nc_c_X2_named = true := by decide +kernel
theorem nc_dk_X10_nextNumber : nc_dchk cX10_nextNumber 3 nc_c_X10_nextNumber = true := by decide +kernel
theorem nc_dk_X9_readPlainOne : nc_dchk cX9_readPlainOne 6 nc_c_X9_readPlainOne = true := by decide +kernel
theorem nc_dk_X7_sumOf : nc_dchk cX7_sumOf 5 nc_c_X7_sumOf = true := by decide +kernel
theorem nc_dk_X7_whyNotTold : nc_dchk cX7_whyNotTold 3 nc_c_X7_whyNotTold = true := by decide +kernel
theorem nc_dk_X8_weigh : nc_dchk cX8_weigh 2 nc_c_X8_weigh = true := by decide +kernel
theorem nc_dk_X7_milk : nc_dchk cX7_milk 2 nc_c_X7_milk = true := by decide +kernel
theorem nc_dk_X8_goLast : nc_dchk cX8_goLast 11 nc_c_X8_goLast = true := by decide +kernel
theorem nc_dk_X7_copyFrom : nc_dchk cX7_copyFrom 2 nc_c_X7_copyFrom = true := by decide +kernel
theorem nc_dk_X7_hear : nc_dchk cX7_hear 4 nc_c_X7_hear = true := by decide +kernel
theorem nc_dk_X7_allComes : nc_dchk cX7_allComes 4 nc_c_X7_allComes = true := by decide +kernel
theorem nc_dk_X7_talk : nc_dchk cX7_talk 3 nc_c_X7_talk = true := by decide +kernel
theorem nc_dk_X7_turn : nc_dchk cX7_turn 2 nc_c_X7_turn = true := by decide +kernel
theorem nc_dk_X9_readOne : nc_dchk cX9_readOne 6 nc_c_X9_readOne = true := by decide +kernel
theorem nc_dk_X9_readAll : nc_dchk cX9_readAll 5 nc_c_X9_readAll = true := by decide +kernel
theorem nc_dk_X9_readCond : nc_dchk cX9_readCond 5 nc_c_X9_readCond = true := by decide +kernel
theorem nc_dk_X8_go : nc_dchk cX8_go 9 nc_c_X8_go = true := by decide +kernel
theorem nc_dk_X10_addRun : nc_dchk cX10_addRun 8 nc_c_X10_addRun = true := by decide +kernel
theorem nc_dk_X10_start : nc_dchk cX10_start 6 nc_c_X10_start = true := by decide +kernel
theorem nc_dk_X10_nextLine : nc_dchk cX10_nextLine 1 nc_c_X10_nextLine = true := by decide +kernel
theorem nc_dk_X0_readArg : nc_dchk cX0_readArg 3 nc_c_X0_readArg = true := by decide +kernel
theorem nc_dk_X10_closesLine : nc_dchk cX10_closesLine 1 nc_c_X10_closesLine = true := by decide +kernel
theorem nc_dk_X0_readLine : nc_dchk cX0_readLine 7 nc_c_X0_readLine = true := by decide +kernel
theorem nc_dk_X10_mustEnd : nc_dchk cX10_mustEnd 1 nc_c_X10_mustEnd = true := by decide +kernel
theorem nc_dk_X0_read : nc_dchk cX0_read 4 nc_c_X0_read = true := by decide +kernel
theorem nc_dk_X7_fillPails : nc_dchk cX7_fillPails 5 nc_c_X7_fillPails = true := by decide +kernel
theorem nc_dk_X7_goDays : nc_dchk cX7_goDays 4 nc_c_X7_goDays = true := by decide +kernel
theorem nc_dk_X7_whyNotFound : nc_dchk cX7_whyNotFound 2 nc_c_X7_whyNotFound = true := by decide +kernel
theorem nc_dk_X7_wouldDoubt : nc_dchk cX7_wouldDoubt 3 nc_c_X7_wouldDoubt = true := by decide +kernel
theorem nc_dk_X7_wouldDry : nc_dchk cX7_wouldDry 4 nc_c_X7_wouldDry = true := by decide +kernel
theorem nc_dk_X7_findOut : nc_dchk cX7_findOut 4 nc_c_X7_findOut = true := by decide +kernel
theorem nc_dk_X0_live : nc_dchk cX0_live 4 nc_c_X0_live = true := by decide +kernel
theorem nc_dk_X0_judge : nc_dchk cX0_judge 3 nc_c_X0_judge = true := by decide +kernel
theorem nc_dk_X1_lookAt : nc_dchk cX1_lookAt 6 nc_c_X1_lookAt = true := by decide +kernel
theorem nc_dk_X1_milkBy : nc_dchk cX1_milkBy 2 nc_c_X1_milkBy = true := by decide +kernel
theorem nc_dk_X1_bestOf : nc_dchk cX1_bestOf 8 nc_c_X1_bestOf = true := by decide +kernel
theorem nc_dk_X1_most : nc_dchk cX1_most 2 nc_c_X1_most = true := by decide +kernel
theorem nc_dk_X1_mostWithoutLies : nc_dchk cX1_mostWithoutLies 2 nc_c_X1_mostWithoutLies = true := by decide +kernel
theorem nc_dk_X1_isLess : nc_dchk cX1_isLess 4 nc_c_X1_isLess = true := by decide +kernel
theorem nc_dk_X1_fewestLies : nc_dchk cX1_fewestLies 8 nc_c_X1_fewestLies = true := by decide +kernel
theorem nc_dk_X1_mostEven : nc_dchk cX1_mostEven 6 nc_c_X1_mostEven = true := by decide +kernel
theorem nc_dk_X1_setsThatGive : nc_dchk cX1_setsThatGive 8 nc_c_X1_setsThatGive = true := by decide +kernel
theorem nc_dk_X2_clear : nc_dchk cX2_clear 1 nc_c_X2_clear = true := by decide +kernel
theorem nc_dk_X2_copyFrom : nc_dchk cX2_copyFrom 2 nc_c_X2_copyFrom = true := by decide +kernel
theorem nc_dk_X2_nextNewName : nc_dchk cX2_nextNewName 3 nc_c_X2_nextNewName = true := by decide +kernel
theorem nc_dk_X2_hasHedge : nc_dchk cX2_hasHedge 3 nc_c_X2_hasHedge = true := by decide +kernel
theorem nc_dk_X2_fewestBetween : nc_dchk cX2_fewestBetween 5 nc_c_X2_fewestBetween = true := by decide +kernel
theorem nc_dk_X3_readFarm : nc_dchk cX3_readFarm 2 nc_c_X3_readFarm = true := by decide +kernel
theorem nc_dk_X3_readCow : nc_dchk cX3_readCow 3 nc_c_X3_readCow = true := by decide +kernel
theorem nc_dk_X3_readNews : nc_dchk cX3_readNews 3 nc_c_X3_readNews = true := by decide +kernel
theorem nc_dk_X3_readHedge : nc_dchk cX3_readHedge 4 nc_c_X3_readHedge = true := by decide +kernel
theorem nc_dk_X3_readHears : nc_dchk cX3_readHears 1 nc_c_X3_readHears = true := by decide +kernel
theorem nc_dk_X3_readLine : nc_dchk cX3_readLine 1 nc_c_X3_readLine = true := by decide +kernel
theorem nc_dk_X3_read : nc_dchk cX3_read 2 nc_c_X3_read = true := by decide +kernel
theorem nc_dk_X4_tellAndFind : nc_dchk cX4_tellAndFind 5 nc_c_X4_tellAndFind = true := by decide +kernel
theorem nc_dk_X5_keep : nc_dchk cX5_keep 3 nc_c_X5_keep = true := by decide +kernel
theorem nc_dk_X5_takeBack : nc_dchk cX5_takeBack 3 nc_c_X5_takeBack = true := by decide +kernel
theorem nc_dk_X7_clear : nc_dchk cX7_clear 1 nc_c_X7_clear = true := by decide +kernel
theorem nc_dk_X8_seek : nc_dchk cX8_seek 4 nc_c_X8_seek = true := by decide +kernel
theorem nc_dk_X9_copyFrom : nc_dchk cX9_copyFrom 2 nc_c_X9_copyFrom = true := by decide +kernel
theorem nc_dk_X9_read : nc_dchk cX9_read 3 nc_c_X9_read = true := by decide +kernel
theorem nc_dk_X9_isSo : nc_dchk cX9_isSo 4 nc_c_X9_isSo = true := by decide +kernel
theorem nc_dk_X9_holds : nc_dchk cX9_holds 6 nc_c_X9_holds = true := by decide +kernel
theorem nc_dk_X11_feed : nc_dchk cX11_feed 6 nc_c_X11_feed = true := by decide +kernel
theorem nc_dk_X11_dairy : nc_dchk cX11_dairy 2 nc_c_X11_dairy = true := by decide +kernel
theorem nc_dk_X11_cow : nc_dchk cX11_cow 3 nc_c_X11_cow = true := by decide +kernel
theorem nc_dk_X11_news : nc_dchk cX11_news 3 nc_c_X11_news = true := by decide +kernel
theorem nc_dk_X11_milkOfFarm : nc_dchk cX11_milkOfFarm 4 nc_c_X11_milkOfFarm = true := by decide +kernel
theorem nc_dk_X11_farm : nc_dchk cX11_farm 3 nc_c_X11_farm = true := by decide +kernel
theorem nc_dk_X11_now : nc_dchk cX11_now 2 nc_c_X11_now = true := by decide +kernel
theorem nc_dk_X11_why : nc_dchk cX11_why 3 nc_c_X11_why = true := by decide +kernel
theorem nc_dk_X11_tell : nc_dchk cX11_tell 4 nc_c_X11_tell = true := by decide +kernel
theorem nc_dk_X11_find : nc_dchk cX11_find 3 nc_c_X11_find = true := by decide +kernel
theorem nc_dk_X11_days : nc_dchk cX11_days 2 nc_c_X11_days = true := by decide +kernel
theorem nc_dk_X11_undo : nc_dchk cX11_undo 1 nc_c_X11_undo = true := by decide +kernel
theorem nc_dk_X11_canBeTold : nc_dchk cX11_canBeTold 2 nc_c_X11_canBeTold = true := by decide +kernel
theorem nc_dk_X11_best : nc_dchk cX11_best 2 nc_c_X11_best = true := by decide +kernel
theorem nc_dk_X11_least : nc_dchk cX11_least 3 nc_c_X11_least = true := by decide +kernel
theorem nc_dk_X11_honest : nc_dchk cX11_honest 2 nc_c_X11_honest = true := by decide +kernel
theorem nc_dk_X11_plan : nc_dchk cX11_plan 3 nc_c_X11_plan = true := by decide +kernel
theorem nc_dk_X11_allKnow : nc_dchk cX11_allKnow 4 nc_c_X11_allKnow = true := by decide +kernel
theorem nc_dk_X11_part : nc_dchk cX11_part 3 nc_c_X11_part = true := by decide +kernel
theorem nc_dk_X11_tasted : nc_dchk cX11_tasted 3 nc_c_X11_tasted = true := by decide +kernel
theorem nc_dk_X11_dries : nc_dchk cX11_dries 2 nc_c_X11_dries = true := by decide +kernel
theorem nc_dk_X11_fits : nc_dchk cX11_fits 5 nc_c_X11_fits = true := by decide +kernel
theorem nc_dk_X11_week : nc_dchk cX11_week 4 nc_c_X11_week = true := by decide +kernel
theorem nc_dk_X11_pails : nc_dchk cX11_pails 3 nc_c_X11_pails = true := by decide +kernel
theorem nc_dk_X11_ahead : nc_dchk cX11_ahead 2 nc_c_X11_ahead = true := by decide +kernel
theorem nc_dk_X11_drawn : nc_dchk cX11_drawn 5 nc_c_X11_drawn = true := by decide +kernel
theorem nc_dk_X11_driesByDraws : nc_dchk cX11_driesByDraws 3 nc_c_X11_driesByDraws = true := by decide +kernel
theorem nc_dk_X11_odds : nc_dchk cX11_odds 6 nc_c_X11_odds = true := by decide +kernel
theorem nc_dk_X11_book : nc_dchk cX11_book 4 nc_c_X11_book = true := by decide +kernel
theorem nc_dk_X11_sentence : nc_dchk cX11_sentence 2 nc_c_X11_sentence = true := by decide +kernel
theorem nc_dk_X11_said : nc_dchk cX11_said 4 nc_c_X11_said = true := by decide +kernel
theorem nc_dk_X11_image : nc_dchk cX11_image 3 nc_c_X11_image = true := by decide +kernel
theorem nc_dk_X11_restore : nc_dchk cX11_restore 3 nc_c_X11_restore = true := by decide +kernel
theorem nc_dk_X12_feed : nc_dchk cX12_feed 6 nc_c_X12_feed = true := by decide +kernel
theorem nc_dk_X12_next : nc_dchk cX12_next 4 nc_c_X12_next = true := by decide +kernel
theorem nc_dk_X12_sign : nc_dchk cX12_sign 2 nc_c_X12_sign = true := by decide +kernel
theorem nc_dk_X12_takes : nc_dchk cX12_takes 3 nc_c_X12_takes = true := by decide +kernel
theorem nc_dk_X12_puts : nc_dchk cX12_puts 4 nc_c_X12_puts = true := by decide +kernel
theorem nc_dk_X12_fresh : nc_dchk cX12_fresh 2 nc_c_X12_fresh = true := by decide +kernel
theorem nc_dk_X12_looksAt : nc_dchk cX12_looksAt 3 nc_c_X12_looksAt = true := by decide +kernel
theorem nc_dk_X12_takesName : nc_dchk cX12_takesName 3 nc_c_X12_takesName = true := by decide +kernel
theorem nc_dk_X12_kindOf : nc_dchk cX12_kindOf 1 nc_c_X12_kindOf = true := by decide +kernel
theorem nc_dk_X12_readNews : nc_dchk cX12_readNews 2 nc_c_X12_readNews = true := by decide +kernel
theorem nc_dk_X12_readHedge : nc_dchk cX12_readHedge 5 nc_c_X12_readHedge = true := by decide +kernel
theorem nc_dk_X12_line : nc_dchk cX12_line 2 nc_c_X12_line = true := by decide +kernel
theorem nc_dk_X12_dairy : nc_dchk cX12_dairy 2 nc_c_X12_dairy = true := by decide +kernel
theorem nc_dk_X12_isFarm : nc_dchk cX12_isFarm 2 nc_c_X12_isFarm = true := by decide +kernel
theorem nc_dk_X12_isCow : nc_dchk cX12_isCow 2 nc_c_X12_isCow = true := by decide +kernel
theorem nc_dk_X12_isNews : nc_dchk cX12_isNews 2 nc_c_X12_isNews = true := by decide +kernel
theorem nc_dk_X12_isDry : nc_dchk cX12_isDry 2 nc_c_X12_isDry = true := by decide +kernel
theorem nc_dk_X12_isLie : nc_dchk cX12_isLie 2 nc_c_X12_isLie = true := by decide +kernel
theorem nc_dk_X12_known : nc_dchk cX12_known 4 nc_c_X12_known = true := by decide +kernel
theorem nc_dk_X12_hasOther : nc_dchk cX12_hasOther 5 nc_c_X12_hasOther = true := by decide +kernel
theorem nc_dk_X12_milkBy : nc_dchk cX12_milkBy 8 nc_c_X12_milkBy = true := by decide +kernel
theorem nc_dk_X12_milkWith : nc_dchk cX12_milkWith 4 nc_c_X12_milkWith = true := by decide +kernel
theorem nc_dk_X12_milk : nc_dchk cX12_milk 2 nc_c_X12_milk = true := by decide +kernel
theorem nc_dk_X12_cow : nc_dchk cX12_cow 3 nc_c_X12_cow = true := by decide +kernel
theorem nc_dk_X12_news : nc_dchk cX12_news 6 nc_c_X12_news = true := by decide +kernel
theorem nc_dk_X12_milkOf : nc_dchk cX12_milkOf 4 nc_c_X12_milkOf = true := by decide +kernel
theorem nc_dk_X12_farm : nc_dchk cX12_farm 5 nc_c_X12_farm = true := by decide +kernel
theorem nc_dk_X12_now : nc_dchk cX12_now 4 nc_c_X12_now = true := by decide +kernel
theorem nc_dk_X12_whyTell : nc_dchk cX12_whyTell 3 nc_c_X12_whyTell = true := by decide +kernel
theorem nc_dk_X12_tells : nc_dchk cX12_tells 3 nc_c_X12_tells = true := by decide +kernel
theorem nc_dk_X12_whyFind : nc_dchk cX12_whyFind 2 nc_c_X12_whyFind = true := by decide +kernel
theorem nc_dk_X12_driedBy : nc_dchk cX12_driedBy 4 nc_c_X12_driedBy = true := by decide +kernel
theorem nc_dk_X12_finds : nc_dchk cX12_finds 4 nc_c_X12_finds = true := by decide +kernel
theorem nc_dk_X12_comesTo : nc_dchk cX12_comesTo 6 nc_c_X12_comesTo = true := by decide +kernel
theorem nc_dk_X12_day : nc_dchk cX12_day 2 nc_c_X12_day = true := by decide +kernel
theorem nc_dk_X12_goesOn : nc_dchk cX12_goesOn 3 nc_c_X12_goesOn = true := by decide +kernel
theorem nc_dk_X12_tell : nc_dchk cX12_tell 4 nc_c_X12_tell = true := by decide +kernel
theorem nc_dk_X12_find : nc_dchk cX12_find 3 nc_c_X12_find = true := by decide +kernel
theorem nc_dk_X12_days : nc_dchk cX12_days 2 nc_c_X12_days = true := by decide +kernel
theorem nc_dk_X12_why : nc_dchk cX12_why 3 nc_c_X12_why = true := by decide +kernel
theorem nc_dk_X12_mayHear : nc_dchk cX12_mayHear 3 nc_c_X12_mayHear = true := by decide +kernel
theorem nc_dk_X12_bestOf : nc_dchk cX12_bestOf 7 nc_c_X12_bestOf = true := by decide +kernel
theorem nc_dk_X12_best : nc_dchk cX12_best 3 nc_c_X12_best = true := by decide +kernel
theorem nc_dk_X12_least : nc_dchk cX12_least 7 nc_c_X12_least = true := by decide +kernel
theorem nc_dk_X12_honest : nc_dchk cX12_honest 2 nc_c_X12_honest = true := by decide +kernel
theorem nc_dk_X12_planned : nc_dchk cX12_planned 8 nc_c_X12_planned = true := by decide +kernel
theorem nc_dk_X12_plan : nc_dchk cX12_plan 8 nc_c_X12_plan = true := by decide +kernel
theorem nc_dk_X12_planAt : nc_dchk cX12_planAt 2 nc_c_X12_planAt = true := by decide +kernel
theorem nc_dk_X12_allKnow : nc_dchk cX12_allKnow 6 nc_c_X12_allKnow = true := by decide +kernel
theorem nc_dk_X12_comes : nc_dchk cX12_comes 7 nc_c_X12_comes = true := by decide +kernel
theorem nc_dk_X12_part : nc_dchk cX12_part 6 nc_c_X12_part = true := by decide +kernel
theorem nc_dk_X12_tasted : nc_dchk cX12_tasted 6 nc_c_X12_tasted = true := by decide +kernel
theorem nc_dk_X12_dries : nc_dchk cX12_dries 2 nc_c_X12_dries = true := by decide +kernel
theorem nc_dk_X12_isPast : nc_dchk cX12_isPast 2 nc_c_X12_isPast = true := by decide +kernel
theorem nc_dk_X12_week : nc_dchk cX12_week 5 nc_c_X12_week = true := by decide +kernel
theorem nc_dk_X12_pails : nc_dchk cX12_pails 3 nc_c_X12_pails = true := by decide +kernel
theorem nc_dk_X12_ahead : nc_dchk cX12_ahead 4 nc_c_X12_ahead = true := by decide +kernel
theorem nc_dk_X12_draws : nc_dchk cX12_draws 6 nc_c_X12_draws = true := by decide +kernel
theorem nc_dk_X12_drawn : nc_dchk cX12_drawn 3 nc_c_X12_drawn = true := by decide +kernel
theorem nc_dk_X12_odds : nc_dchk cX12_odds 6 nc_c_X12_odds = true := by decide +kernel
theorem nc_dk_X12_bookLine : nc_dchk cX12_bookLine 4 nc_c_X12_bookLine = true := by decide +kernel
theorem nc_dk_X12_does : nc_dchk cX12_does 5 nc_c_X12_does = true := by decide +kernel
theorem nc_dk_X12_book : nc_dchk cX12_book 4 nc_c_X12_book = true := by decide +kernel
theorem nc_dk_X12_written : nc_dchk cX12_written 2 nc_c_X12_written = true := by decide +kernel
theorem nc_dk_X12_joins : nc_dchk cX12_joins 2 nc_c_X12_joins = true := by decide +kernel
theorem nc_dk_X12_nots : nc_dchk cX12_nots 1 nc_c_X12_nots = true := by decide +kernel
theorem nc_dk_X12_leafOf : nc_dchk cX12_leafOf 1 nc_c_X12_leafOf = true := by decide +kernel
theorem nc_dk_X12_operand : nc_dchk cX12_operand 5 nc_c_X12_operand = true := by decide +kernel
theorem nc_dk_X12_behind : nc_dchk cX12_behind 1 nc_c_X12_behind = true := by decide +kernel
theorem nc_dk_X12_sentence : nc_dchk cX12_sentence 3 nc_c_X12_sentence = true := by decide +kernel
theorem nc_dk_X12_isLeaf : nc_dchk cX12_isLeaf 6 nc_c_X12_isLeaf = true := by decide +kernel
theorem nc_dk_X12_isSaid : nc_dchk cX12_isSaid 5 nc_c_X12_isSaid = true := by decide +kernel
theorem nc_dk_X12_said : nc_dchk cX12_said 4 nc_c_X12_said = true := by decide +kernel
theorem nc_dk_X12_image : nc_dchk cX12_image 3 nc_c_X12_image = true := by decide +kernel
theorem nc_dk_X12_restore : nc_dchk cX12_restore 3 nc_c_X12_restore = true := by decide +kernel
theorem nc_dk_X12_count : nc_dchk cX12_count 2 nc_c_X12_count = true := by decide +kernel
def nc_dall (M : Nat) : Prop := nc_dchk (nc_b M) (nc_mL M) (nc_code M) = true
theorem nc_da_0 : ∀ M, M < 32 → 0 ≤ M → nc_dall M := by
  intro M h1 h2
  by_cases e0 : M = 0
  · subst e0
    exact nc_dk_X1_setAfter
  by_cases e1 : M = 1
  · subst e1
    exact nc_dk_X1_countNews
  by_cases e2 : M = 2
  · subst e2
    exact nc_dk_X2_isLie
  by_cases e3 : M = 3
  · subst e3
    exact nc_dk_X2_allCows
  by_cases e4 : M = 4
  · subst e4
    exact nc_dk_X2_allNews
  by_cases e5 : M = 5
  · subst e5
    exact nc_dk_X2_slotOf
  by_cases e6 : M = 6
  · subst e6
    exact nc_dk_X2_hedgesOf
  by_cases e7 : M = 7
  · subst e7
    exact nc_dk_X2_comesTo
  by_cases e8 : M = 8
  · subst e8
    exact nc_dk_X4_draw
  by_cases e9 : M = 9
  · subst e9
    exact nc_dk_X5_clear
  by_cases e10 : M = 10
  · subst e10
    exact nc_dk_X7_isDry
  by_cases e11 : M = 11
  · subst e11
    exact nc_dk_X7_isCurdled
  by_cases e12 : M = 12
  · subst e12
    exact nc_dk_X7_comes
  by_cases e13 : M = 13
  · subst e13
    exact nc_dk_X7_addedBy
  by_cases e14 : M = 14
  · subst e14
    exact nc_dk_X7_heardByOthers
  by_cases e15 : M = 15
  · subst e15
    exact nc_dk_X7_talking
  by_cases e16 : M = 16
  · subst e16
    exact nc_dk_X7_forget
  by_cases e17 : M = 17
  · subst e17
    exact nc_dk_X7_allPails
  by_cases e18 : M = 18
  · subst e18
    exact nc_dk_X7_pailsOn
  by_cases e19 : M = 19
  · subst e19
    exact nc_dk_X9_clear
  by_cases e20 : M = 20
  · subst e20
    exact nc_dk_X9_put
  by_cases e21 : M = 21
  · subst e21
    exact nc_dk_X9_compares
  by_cases e22 : M = 22
  · subst e22
    exact nc_dk_X10_withLetter
  by_cases e23 : M = 23
  · subst e23
    exact nc_dk_X10_isLetter
  by_cases e24 : M = 24
  · subst e24
    exact nc_dk_X10_isDigit
  by_cases e25 : M = 25
  · subst e25
    exact nc_dk_X10_append
  by_cases e26 : M = 26
  · subst e26
    exact nc_dk_X10_at
  by_cases e27 : M = 27
  · subst e27
    exact nc_dk_X10_toldWord
  by_cases e28 : M = 28
  · subst e28
    exact nc_dk_X10_add
  by_cases e29 : M = 29
  · subst e29
    exact nc_dk_X10_next
  by_cases e30 : M = 30
  · subst e30
    exact nc_dk_X10_fail
  by_cases e31 : M = 31
  · subst e31
    exact nc_dk_X10_word
  omega
theorem nc_da_1 : ∀ M, M < 64 → 32 ≤ M → nc_dall M := by
  intro M h1 h2
  by_cases e32 : M = 32
  · subst e32
    exact nc_dk_X10_isSign
  by_cases e33 : M = 33
  · subst e33
    exact nc_dk_X11_end
  by_cases e34 : M = 34
  · subst e34
    exact nc_dk_X11_fault
  by_cases e35 : M = 35
  · subst e35
    exact nc_dk_X11_told
  by_cases e36 : M = 36
  · subst e36
    exact nc_dk_X11_planAt
  by_cases e37 : M = 37
  · subst e37
    exact nc_dk_X11_parted
  by_cases e38 : M = 38
  · subst e38
    exact nc_dk_X11_surely
  by_cases e39 : M = 39
  · subst e39
    exact nc_dk_X11_ask
  by_cases e40 : M = 40
  · subst e40
    exact nc_dk_X11_written
  by_cases e41 : M = 41
  · subst e41
    exact nc_dk_X11_count
  by_cases e42 : M = 42
  · subst e42
    exact nc_dk_X11_isFarm
  by_cases e43 : M = 43
  · subst e43
    exact nc_dk_X11_isCow
  by_cases e44 : M = 44
  · subst e44
    exact nc_dk_X11_isNews
  by_cases e45 : M = 45
  · subst e45
    exact nc_dk_X11_cowsWith
  by_cases e46 : M = 46
  · subst e46
    exact nc_dk_X12_thrown
  by_cases e47 : M = 47
  · subst e47
    exact nc_dk_X12_throwsIf
  by_cases e48 : M = 48
  · subst e48
    exact nc_dk_X12_four
  by_cases e49 : M = 49
  · subst e49
    exact nc_dk_X12_end
  by_cases e50 : M = 50
  · subst e50
    exact nc_dk_X12_taken
  by_cases e51 : M = 51
  · subst e51
    exact nc_dk_X12_isIn
  by_cases e52 : M = 52
  · subst e52
    exact nc_dk_X12_bitOf
  by_cases e53 : M = 53
  · subst e53
    exact nc_dk_X12_greater
  by_cases e54 : M = 54
  · subst e54
    exact nc_dk_X12_absolute
  by_cases e55 : M = 55
  · subst e55
    exact nc_dk_X12_bits
  by_cases e56 : M = 56
  · subst e56
    exact nc_dk_X12_octet
  by_cases e57 : M = 57
  · subst e57
    exact nc_dk_X12_peek
  by_cases e58 : M = 58
  · subst e58
    exact nc_dk_X12_isSmall
  by_cases e59 : M = 59
  · subst e59
    exact nc_dk_X12_isDigit
  by_cases e60 : M = 60
  · subst e60
    exact nc_dk_X12_bad
  by_cases e61 : M = 61
  · subst e61
    exact nc_dk_X12_isWord
  by_cases e62 : M = 62
  · subst e62
    exact nc_dk_X12_isSign
  by_cases e63 : M = 63
  · subst e63
    exact nc_dk_X12_isName
  omega
theorem nc_da_2 : ∀ M, M < 96 → 64 ≤ M → nc_dall M := by
  intro M h1 h2
  by_cases e64 : M = 64
  · subst e64
    exact nc_dk_X12_seek
  by_cases e65 : M = 65
  · subst e65
    exact nc_dk_X12_fault
  by_cases e66 : M = 66
  · subst e66
    exact nc_dk_X12_knows
  by_cases e67 : M = 67
  · subst e67
    exact nc_dk_X12_isCurdled
  by_cases e68 : M = 68
  · subst e68
    exact nc_dk_X12_cowsOf
  by_cases e69 : M = 69
  · subst e69
    exact nc_dk_X12_talks
  by_cases e70 : M = 70
  · subst e70
    exact nc_dk_X12_allPails
  by_cases e71 : M = 71
  · subst e71
    exact nc_dk_X12_keep
  by_cases e72 : M = 72
  · subst e72
    exact nc_dk_X12_undo
  by_cases e73 : M = 73
  · subst e73
    exact nc_dk_X12_tries
  by_cases e74 : M = 74
  · subst e74
    exact nc_dk_X12_back
  by_cases e75 : M = 75
  · subst e75
    exact nc_dk_X12_peace
  by_cases e76 : M = 76
  · subst e76
    exact nc_dk_X12_tellsSet
  by_cases e77 : M = 77
  · subst e77
    exact nc_dk_X12_told
  by_cases e78 : M = 78
  · subst e78
    exact nc_dk_X12_digit
  by_cases e79 : M = 79
  · subst e79
    exact nc_dk_X12_parted
  by_cases e80 : M = 80
  · subst e80
    exact nc_dk_X12_surely
  by_cases e81 : M = 81
  · subst e81
    exact nc_dk_X12_ask
  by_cases e82 : M = 82
  · subst e82
    exact nc_dk_X12_draw
  by_cases e83 : M = 83
  · subst e83
    exact nc_dk_X12_code
  by_cases e84 : M = 84
  · subst e84
    exact nc_dk_J6_bitCount_0f7a4
  by_cases e85 : M = 85
  · subst e85
    exact nc_dk_J7_fill_d0a16
  by_cases e86 : M = 86
  · subst e86
    exact nc_dk_J7_fill_53178
  by_cases e87 : M = 87
  · subst e87
    exact nc_dk_X10_mustBeSign
  by_cases e88 : M = 88
  · subst e88
    exact nc_dk_X2_named
  by_cases e89 : M = 89
  · subst e89
    exact nc_dk_X10_nextNumber
  by_cases e90 : M = 90
  · subst e90
    exact nc_dk_X9_readPlainOne
  by_cases e91 : M = 91
  · subst e91
    exact nc_dk_X7_sumOf
  by_cases e92 : M = 92
  · subst e92
    exact nc_dk_X7_whyNotTold
  by_cases e93 : M = 93
  · subst e93
    exact nc_dk_X8_weigh
  by_cases e94 : M = 94
  · subst e94
    exact nc_dk_X7_milk
  by_cases e95 : M = 95
  · subst e95
    exact nc_dk_X8_goLast
  omega
theorem nc_da_3 : ∀ M, M < 128 → 96 ≤ M → nc_dall M := by
  intro M h1 h2
  by_cases e96 : M = 96
  · subst e96
    exact nc_dk_X7_copyFrom
  by_cases e97 : M = 97
  · subst e97
    exact nc_dk_X7_hear
  by_cases e98 : M = 98
  · subst e98
    exact nc_dk_X7_allComes
  by_cases e99 : M = 99
  · subst e99
    exact nc_dk_X7_talk
  by_cases e100 : M = 100
  · subst e100
    exact nc_dk_X7_turn
  by_cases e101 : M = 101
  · subst e101
    exact nc_dk_X9_readOne
  by_cases e102 : M = 102
  · subst e102
    exact nc_dk_X9_readAll
  by_cases e103 : M = 103
  · subst e103
    exact nc_dk_X9_readCond
  by_cases e104 : M = 104
  · subst e104
    exact nc_dk_X9_readOne
  by_cases e105 : M = 105
  · subst e105
    exact nc_dk_X9_readAll
  by_cases e106 : M = 106
  · subst e106
    exact nc_dk_X9_readCond
  by_cases e107 : M = 107
  · subst e107
    exact nc_dk_X9_readOne
  by_cases e108 : M = 108
  · subst e108
    exact nc_dk_X9_readAll
  by_cases e109 : M = 109
  · subst e109
    exact nc_dk_X9_readCond
  by_cases e110 : M = 110
  · subst e110
    exact nc_dk_X9_readOne
  by_cases e111 : M = 111
  · subst e111
    exact nc_dk_X9_readAll
  by_cases e112 : M = 112
  · subst e112
    exact nc_dk_X9_readCond
  by_cases e113 : M = 113
  · subst e113
    exact nc_dk_X9_readOne
  by_cases e114 : M = 114
  · subst e114
    exact nc_dk_X9_readAll
  by_cases e115 : M = 115
  · subst e115
    exact nc_dk_X9_readCond
  by_cases e116 : M = 116
  · subst e116
    exact nc_dk_X9_readOne
  by_cases e117 : M = 117
  · subst e117
    exact nc_dk_X9_readAll
  by_cases e118 : M = 118
  · subst e118
    exact nc_dk_X9_readCond
  by_cases e119 : M = 119
  · subst e119
    exact nc_dk_X9_readOne
  by_cases e120 : M = 120
  · subst e120
    exact nc_dk_X9_readAll
  by_cases e121 : M = 121
  · subst e121
    exact nc_dk_X9_readCond
  by_cases e122 : M = 122
  · subst e122
    exact nc_dk_X9_readOne
  by_cases e123 : M = 123
  · subst e123
    exact nc_dk_X9_readAll
  by_cases e124 : M = 124
  · subst e124
    exact nc_dk_X9_readCond
  by_cases e125 : M = 125
  · subst e125
    exact nc_dk_X9_readOne
  by_cases e126 : M = 126
  · subst e126
    exact nc_dk_X9_readAll
  by_cases e127 : M = 127
  · subst e127
    exact nc_dk_X9_readCond
  omega
theorem nc_da_4 : ∀ M, M < 160 → 128 ≤ M → nc_dall M := by
  intro M h1 h2
  by_cases e128 : M = 128
  · subst e128
    exact nc_dk_X8_go
  by_cases e129 : M = 129
  · subst e129
    exact nc_dk_X8_go
  by_cases e130 : M = 130
  · subst e130
    exact nc_dk_X8_go
  by_cases e131 : M = 131
  · subst e131
    exact nc_dk_X10_addRun
  by_cases e132 : M = 132
  · subst e132
    exact nc_dk_X10_start
  by_cases e133 : M = 133
  · subst e133
    exact nc_dk_X10_nextLine
  by_cases e134 : M = 134
  · subst e134
    exact nc_dk_X0_readArg
  by_cases e135 : M = 135
  · subst e135
    exact nc_dk_X10_closesLine
  by_cases e136 : M = 136
  · subst e136
    exact nc_dk_X0_readLine
  by_cases e137 : M = 137
  · subst e137
    exact nc_dk_X10_mustEnd
  by_cases e138 : M = 138
  · subst e138
    exact nc_dk_X0_read
  by_cases e139 : M = 139
  · subst e139
    exact nc_dk_X7_fillPails
  by_cases e140 : M = 140
  · subst e140
    exact nc_dk_X7_goDays
  by_cases e141 : M = 141
  · subst e141
    exact nc_dk_X7_whyNotFound
  by_cases e142 : M = 142
  · subst e142
    exact nc_dk_X7_wouldDoubt
  by_cases e143 : M = 143
  · subst e143
    exact nc_dk_X7_wouldDry
  by_cases e144 : M = 144
  · subst e144
    exact nc_dk_X7_findOut
  by_cases e145 : M = 145
  · subst e145
    exact nc_dk_X0_live
  by_cases e146 : M = 146
  · subst e146
    exact nc_dk_X0_judge
  by_cases e147 : M = 147
  · subst e147
    exact nc_dk_X1_lookAt
  by_cases e148 : M = 148
  · subst e148
    exact nc_dk_X1_milkBy
  by_cases e149 : M = 149
  · subst e149
    exact nc_dk_X1_bestOf
  by_cases e150 : M = 150
  · subst e150
    exact nc_dk_X1_most
  by_cases e151 : M = 151
  · subst e151
    exact nc_dk_X1_mostWithoutLies
  by_cases e152 : M = 152
  · subst e152
    exact nc_dk_X1_isLess
  by_cases e153 : M = 153
  · subst e153
    exact nc_dk_X1_fewestLies
  by_cases e154 : M = 154
  · subst e154
    exact nc_dk_X1_mostEven
  by_cases e155 : M = 155
  · subst e155
    exact nc_dk_X1_setsThatGive
  by_cases e156 : M = 156
  · subst e156
    exact nc_dk_X2_clear
  by_cases e157 : M = 157
  · subst e157
    exact nc_dk_X2_copyFrom
  by_cases e158 : M = 158
  · subst e158
    exact nc_dk_X2_nextNewName
  by_cases e159 : M = 159
  · subst e159
    exact nc_dk_X2_hasHedge
  omega
theorem nc_da_5 : ∀ M, M < 192 → 160 ≤ M → nc_dall M := by
  intro M h1 h2
  by_cases e160 : M = 160
  · subst e160
    exact nc_dk_X2_fewestBetween
  by_cases e161 : M = 161
  · subst e161
    exact nc_dk_X3_readFarm
  by_cases e162 : M = 162
  · subst e162
    exact nc_dk_X3_readCow
  by_cases e163 : M = 163
  · subst e163
    exact nc_dk_X3_readNews
  by_cases e164 : M = 164
  · subst e164
    exact nc_dk_X3_readHedge
  by_cases e165 : M = 165
  · subst e165
    exact nc_dk_X3_readHears
  by_cases e166 : M = 166
  · subst e166
    exact nc_dk_X3_readLine
  by_cases e167 : M = 167
  · subst e167
    exact nc_dk_X3_read
  by_cases e168 : M = 168
  · subst e168
    exact nc_dk_X4_tellAndFind
  by_cases e169 : M = 169
  · subst e169
    exact nc_dk_X5_keep
  by_cases e170 : M = 170
  · subst e170
    exact nc_dk_X5_takeBack
  by_cases e171 : M = 171
  · subst e171
    exact nc_dk_X7_clear
  by_cases e172 : M = 172
  · subst e172
    exact nc_dk_X8_seek
  by_cases e173 : M = 173
  · subst e173
    exact nc_dk_X9_copyFrom
  by_cases e174 : M = 174
  · subst e174
    exact nc_dk_X9_read
  by_cases e175 : M = 175
  · subst e175
    exact nc_dk_X9_isSo
  by_cases e176 : M = 176
  · subst e176
    exact nc_dk_X9_holds
  by_cases e177 : M = 177
  · subst e177
    exact nc_dk_X11_feed
  by_cases e178 : M = 178
  · subst e178
    exact nc_dk_X11_dairy
  by_cases e179 : M = 179
  · subst e179
    exact nc_dk_X11_cow
  by_cases e180 : M = 180
  · subst e180
    exact nc_dk_X11_news
  by_cases e181 : M = 181
  · subst e181
    exact nc_dk_X11_milkOfFarm
  by_cases e182 : M = 182
  · subst e182
    exact nc_dk_X11_farm
  by_cases e183 : M = 183
  · subst e183
    exact nc_dk_X11_now
  by_cases e184 : M = 184
  · subst e184
    exact nc_dk_X11_why
  by_cases e185 : M = 185
  · subst e185
    exact nc_dk_X11_tell
  by_cases e186 : M = 186
  · subst e186
    exact nc_dk_X11_find
  by_cases e187 : M = 187
  · subst e187
    exact nc_dk_X11_days
  by_cases e188 : M = 188
  · subst e188
    exact nc_dk_X11_undo
  by_cases e189 : M = 189
  · subst e189
    exact nc_dk_X11_canBeTold
  by_cases e190 : M = 190
  · subst e190
    exact nc_dk_X11_best
  by_cases e191 : M = 191
  · subst e191
    exact nc_dk_X11_least
  omega
theorem nc_da_6 : ∀ M, M < 224 → 192 ≤ M → nc_dall M := by
  intro M h1 h2
  by_cases e192 : M = 192
  · subst e192
    exact nc_dk_X11_honest
  by_cases e193 : M = 193
  · subst e193
    exact nc_dk_X11_plan
  by_cases e194 : M = 194
  · subst e194
    exact nc_dk_X11_allKnow
  by_cases e195 : M = 195
  · subst e195
    exact nc_dk_X11_part
  by_cases e196 : M = 196
  · subst e196
    exact nc_dk_X11_tasted
  by_cases e197 : M = 197
  · subst e197
    exact nc_dk_X11_dries
  by_cases e198 : M = 198
  · subst e198
    exact nc_dk_X11_fits
  by_cases e199 : M = 199
  · subst e199
    exact nc_dk_X11_week
  by_cases e200 : M = 200
  · subst e200
    exact nc_dk_X11_pails
  by_cases e201 : M = 201
  · subst e201
    exact nc_dk_X11_ahead
  by_cases e202 : M = 202
  · subst e202
    exact nc_dk_X11_drawn
  by_cases e203 : M = 203
  · subst e203
    exact nc_dk_X11_driesByDraws
  by_cases e204 : M = 204
  · subst e204
    exact nc_dk_X11_odds
  by_cases e205 : M = 205
  · subst e205
    exact nc_dk_X11_book
  by_cases e206 : M = 206
  · subst e206
    exact nc_dk_X11_sentence
  by_cases e207 : M = 207
  · subst e207
    exact nc_dk_X11_said
  by_cases e208 : M = 208
  · subst e208
    exact nc_dk_X11_image
  by_cases e209 : M = 209
  · subst e209
    exact nc_dk_X11_restore
  by_cases e210 : M = 210
  · subst e210
    exact nc_dk_X12_feed
  by_cases e211 : M = 211
  · subst e211
    exact nc_dk_X12_next
  by_cases e212 : M = 212
  · subst e212
    exact nc_dk_X12_sign
  by_cases e213 : M = 213
  · subst e213
    exact nc_dk_X12_takes
  by_cases e214 : M = 214
  · subst e214
    exact nc_dk_X12_puts
  by_cases e215 : M = 215
  · subst e215
    exact nc_dk_X12_fresh
  by_cases e216 : M = 216
  · subst e216
    exact nc_dk_X12_looksAt
  by_cases e217 : M = 217
  · subst e217
    exact nc_dk_X12_takesName
  by_cases e218 : M = 218
  · subst e218
    exact nc_dk_X12_kindOf
  by_cases e219 : M = 219
  · subst e219
    exact nc_dk_X12_readNews
  by_cases e220 : M = 220
  · subst e220
    exact nc_dk_X12_readHedge
  by_cases e221 : M = 221
  · subst e221
    exact nc_dk_X12_line
  by_cases e222 : M = 222
  · subst e222
    exact nc_dk_X12_dairy
  by_cases e223 : M = 223
  · subst e223
    exact nc_dk_X12_isFarm
  omega
theorem nc_da_7 : ∀ M, M < 256 → 224 ≤ M → nc_dall M := by
  intro M h1 h2
  by_cases e224 : M = 224
  · subst e224
    exact nc_dk_X12_isCow
  by_cases e225 : M = 225
  · subst e225
    exact nc_dk_X12_isNews
  by_cases e226 : M = 226
  · subst e226
    exact nc_dk_X12_isDry
  by_cases e227 : M = 227
  · subst e227
    exact nc_dk_X12_isLie
  by_cases e228 : M = 228
  · subst e228
    exact nc_dk_X12_known
  by_cases e229 : M = 229
  · subst e229
    exact nc_dk_X12_hasOther
  by_cases e230 : M = 230
  · subst e230
    exact nc_dk_X12_milkBy
  by_cases e231 : M = 231
  · subst e231
    exact nc_dk_X12_milkWith
  by_cases e232 : M = 232
  · subst e232
    exact nc_dk_X12_milk
  by_cases e233 : M = 233
  · subst e233
    exact nc_dk_X12_cow
  by_cases e234 : M = 234
  · subst e234
    exact nc_dk_X12_news
  by_cases e235 : M = 235
  · subst e235
    exact nc_dk_X12_milkOf
  by_cases e236 : M = 236
  · subst e236
    exact nc_dk_X12_farm
  by_cases e237 : M = 237
  · subst e237
    exact nc_dk_X12_now
  by_cases e238 : M = 238
  · subst e238
    exact nc_dk_X12_whyTell
  by_cases e239 : M = 239
  · subst e239
    exact nc_dk_X12_tells
  by_cases e240 : M = 240
  · subst e240
    exact nc_dk_X12_whyFind
  by_cases e241 : M = 241
  · subst e241
    exact nc_dk_X12_driedBy
  by_cases e242 : M = 242
  · subst e242
    exact nc_dk_X12_finds
  by_cases e243 : M = 243
  · subst e243
    exact nc_dk_X12_comesTo
  by_cases e244 : M = 244
  · subst e244
    exact nc_dk_X12_day
  by_cases e245 : M = 245
  · subst e245
    exact nc_dk_X12_goesOn
  by_cases e246 : M = 246
  · subst e246
    exact nc_dk_X12_tell
  by_cases e247 : M = 247
  · subst e247
    exact nc_dk_X12_find
  by_cases e248 : M = 248
  · subst e248
    exact nc_dk_X12_days
  by_cases e249 : M = 249
  · subst e249
    exact nc_dk_X12_why
  by_cases e250 : M = 250
  · subst e250
    exact nc_dk_X12_mayHear
  by_cases e251 : M = 251
  · subst e251
    exact nc_dk_X12_bestOf
  by_cases e252 : M = 252
  · subst e252
    exact nc_dk_X12_best
  by_cases e253 : M = 253
  · subst e253
    exact nc_dk_X12_least
  by_cases e254 : M = 254
  · subst e254
    exact nc_dk_X12_honest
  by_cases e255 : M = 255
  · subst e255
    exact nc_dk_X12_planned
  omega
theorem nc_da_8 : ∀ M, M < 286 → 256 ≤ M → nc_dall M := by
  intro M h1 h2
  by_cases e256 : M = 256
  · subst e256
    exact nc_dk_X12_plan
  by_cases e257 : M = 257
  · subst e257
    exact nc_dk_X12_planAt
  by_cases e258 : M = 258
  · subst e258
    exact nc_dk_X12_allKnow
  by_cases e259 : M = 259
  · subst e259
    exact nc_dk_X12_comes
  by_cases e260 : M = 260
  · subst e260
    exact nc_dk_X12_part
  by_cases e261 : M = 261
  · subst e261
    exact nc_dk_X12_tasted
  by_cases e262 : M = 262
  · subst e262
    exact nc_dk_X12_dries
  by_cases e263 : M = 263
  · subst e263
    exact nc_dk_X12_isPast
  by_cases e264 : M = 264
  · subst e264
    exact nc_dk_X12_week
  by_cases e265 : M = 265
  · subst e265
    exact nc_dk_X12_pails
  by_cases e266 : M = 266
  · subst e266
    exact nc_dk_X12_ahead
  by_cases e267 : M = 267
  · subst e267
    exact nc_dk_X12_draws
  by_cases e268 : M = 268
  · subst e268
    exact nc_dk_X12_drawn
  by_cases e269 : M = 269
  · subst e269
    exact nc_dk_X12_odds
  by_cases e270 : M = 270
  · subst e270
    exact nc_dk_X12_bookLine
  by_cases e271 : M = 271
  · subst e271
    exact nc_dk_X12_does
  by_cases e272 : M = 272
  · subst e272
    exact nc_dk_X12_book
  by_cases e273 : M = 273
  · subst e273
    exact nc_dk_X12_written
  by_cases e274 : M = 274
  · subst e274
    exact nc_dk_X12_joins
  by_cases e275 : M = 275
  · subst e275
    exact nc_dk_X12_nots
  by_cases e276 : M = 276
  · subst e276
    exact nc_dk_X12_leafOf
  by_cases e277 : M = 277
  · subst e277
    exact nc_dk_X12_operand
  by_cases e278 : M = 278
  · subst e278
    exact nc_dk_X12_behind
  by_cases e279 : M = 279
  · subst e279
    exact nc_dk_X12_sentence
  by_cases e280 : M = 280
  · subst e280
    exact nc_dk_X12_isLeaf
  by_cases e281 : M = 281
  · subst e281
    exact nc_dk_X12_isSaid
  by_cases e282 : M = 282
  · subst e282
    exact nc_dk_X12_said
  by_cases e283 : M = 283
  · subst e283
    exact nc_dk_X12_image
  by_cases e284 : M = 284
  · subst e284
    exact nc_dk_X12_restore
  by_cases e285 : M = 285
  · subst e285
    exact nc_dk_X12_count
  omega
theorem nc_dok (M : Nat) (h : M < nc_many) : nc_dall M := by
  have h : M < 286 := h
  by_cases q0 : M < 32
  · exact nc_da_0 M (by omega) (by omega)
  by_cases q1 : M < 64
  · exact nc_da_1 M (by omega) (by omega)
  by_cases q2 : M < 96
  · exact nc_da_2 M (by omega) (by omega)
  by_cases q3 : M < 128
  · exact nc_da_3 M (by omega) (by omega)
  by_cases q4 : M < 160
  · exact nc_da_4 M (by omega) (by omega)
  by_cases q5 : M < 192
  · exact nc_da_5 M (by omega) (by omega)
  by_cases q6 : M < 224
  · exact nc_da_6 M (by omega) (by omega)
  by_cases q7 : M < 256
  · exact nc_da_7 M (by omega) (by omega)
  by_cases q8 : M < 286
  · exact nc_da_8 M (by omega) (by omega)
  omega
def nc_fdQ : List (Nat × List (Nat × Nat × Nat × Bool × (Nat × Nat))) := [(0, [(9, 0, 0, false, (2, 173)), (15, 0, 1, false, (2, 174)), (18, 0, 2, false, (2, 175)), (21, 0, 3, false, (2, 176)), (70, 10, 12, false, (1, 107)), (73, 0, 4, false, (2, 177)), (77, 0, 5, false, (2, 179)), (80, 0, 6, false, (2, 181)), (87, 7, 1, false, (2, 57)), (92, 0, 7, false, (2, 183)), (95, 7, 3, false, (2, 62)), (98, 0, 8, false, (2, 185))]), (1, [(9, 1, 2, false, (2, 214)), (15, 1, 3, false, (2, 215)), (18, 1, 8, false, (2, 220)), (22, 1, 9, false, (2, 222)), (25, 1, 10, false, (2, 224)), (28, 1, 0, false, (2, 212)), (32, 1, 1, false, (2, 213)), (40, 1, 4, false, (2, 216)), (43, 2, 7, false, (1, 190)), (55, 2, 6, false, (1, 187)), (62, 7, 7, false, (2, 73)), (67, 2, 5, false, (1, 182)), (75, 1, 5, false, (2, 217)), (81, 1, 6, false, (2, 218)), (88, 1, 7, false, (2, 219)), (94, 2, 3, false, (1, 173)), (97, 7, 6, false, (2, 69))]), (2, [(9, 2, 5, false, (1, 181)), (15, 2, 8, false, (1, 193)), (19, 2, 9, false, (1, 194)), (23, 2, 10, false, (1, 197)), (26, 2, 11, false, (1, 202)), (29, 2, 12, false, (1, 205)), (32, 2, 13, false, (1, 208)), (35, 2, 14, false, (1, 211)), (38, 2, 15, false, (1, 216)), (41, 2, 16, false, (1, 220)), (44, 2, 17, false, (1, 223)), (47, 2, 18, false, (1, 226)), (50, 2, 0, false, (1, 159)), (53, 2, 1, false, (1, 162)), (56, 2, 2, false, (1, 165)), (59, 2, 3, false, (1, 170)), (62, 2, 4, false, (1, 177)), (65, 2, 6, false, (1, 186)), (68, 2, 7, false, (1, 191)), (91, 10, 11, false, (1, 105)), (97, 10, 13, false, (1, 111))]), (3, [(9, 3, 0, false, (2, 34)), (15, 3, 1, false, (2, 35)), (24, 3, 2, false, (2, 36)), (41, 2, 0, false, (1, 160)), (71, 2, 1, false, (1, 163)), (81, 2, 2, false, (1, 167)), (95, 2, 10, false, (1, 198)), (99, 2, 9, false, (1, 195)), (102, 2, 11, false, (1, 203)), (105, 10, 12, false, (1, 108)), (108, 2, 12, false, (1, 206)), (111, 2, 13, false, (1, 209)), (114, 2, 3, false, (1, 174)), (117, 2, 14, false, (1, 213)), (120, 2, 7, false, (1, 192)), (123, 2, 15, false, (1, 217)), (126, 2, 6, false, (1, 188)), (132, 2, 4, false, (1, 178)), (138, 2, 16, false, (1, 221)), (141, 2, 17, false, (1, 224)), (144, 2, 18, false, (1, 227)), (147, 2, 5, false, (1, 184))]), (4, [(7, 4, 0, false, (3, 47)), (14, 7, 0, true, (2, 54)), (20, 2, 3, false, (1, 171)), (25, 2, 2, false, (1, 166))]), (5, [(11, 5, 0, false, (2, 134)), (20, 5, 2, false, (2, 136)), (24, 5, 1, false, (2, 135))]), (7, [(9, 7, 5, false, (2, 66)), (15, 7, 6, false, (2, 67)), (18, 7, 7, false, (2, 72)), (21, 7, 8, false, (2, 76)), (24, 7, 9, false, (2, 77)), (27, 7, 10, false, (2, 78)), (30, 7, 11, false, (2, 79)), (33, 7, 12, false, (2, 82)), (36, 7, 13, false, (2, 85)), (39, 7, 14, false, (2, 87)), (42, 7, 15, false, (2, 88)), (45, 7, 16, false, (2, 89)), (48, 7, 0, false, (2, 53)), (58, 7, 1, false, (2, 56)), (62, 7, 2, false, (2, 59)), (65, 7, 3, false, (2, 61)), (68, 7, 4, false, (2, 64)), (87, 2, 5, false, (1, 183)), (96, 2, 14, false, (1, 214)), (105, 2, 2, false, (1, 168)), (112, 2, 12, false, (1, 207)), (127, 2, 11, false, (1, 204)), (133, 2, 3, false, (1, 175)), (140, 2, 6, false, (1, 189)), (143, 2, 15, false, (1, 219)), (146, 2, 10, false, (1, 201)), (161, 2, 4, false, (1, 179)), (164, 2, 18, false, (1, 228)), (171, 2, 16, false, (1, 222)), (174, 2, 17, false, (1, 225)), (184, 2, 13, false, (1, 210))]), (8, [(9, 8, 3, false, (3, 20)), (15, 8, 4, false, (3, 21)), (18, 8, 0, false, (3, 17)), (27, 8, 1, false, (3, 18)), (31, 8, 2, false, (3, 19)), (34, 8, 5, false, (3, 23)), (38, 8, 6, false, (3, 25)), (48, 2, 3, false, (1, 172)), (88, 2, 14, false, (1, 212)), (91, 7, 6, false, (2, 68))]), (9, [(11, 9, 0, false, (2, 150)), (15, 9, 1, false, (2, 151)), (18, 9, 2, false, (2, 152)), (21, 9, 3, false, (2, 153)), (25, 9, 4, false, (2, 154)), (87, 10, 12, false, (1, 109)), (106, 7, 0, true, (2, 55)), (110, 2, 10, false, (1, 200)), (113, 7, 6, false, (2, 71)), (116, 7, 7, false, (2, 75)), (126, 7, 12, false, (2, 84)), (129, 7, 11, false, (2, 81))]), (10, [(9, 10, 0, false, (1, 93)), (15, 10, 2, false, (1, 96)), (19, 10, 3, false, (1, 97)), (23, 10, 4, false, (1, 98)), (26, 10, 5, false, (1, 99)), (29, 10, 6, false, (1, 100)), (48, 10, 1, false, (1, 95)), (58, 10, 9, false, (1, 103)), (62, 10, 14, false, (1, 114)), (65, 10, 15, false, (1, 116)), (68, 10, 7, false, (1, 101)), (71, 10, 8, false, (1, 102)), (101, 10, 10, false, (1, 104)), (104, 10, 11, false, (1, 106)), (107, 10, 12, false, (1, 110)), (110, 10, 13, false, (1, 112))]), (11, [(12, 11, 0, false, (3, 80)), (19, 11, 1, false, (3, 81)), (23, 11, 2, false, (3, 82)), (31, 11, 3, false, (3, 83)), (40, 11, 4, false, (3, 84)), (44, 11, 5, false, (3, 85)), (50, 11, 6, false, (3, 86)), (57, 11, 7, false, (3, 87)), (61, 11, 8, false, (3, 88)), (67, 11, 9, false, (3, 89)), (76, 11, 10, false, (3, 90)), (83, 11, 11, false, (3, 91)), (90, 11, 12, false, (3, 92)), (97, 11, 13, false, (3, 93)), (101, 11, 14, false, (3, 94)), (104, 11, 15, false, (3, 95)), (108, 10, 1, false, (1, 94)), (119, 10, 15, false, (1, 115)), (130, 2, 0, false, (1, 161)), (133, 10, 14, false, (1, 113)), (143, 2, 10, false, (1, 199)), (153, 7, 11, false, (2, 80)), (156, 7, 7, false, (2, 74)), (159, 7, 6, false, (2, 70)), (166, 7, 12, false, (2, 83)), (172, 2, 14, false, (1, 215)), (175, 2, 15, false, (1, 218)), (181, 7, 4, false, (2, 65)), (191, 2, 9, false, (1, 196)), (194, 7, 13, false, (2, 86)), (203, 7, 1, false, (2, 58)), (206, 7, 3, false, (2, 63)), (213, 7, 2, false, (2, 60)), (256, 1, 8, false, (2, 221)), (266, 8, 5, false, (3, 24)), (269, 8, 4, false, (3, 22)), (272, 2, 2, false, (1, 169)), (300, 1, 9, false, (2, 223)), (303, 1, 10, false, (2, 225)), (321, 2, 3, false, (1, 176)), (324, 4, 0, false, (3, 48)), (339, 0, 6, false, (2, 182)), (342, 0, 4, false, (2, 178)), (346, 0, 5, false, (2, 180)), (349, 0, 7, false, (2, 184)), (352, 0, 8, false, (2, 186)), (359, 9, 4, false, (2, 155)), (366, 6, 0, false, (3, 64)), (369, 6, 1, false, (3, 66)), (370, 6, 2, false, (3, 68)), (371, 6, 3, false, (3, 70)), (374, 2, 1, false, (1, 164)), (377, 2, 4, false, (1, 180)), (380, 2, 5, false, (1, 185))]), (12, [(1, 12, 0, false, (7, 0)), (7, 12, 2, false, (7, 2)), (14, 12, 1, false, (7, 1)), (18, 12, 3, false, (7, 3)), (21, 12, 4, false, (7, 4)), (24, 12, 5, false, (7, 5)), (33, 12, 6, false, (7, 6)), (37, 12, 7, false, (7, 7)), (40, 12, 8, false, (7, 8)), (43, 12, 9, false, (7, 9)), (47, 12, 10, false, (7, 10)), (50, 12, 21, false, (7, 21)), (53, 12, 22, false, (7, 22)), (56, 12, 23, false, (7, 23)), (59, 12, 27, false, (7, 27)), (62, 12, 28, false, (7, 28)), (65, 12, 34, false, (7, 34)), (68, 12, 37, false, (7, 37)), (71, 12, 39, false, (7, 39)), (74, 12, 45, false, (7, 45)), (78, 12, 46, false, (7, 46)), (81, 12, 47, false, (7, 47)), (84, 12, 48, false, (7, 48)), (139, 12, 12, false, (7, 12)), (142, 12, 13, false, (7, 13)), (145, 12, 11, false, (7, 11)), (155, 12, 14, false, (7, 14)), (158, 12, 17, false, (7, 17)), (162, 12, 15, false, (7, 15)), (165, 12, 16, false, (7, 16)), (181, 12, 18, false, (7, 18)), (218, 12, 20, false, (7, 20)), (228, 12, 19, false, (7, 19)), (237, 12, 24, false, (7, 24)), (334, 12, 26, false, (7, 26)), (337, 12, 25, false, (7, 25)), (364, 12, 30, false, (7, 30)), (367, 12, 29, false, (7, 29)), (373, 12, 33, false, (7, 33)), (376, 12, 31, false, (7, 31)), (379, 12, 32, false, (7, 32)), (388, 12, 35, false, (7, 35)), (398, 12, 36, false, (7, 36)), (407, 12, 38, false, (7, 38)), (410, 12, 40, false, (7, 40)), (413, 12, 42, false, (7, 42)), (420, 12, 43, false, (7, 43)), (426, 12, 41, false, (7, 41)), (429, 12, 44, false, (7, 44))])]
theorem nc_fdQ_T : nc_fdT = nc_fdQ.map (fun p => (p.1, p.2.map (fun e => (e.1, e.2.1, e.2.2.1)))) := by rfl
def nc_T (t : Nat) : u_T := match nc_cl[t]? with
  | some q => q.2.1
  | none => fun _ => ("", "", "", false)
def nc_fchk (ow : Nat) (e : Nat × Nat × Nat × Bool × (Nat × Nat)) : Bool :=
  (cond e.2.2.2.1 (nc_at e.2.2.2.2 (.fieldLinkNest (nc_cn ow) e.1 (nc_cn e.2.1) (nc_T e.2.1 e.2.2.1).2.1 (nc_T e.2.1 e.2.2.1).2.2.1 "NewsCows")) (nc_at e.2.2.2.2 (.fieldLink (nc_cn ow) e.1 (nc_cn e.2.1) (nc_T e.2.1 e.2.2.1).2.1 (nc_T e.2.1 e.2.2.1).2.2.1))) &&
  (Nat.blt e.2.1 13 && (Nat.blt e.2.2.1 (((nc_fkT[e.2.1]?).getD []).length) && decide ((nc_T e.2.1 e.2.2.1).1 = nc_cn e.2.1)))
theorem nc_fk_all : (nc_fdQ.all fun p => p.2.all (nc_fchk p.1)) = true := by decide +kernel
def nc_lp : List (List (Nat × Nat)) := [[(2, 187), (2, 189), (2, 191), (2, 193), (2, 195), (2, 197), (2, 199), (2, 201), (2, 203)], [(2, 226), (2, 228), (2, 230), (2, 232), (2, 234), (2, 236), (2, 238), (3, 0), (3, 2), (3, 4), (3, 6)], [(1, 229), (1, 231), (1, 233), (1, 235), (1, 237), (1, 239), (2, 1), (2, 3), (2, 5), (2, 7), (2, 9), (2, 11), (2, 13), (2, 15), (2, 17), (2, 19), (2, 21), (2, 23), (2, 25)], [(2, 37), (2, 39), (2, 41)], [(3, 49)], [(2, 137), (2, 139), (2, 141)], [(3, 71), (3, 73), (3, 75), (3, 77)], [(2, 90), (2, 92), (2, 94), (2, 96), (2, 98), (2, 100), (2, 102), (2, 104), (2, 106), (2, 108), (2, 110), (2, 112), (2, 114), (2, 116), (2, 118), (2, 120), (2, 122)], [(3, 26), (3, 28), (3, 30), (3, 32), (3, 34), (3, 36), (3, 38)], [(2, 156), (2, 158), (2, 160), (2, 162), (2, 164)], [(1, 117), (1, 119), (1, 121), (1, 123), (1, 125), (1, 127), (1, 129), (1, 131), (1, 133), (1, 135), (1, 137), (1, 139), (1, 141), (1, 143), (1, 145), (1, 147)], [(3, 96), (3, 98), (3, 100), (3, 102), (3, 104), (3, 106), (3, 108), (3, 110), (3, 112), (3, 114), (3, 116), (3, 118), (3, 120), (3, 122), (3, 124), (3, 126)], [(7, 49), (7, 51), (7, 53), (7, 55), (7, 57), (7, 59), (7, 61), (7, 63), (7, 65), (7, 67), (7, 69), (7, 71), (7, 73), (7, 75), (7, 77), (7, 79), (7, 81), (7, 83), (7, 85), (7, 87), (7, 89), (7, 91), (7, 93), (7, 95), (7, 97), (7, 99), (7, 101), (7, 103), (7, 105), (7, 107), (7, 109), (7, 111), (7, 113), (7, 115), (7, 117), (7, 119), (7, 121), (7, 123), (7, 125), (7, 127), (7, 129), (7, 131), (7, 133), (7, 135), (7, 137), (7, 139), (7, 141), (7, 143), (7, 145)]]
theorem nc_lw_0 : ∀ w ∈ u_ws RX0 TX0 9, w ∈ lw_tbl := by
  intro w h
  obtain ⟨k, hk, rfl⟩ := List.mem_map.mp h
  have hk := List.mem_range.mp hk
  have key : (List.range 9).all (fun k => nc_at ((((nc_lp[0]?).getD [])[k]?).getD (0, 0)) (u_lay RX0 TX0 k)) = true := by decide +kernel
  exact nc_at_in (List.all_eq_true.mp key k (List.mem_range.mpr hk))
theorem nc_lw_1 : ∀ w ∈ u_ws RX1 TX1 11, w ∈ lw_tbl := by
  intro w h
  obtain ⟨k, hk, rfl⟩ := List.mem_map.mp h
  have hk := List.mem_range.mp hk
  have key : (List.range 11).all (fun k => nc_at ((((nc_lp[1]?).getD [])[k]?).getD (0, 0)) (u_lay RX1 TX1 k)) = true := by decide +kernel
  exact nc_at_in (List.all_eq_true.mp key k (List.mem_range.mpr hk))
theorem nc_lw_2 : ∀ w ∈ u_ws RX2 TX2 19, w ∈ lw_tbl := by
  intro w h
  obtain ⟨k, hk, rfl⟩ := List.mem_map.mp h
  have hk := List.mem_range.mp hk
  have key : (List.range 19).all (fun k => nc_at ((((nc_lp[2]?).getD [])[k]?).getD (0, 0)) (u_lay RX2 TX2 k)) = true := by decide +kernel
  exact nc_at_in (List.all_eq_true.mp key k (List.mem_range.mpr hk))
theorem nc_lw_3 : ∀ w ∈ u_ws RX3 TX3 3, w ∈ lw_tbl := by
  intro w h
  obtain ⟨k, hk, rfl⟩ := List.mem_map.mp h
  have hk := List.mem_range.mp hk
  have key : (List.range 3).all (fun k => nc_at ((((nc_lp[3]?).getD [])[k]?).getD (0, 0)) (u_lay RX3 TX3 k)) = true := by decide +kernel
  exact nc_at_in (List.all_eq_true.mp key k (List.mem_range.mpr hk))
theorem nc_lw_4 : ∀ w ∈ u_ws RX4 TX4 1, w ∈ lw_tbl := by
  intro w h
  obtain ⟨k, hk, rfl⟩ := List.mem_map.mp h
  have hk := List.mem_range.mp hk
  have key : (List.range 1).all (fun k => nc_at ((((nc_lp[4]?).getD [])[k]?).getD (0, 0)) (u_lay RX4 TX4 k)) = true := by decide +kernel
  exact nc_at_in (List.all_eq_true.mp key k (List.mem_range.mpr hk))
theorem nc_lw_5 : ∀ w ∈ u_ws RX5 TX5 3, w ∈ lw_tbl := by
  intro w h
  obtain ⟨k, hk, rfl⟩ := List.mem_map.mp h
  have hk := List.mem_range.mp hk
  have key : (List.range 3).all (fun k => nc_at ((((nc_lp[5]?).getD [])[k]?).getD (0, 0)) (u_lay RX5 TX5 k)) = true := by decide +kernel
  exact nc_at_in (List.all_eq_true.mp key k (List.mem_range.mpr hk))
theorem nc_lw_6 : ∀ w ∈ u_ws RX6 TX6 4, w ∈ lw_tbl := by
  intro w h
  obtain ⟨k, hk, rfl⟩ := List.mem_map.mp h
  have hk := List.mem_range.mp hk
  have key : (List.range 4).all (fun k => nc_at ((((nc_lp[6]?).getD [])[k]?).getD (0, 0)) (u_lay RX6 TX6 k)) = true := by decide +kernel
  exact nc_at_in (List.all_eq_true.mp key k (List.mem_range.mpr hk))
theorem nc_lw_7 : ∀ w ∈ u_ws RX7 TX7 17, w ∈ lw_tbl := by
  intro w h
  obtain ⟨k, hk, rfl⟩ := List.mem_map.mp h
  have hk := List.mem_range.mp hk
  have key : (List.range 17).all (fun k => nc_at ((((nc_lp[7]?).getD [])[k]?).getD (0, 0)) (u_lay RX7 TX7 k)) = true := by decide +kernel
  exact nc_at_in (List.all_eq_true.mp key k (List.mem_range.mpr hk))
theorem nc_lw_8 : ∀ w ∈ u_ws RX8 TX8 7, w ∈ lw_tbl := by
  intro w h
  obtain ⟨k, hk, rfl⟩ := List.mem_map.mp h
  have hk := List.mem_range.mp hk
  have key : (List.range 7).all (fun k => nc_at ((((nc_lp[8]?).getD [])[k]?).getD (0, 0)) (u_lay RX8 TX8 k)) = true := by decide +kernel
  exact nc_at_in (List.all_eq_true.mp key k (List.mem_range.mpr hk))
theorem nc_lw_9 : ∀ w ∈ u_ws RX9 TX9 5, w ∈ lw_tbl := by
  intro w h
  obtain ⟨k, hk, rfl⟩ := List.mem_map.mp h
  have hk := List.mem_range.mp hk
  have key : (List.range 5).all (fun k => nc_at ((((nc_lp[9]?).getD [])[k]?).getD (0, 0)) (u_lay RX9 TX9 k)) = true := by decide +kernel
  exact nc_at_in (List.all_eq_true.mp key k (List.mem_range.mpr hk))
theorem nc_lw_10 : ∀ w ∈ u_ws RX10 TX10 16, w ∈ lw_tbl := by
  intro w h
  obtain ⟨k, hk, rfl⟩ := List.mem_map.mp h
  have hk := List.mem_range.mp hk
  have key : (List.range 16).all (fun k => nc_at ((((nc_lp[10]?).getD [])[k]?).getD (0, 0)) (u_lay RX10 TX10 k)) = true := by decide +kernel
  exact nc_at_in (List.all_eq_true.mp key k (List.mem_range.mpr hk))
theorem nc_lw_11 : ∀ w ∈ u_ws RX11 TX11 16, w ∈ lw_tbl := by
  intro w h
  obtain ⟨k, hk, rfl⟩ := List.mem_map.mp h
  have hk := List.mem_range.mp hk
  have key : (List.range 16).all (fun k => nc_at ((((nc_lp[11]?).getD [])[k]?).getD (0, 0)) (u_lay RX11 TX11 k)) = true := by decide +kernel
  exact nc_at_in (List.all_eq_true.mp key k (List.mem_range.mpr hk))
theorem nc_lw_12 : ∀ w ∈ u_ws RX12 TX12 49, w ∈ lw_tbl := by
  intro w h
  obtain ⟨k, hk, rfl⟩ := List.mem_map.mp h
  have hk := List.mem_range.mp hk
  have key : (List.range 49).all (fun k => nc_at ((((nc_lp[12]?).getD [])[k]?).getD (0, 0)) (u_lay RX12 TX12 k)) = true := by decide +kernel
  exact nc_at_in (List.all_eq_true.mp key k (List.mem_range.mpr hk))
def nc_ciP : List (Nat × Nat) := [(5, 223), (9, 30), (4, 163), (4, 164), (4, 165)]
def nc_clP : List (Nat × Nat) := [(6, 216), (6, 217), (6, 218), (6, 219), (6, 220), (6, 221), (6, 222), (6, 223), (6, 224), (6, 225), (6, 226), (6, 227), (6, 228), (6, 229), (6, 230), (6, 231), (6, 232), (6, 233), (6, 234), (6, 235), (6, 236), (6, 237), (6, 238), (6, 239)]
theorem nc_ci_all : ((nc_ciT.zip nc_ciP).all fun e => nc_at e.2 (.constant (nc_cn e.1.1.1) e.1.1.2 e.1.2)) = true := by decide +kernel
theorem nc_cl_all : ((nc_clT.zip nc_clP).all fun e => nc_at e.2 (.constantLong (nc_cn e.1.1.1) e.1.1.2 e.1.2)) = true := by decide +kernel
theorem nc_ci_len : nc_ciT.length = nc_ciP.length := by rfl
theorem nc_cl_len : nc_clT.length = nc_clP.length := by rfl
def nc_ip_l : List (List (Nat × Nat)) := [[], [], [], [], [], [], [], [], [], [], [], [], [], [], [], [], [], [], [], [], [], [], [], [], [], [], [], [], [], [], [], [], [], [], [], [], [], [], [], [], [], [], [], [], [], [], [], [], [], [], [], [], [], [], [], [], [], [], [], [], [], [], [], [], [], [], [], [], [], [], [], [], [], [], [], [], [], [], [], [], [], [], [], [], [], [], [], [(4, 46), (4, 50)], [(4, 33), (4, 34)], [(4, 50), (4, 8)], [(6, 47), (6, 64), (6, 60), (6, 62), (6, 72), (6, 73)], [(4, 229), (4, 233)], [(4, 156), (4, 160)], [(5, 113)], [(4, 156), (4, 221), (4, 225), (4, 237)], [(5, 106), (5, 114), (5, 102), (5, 103), (5, 104), (5, 105), (5, 107), (5, 108), (5, 109)], [(4, 174)], [(4, 180)], [(4, 180)], [(2, 50), (5, 2), (5, 3)], [(5, 11)], [(6, 47), (6, 61), (6, 64), (6, 60), (6, 62), (6, 63), (6, 68)], [(6, 47), (6, 61), (6, 64), (6, 56)], [(6, 47), (6, 52), (6, 61), (6, 64)], [(6, 47), (6, 48), (6, 61), (6, 64), (6, 56), (6, 60), (6, 62), (6, 63), (6, 68)], [(6, 47), (6, 61), (6, 64), (6, 56)], [(6, 47), (6, 52), (6, 61), (6, 64)], [(6, 47), (6, 48), (6, 61), (6, 64), (6, 56), (6, 60), (6, 62), (6, 63), (6, 68)], [(6, 47), (6, 61), (6, 64), (6, 56)], [(6, 47), (6, 52), (6, 61), (6, 64)], [(6, 47), (6, 48), (6, 61), (6, 64), (6, 56), (6, 60), (6, 62), (6, 63), (6, 68)], [(6, 47), (6, 61), (6, 64), (6, 56)], [(6, 47), (6, 52), (6, 61), (6, 64)], [(6, 47), (6, 48), (6, 61), (6, 64), (6, 56), (6, 60), (6, 62), (6, 63), (6, 68)], [(6, 47), (6, 61), (6, 64), (6, 56)], [(6, 47), (6, 52), (6, 61), (6, 64)], [(6, 47), (6, 48), (6, 61), (6, 64), (6, 56), (6, 60), (6, 62), (6, 63), (6, 68)], [(6, 47), (6, 61), (6, 64), (6, 56)], [(6, 47), (6, 52), (6, 61), (6, 64)], [(6, 47), (6, 48), (6, 61), (6, 64), (6, 56), (6, 60), (6, 62), (6, 63), (6, 68)], [(6, 47), (6, 61), (6, 64), (6, 56)], [(6, 47), (6, 52), (6, 61), (6, 64)], [(6, 47), (6, 48), (6, 61), (6, 64), (6, 56), (6, 60), (6, 62), (6, 63), (6, 68)], [(6, 47), (6, 61), (6, 64), (6, 56)], [(6, 47), (6, 52), (6, 61), (6, 64)], [(6, 47), (6, 48), (6, 61), (6, 64), (6, 56), (6, 60), (6, 62), (6, 63), (6, 68)], [(6, 47), (6, 61), (6, 64), (6, 56)], [(6, 47), (6, 52), (6, 61), (6, 64)], [(5, 98), (5, 106), (5, 115), (5, 116), (5, 114), (5, 117), (5, 118)], [(5, 94), (5, 98), (5, 106), (5, 115), (5, 116), (5, 114), (5, 117), (5, 118)], [(5, 94), (5, 98), (5, 106), (5, 115), (5, 116), (5, 114), (5, 117), (5, 118)], [(1, 90), (3, 164), (3, 168), (3, 171), (3, 182), (3, 178)], [(3, 161), (3, 164), (3, 168), (3, 171), (3, 174), (3, 187), (3, 182)], [(4, 8)], [(6, 11), (6, 13), (6, 17)], [(4, 8), (4, 42)], [(6, 10), (6, 11), (6, 12), (6, 13), (6, 14), (6, 18)], [(4, 50)], [(6, 4), (6, 5), (6, 6), (6, 19)], [(4, 217)], [(4, 213), (4, 238), (5, 7)], [(4, 192)], [(4, 156)], [(4, 201)], [(4, 197), (4, 201)], [(6, 28), (6, 29), (6, 30), (6, 31), (6, 32)], [(6, 24)], [(5, 41), (5, 45), (5, 46), (5, 47), (5, 48), (5, 49)], [(5, 61)], [(5, 57), (5, 45), (5, 54)], [(5, 37), (5, 50), (5, 57)], [(5, 37), (5, 50), (5, 57)], [(5, 45)], [(5, 37), (5, 57), (5, 45), (5, 54), (5, 70)], [(5, 174)], [(5, 37), (5, 57), (5, 41), (5, 45), (5, 54), (5, 165), (5, 166), (5, 170)], [(3, 153), (3, 156)], [(4, 93)], [(4, 32), (4, 33), (4, 34)], [(4, 77)], [(5, 146), (5, 147)], [(4, 24), (4, 28), (4, 38)], [(4, 24), (4, 28), (4, 38), (4, 55), (4, 56), (4, 60)], [(4, 16), (4, 24), (4, 28), (4, 55), (4, 60), (4, 68)], [(4, 24), (4, 38), (4, 55), (4, 56), (4, 60), (4, 73)], [(4, 24), (4, 38), (4, 60)], [(4, 16), (4, 20), (4, 51), (4, 64), (4, 69), (4, 81), (4, 24)], [(3, 149), (3, 157), (4, 4), (4, 12), (4, 85)], [(5, 219), (5, 224), (5, 225), (5, 226), (5, 227)], [(4, 170), (4, 175)], [(4, 170)], [(2, 50)], [(5, 94)], [(6, 79)], [(6, 45), (6, 46), (6, 47), (6, 48), (6, 74)], [(6, 92), (6, 93), (6, 94), (6, 95)], [(6, 88)], [(3, 133)], [(3, 145), (4, 89), (4, 96), (4, 100), (4, 104)], [(4, 148), (5, 32), (6, 180), (6, 181)], [(4, 116), (4, 120), (4, 124)], [(6, 181)], [(5, 138), (6, 189), (6, 193)], [(4, 132), (4, 136)], [(4, 148), (4, 116), (4, 152)], [(4, 144), (4, 166), (4, 176)], [(4, 116), (4, 166), (4, 188), (4, 193)], [(4, 166), (4, 209)], [(5, 19)], [(4, 148), (5, 32)], [(5, 28), (5, 33)], [(5, 28), (5, 66)], [(5, 28), (5, 82)], [(4, 148), (5, 90)], [(4, 116), (4, 124), (5, 127), (5, 128), (5, 129), (5, 130)], [(5, 138), (5, 142), (5, 151)], [(5, 28), (5, 160), (5, 161)], [(4, 116), (4, 188), (5, 189)], [(5, 160), (5, 199)], [(5, 138), (5, 194), (5, 195)], [(5, 138), (5, 199)], [(4, 132), (4, 209), (5, 127)], [(4, 166), (4, 209), (5, 215)], [(5, 32), (5, 128), (5, 129), (5, 215)], [(4, 148), (5, 127), (5, 232)], [(4, 166), (5, 127), (6, 0), (6, 20)], [(6, 41), (6, 75)], [(6, 84)], [(4, 89), (5, 127), (6, 75)], [(4, 89), (4, 104), (5, 127), (6, 75)], [(6, 202)], [(7, 161), (7, 165), (7, 168)], [(7, 230), (7, 179), (7, 157)], [(7, 179), (7, 157), (7, 211)], [(7, 207)], [(7, 179), (7, 157), (7, 187), (7, 191)], [(7, 179), (7, 187), (7, 191)], [(7, 157), (7, 199)], [(7, 175)], [(7, 179), (7, 157), (7, 175), (7, 183), (7, 203), (7, 218)], [(7, 179), (7, 157), (7, 199), (7, 195), (7, 203)], [(7, 179), (7, 157), (7, 175), (7, 183), (7, 195), (7, 203), (7, 214), (7, 222)], [(7, 157), (7, 153), (7, 171), (7, 226)], [(7, 211)], [(7, 211)], [(7, 211)], [(8, 14)], [(8, 14)], [(8, 25)], [(8, 14)], [(8, 14), (8, 41), (8, 45), (8, 49)], [(8, 14), (8, 10), (8, 17), (8, 21), (8, 37)], [(8, 33)], [(7, 211), (8, 10), (8, 17), (8, 21), (8, 2), (8, 6), (8, 29)], [(8, 14), (8, 25), (8, 41), (8, 56)], [(8, 29)], [(7, 211), (8, 6), (8, 64), (8, 68), (8, 72)], [(8, 80), (8, 84)], [(8, 14), (8, 10), (8, 96)], [(8, 25)], [(8, 14), (8, 41)], [(8, 25), (8, 10)], [(8, 25), (8, 10), (8, 119)], [(8, 14)], [(8, 21), (8, 29), (8, 72), (8, 80), (8, 135)], [(8, 131)], [(8, 2), (8, 56), (8, 92), (8, 99), (8, 103)], [(8, 56), (8, 99), (8, 111), (8, 115)], [(7, 211), (8, 99), (8, 127)], [(8, 2), (8, 56), (8, 92)], [(8, 96)], [(8, 33), (8, 96), (8, 159)], [(8, 10), (8, 33), (8, 2), (8, 151), (8, 155), (8, 163)], [(7, 211), (8, 10), (8, 33), (8, 2), (8, 96), (8, 159), (8, 151), (8, 163)], [(8, 10), (8, 33), (8, 2), (8, 151), (8, 155)], [(8, 29), (8, 131), (8, 92), (8, 103), (8, 191), (8, 195)], [(7, 211), (8, 2), (8, 191), (8, 183), (8, 187)], [(7, 211)], [(8, 25), (8, 56), (8, 127), (8, 195), (8, 183)], [(8, 14)], [(8, 64), (8, 96), (8, 211)], [(7, 153), (8, 14), (8, 10), (8, 33), (8, 2), (8, 159), (8, 223), (8, 227)], [(8, 56), (8, 119), (8, 111)], [(7, 211), (8, 49)], [(7, 211), (7, 153), (8, 49), (8, 64), (8, 223)], [(8, 64), (9, 10)], [(7, 211), (8, 84), (8, 127), (8, 195), (8, 183)], [(8, 131), (8, 92), (8, 103), (8, 111), (8, 115), (9, 26)], [(7, 211), (8, 99), (9, 22)], [(7, 211), (8, 10), (8, 2), (8, 195), (8, 183), (9, 22)], [(7, 179), (7, 157), (7, 207), (7, 199), (7, 175), (7, 195)], [(8, 92), (8, 103), (8, 111), (8, 115), (8, 127)], [(7, 157), (7, 211), (7, 153), (7, 226), (8, 99), (8, 195), (8, 183), (9, 39), (9, 43)], [(7, 211)], [(9, 59)], [(9, 59)], [(7, 175)], [(7, 230), (7, 179), (7, 157), (7, 199), (7, 175), (9, 59), (9, 75)], [(7, 230), (7, 179), (7, 157), (7, 175), (9, 55), (9, 63)], [(7, 179), (7, 157), (7, 153), (9, 55), (9, 63), (9, 67), (9, 71)], [(8, 14), (8, 25), (8, 10), (8, 17), (8, 29)], [(9, 87)], [(9, 83)], [(7, 211)], [(7, 211)], [(7, 211)]]
def nc_ip (M : Nat) : List (Nat × Nat) := (nc_ip_l[M]?).getD []
def nc_idx : MethodName := ⟨"java/lang/String", "indexOf", "(I)I"⟩
def nc_cy (kind M : Nat) : MethodName := match kind with
  | 2 => Lib.Math.max.name
  | 3 => Lib.Math.min.name
  | 4 => Lib.Math.abs.name
  | 5 => arraycopyName
  | 6 => nc_idx
  | _ => nc_y M
def nc_ichk (M : Nat) : Bool := Nat.beq (nc_inv M).length (nc_ip M).length && ((nc_inv M).zip (nc_ip M)).all (fun e =>
  nc_at e.2 (.methodLink (nc_cn (nc_own M)) e.1.1 (nc_cy e.1.2.1 e.1.2.2.1)) && (Nat.ble 1 M && (Nat.ble 2 e.1.2.1 || (Nat.beq e.1.2.1 (nc_mq e.1.2.2.1).1 && (Nat.beq e.1.2.2.2 (nc_mq e.1.2.2.1).2.1 && Nat.blt e.1.2.2.1 nc_many)))))
theorem nc_ik_0 : (List.range' 0 24).all nc_ichk = true := by decide +kernel
theorem nc_ik_1 : (List.range' 24 24).all nc_ichk = true := by decide +kernel
theorem nc_ik_2 : (List.range' 48 24).all nc_ichk = true := by decide +kernel
theorem nc_ik_3 : (List.range' 72 24).all nc_ichk = true := by decide +kernel
theorem nc_ik_4 : (List.range' 96 24).all nc_ichk = true := by decide +kernel
theorem nc_ik_5 : (List.range' 120 24).all nc_ichk = true := by decide +kernel
theorem nc_ik_6 : (List.range' 144 24).all nc_ichk = true := by decide +kernel
theorem nc_ik_7 : (List.range' 168 24).all nc_ichk = true := by decide +kernel
theorem nc_ik_8 : (List.range' 192 24).all nc_ichk = true := by decide +kernel
theorem nc_ik_9 : (List.range' 216 24).all nc_ichk = true := by decide +kernel
theorem nc_ik_10 : (List.range' 240 24).all nc_ichk = true := by decide +kernel
theorem nc_ik_11 : (List.range' 264 22).all nc_ichk = true := by decide +kernel
theorem nc_iok (M : Nat) (h : M < nc_many) : nc_ichk M = true := by
  have key : ∀ (a n : Nat), (List.range' a n).all nc_ichk = true → a ≤ M → M < a + n → nc_ichk M = true := fun a n hh h1 h2 => List.all_eq_true.mp hh M (List.mem_range'_1.mpr ⟨h1, h2⟩)
  have h : M < 286 := h
  by_cases q0 : M < 24
  · exact key 0 24 nc_ik_0 (by omega) (by omega)
  by_cases q1 : M < 48
  · exact key 24 24 nc_ik_1 (by omega) (by omega)
  by_cases q2 : M < 72
  · exact key 48 24 nc_ik_2 (by omega) (by omega)
  by_cases q3 : M < 96
  · exact key 72 24 nc_ik_3 (by omega) (by omega)
  by_cases q4 : M < 120
  · exact key 96 24 nc_ik_4 (by omega) (by omega)
  by_cases q5 : M < 144
  · exact key 120 24 nc_ik_5 (by omega) (by omega)
  by_cases q6 : M < 168
  · exact key 144 24 nc_ik_6 (by omega) (by omega)
  by_cases q7 : M < 192
  · exact key 168 24 nc_ik_7 (by omega) (by omega)
  by_cases q8 : M < 216
  · exact key 192 24 nc_ik_8 (by omega) (by omega)
  by_cases q9 : M < 240
  · exact key 216 24 nc_ik_9 (by omega) (by omega)
  by_cases q10 : M < 264
  · exact key 240 24 nc_ik_10 (by omega) (by omega)
  by_cases q11 : M < 286
  · exact key 264 22 nc_ik_11 (by omega) (by omega)
  exact absurd h (by omega)
theorem nc_w_max1 : Cond.static Lib.Math.max.name ∈ lw_tbl := nc_at_in (p := (3, 203)) (by decide +kernel)
theorem nc_w_max2 : Cond.code Lib.Math.max.name Lib.Math.max.code 2 (some .int) ∈ lw_tbl := nc_at_in (p := (3, 204)) (by decide +kernel)
theorem nc_w_min1 : Cond.static Lib.Math.min.name ∈ lw_tbl := nc_at_in (p := (3, 162)) (by decide +kernel)
theorem nc_w_min2 : Cond.code Lib.Math.min.name Lib.Math.min.code 2 (some .int) ∈ lw_tbl := nc_at_in (p := (3, 163)) (by decide +kernel)
theorem nc_w_abs1 : Cond.static Lib.Math.abs.name ∈ lw_tbl := nc_at_in (p := (5, 175)) (by decide +kernel)
theorem nc_w_abs2 : Cond.code Lib.Math.abs.name Lib.Math.abs.code 1 (some .int) ∈ lw_tbl := nc_at_in (p := (5, 176)) (by decide +kernel)
theorem nc_w_math : Cond.initialized "java/lang/Math" ∈ lw_tbl := nc_at_in (p := (1, 19)) (by decide +kernel)
theorem nc_w_ac1 : Cond.native arraycopyName ∈ lw_tbl := nc_at_in (p := (4, 95)) (by decide +kernel)
theorem nc_w_ac2 : Cond.static arraycopyName ∈ lw_tbl := nc_at_in (p := (4, 94)) (by decide +kernel)
theorem nc_w_sys : Cond.initialized "java/lang/System" ∈ lw_tbl := nc_at_in (p := (1, 21)) (by decide +kernel)
