set_option maxRecDepth 100000 in
theorem qc_X12_thrown (aa : Nat) (w : nc_H) : nc_Call m_X12_thrown [.inr (.inr (12, aa))] w =
  some (some (.inl (w.1 12 aa 0)), w) :=
  (nc_Call_eq _ _ _).trans ((if_pos (Nat.le_of_ble_eq_true rfl)).trans ((nc_Run_un [] 3).trans rfl))
set_option maxRecDepth 100000 in
theorem qc_X12_throwsIf (aa : Nat) (xb : Int32) (w : nc_H) : nc_Call m_X12_throwsIf [.inr (.inr (12, aa)), .inl xb] w =
  if xb = 0 then
    nc_lt (nc_si w 12 aa 0 0) fun w1 =>
    nc_z xb <| some (some (.inl xb), w1)
  else
    nc_lt (nc_si w 12 aa 0 1) fun w2 =>
    nc_z xb <| some (some (.inl xb), w2) :=
  (nc_Call_eq _ _ _).trans ((if_pos (Nat.le_of_ble_eq_true rfl)).trans ((nc_Run_un [] 8).trans rfl))
set_option maxRecDepth 100000 in
theorem qc_X12_four (aa : Nat) (xb : Int32) (w : nc_H) : nc_Call m_X12_four [.inr (.inr (12, aa)), .inl xb] w =
  nc_Run m_X12_four 3 [some (.inr (.inr (12, aa))), some (.inl xb), some (.inl 24)] [] w :=
  (nc_Call_eq _ _ _).trans ((if_pos (Nat.le_of_ble_eq_true rfl)).trans ((nc_Run_un [3] 3).trans rfl))
set_option maxRecDepth 100000 in
theorem qr_X12_four_3 (aa : Nat) (xb : Int32) (xc : Int32) (w : nc_H) : nc_Run m_X12_four 3 [some (.inr (.inr (12, aa))), some (.inl xb), some (.inl xc)] [] w =
  if xc < 0 then
    some (none, w)
  else
    nc_bd (w.1 12 aa 2) 940 fun j1 =>
    nc_lt (nc_si w 869 aa j1 (((xb >>> (xc &&& 31)).toInt8.toInt32).toInt8.toInt32)) fun w2 =>
    nc_lt (nc_si w2 12 aa 2 ((w2.1 12 aa 2) + 1)) fun w3 =>
    nc_li (xc + Int32.ofInt (-8)) fun x4 =>
    nc_Run m_X12_four 3 [some (.inr (.inr (12, aa))), some (.inl xb), some (.inl x4)] [] w3 :=
  (nc_Run_un [3] 20).trans rfl
set_option maxRecDepth 100000 in
theorem qc_X12_end (aa : Nat) (xb : Int32) (w : nc_H) : nc_Call m_X12_end [.inr (.inr (12, aa)), .inl xb] w =
  nc_lt (nc_si w 12 aa 0 0) fun w1 =>
  if xb < 0 then
    some (some (.inl 0), w1)
  else
    if xb ≤ (w1.1 12 aa 2) then
      nc_lt (nc_si w1 12 aa 2 xb) fun w2 =>
      some (some (.inl 1), w2)
    else
      some (some (.inl 0), w1) :=
  (nc_Call_eq _ _ _).trans ((if_pos (Nat.le_of_ble_eq_true rfl)).trans ((nc_Run_un [] 14).trans rfl))
set_option maxRecDepth 100000 in
theorem qc_X12_taken (aa : Nat) (xb : Int32) (w : nc_H) : nc_Call m_X12_taken [.inr (.inr (12, aa)), .inl xb] w =
  nc_lt (nc_si w 12 aa 3 (w.1 12 aa 2)) fun w1 =>
  nc_lt (nc_si w1 12 aa 2 0) fun w2 =>
  nc_lt (nc_si w2 12 aa 4 0) fun w3 =>
  nc_lt (nc_si w3 12 aa 5 xb) fun w4 =>
  some (none, w4) :=
  (nc_Call_eq _ _ _).trans ((if_pos (Nat.le_of_ble_eq_true rfl)).trans ((nc_Run_un [] 14).trans rfl))
set_option maxRecDepth 100000 in
theorem qc_X12_isIn (xa : Int32) (xb : Int32) (xc : Int32) (w : nc_H) : nc_Call m_X12_isIn [.inl xa, .inl xb, .inl xc] w =
  if xa < xb then
    some (some (.inl 0), w)
  else
    if xc < xa then
      some (some (.inl 0), w)
    else
      some (some (.inl 1), w) :=
  (nc_Call_eq _ _ _).trans ((if_pos (Nat.le_of_ble_eq_true rfl)).trans ((nc_Run_un [] 9).trans rfl))
set_option maxRecDepth 100000 in
theorem qc_X12_bitOf (xa : Int32) (xb : Int32) (w : nc_H) : nc_Call m_X12_bitOf [.inl xa, .inl xb] w =
  if ((xa >>> (xb &&& 31)) &&& 1) ≠ 1 then
    some (some (.inl 0), w)
  else
    some (some (.inl 1), w) :=
  (nc_Call_eq _ _ _).trans ((if_pos (Nat.le_of_ble_eq_true rfl)).trans ((nc_Run_un [] 10).trans rfl))
set_option maxRecDepth 100000 in
theorem qc_X12_greater (xa : Int32) (xb : Int32) (w : nc_H) : nc_Call m_X12_greater [.inl xa, .inl xb] w =
  if xa ≤ xb then
    some (some (.inl xb), w)
  else
    some (some (.inl xa), w) :=
  (nc_Call_eq _ _ _).trans ((if_pos (Nat.le_of_ble_eq_true rfl)).trans ((nc_Run_un [] 6).trans rfl))
set_option maxRecDepth 100000 in
theorem qc_X12_absolute (xa : Int32) (w : nc_H) : nc_Call m_X12_absolute [.inl xa] w =
  if (0 : Int32) ≤ xa then
    some (some (.inl xa), w)
  else
    some (some (.inl (-xa)), w) :=
  (nc_Call_eq _ _ _).trans ((if_pos (Nat.le_of_ble_eq_true rfl)).trans ((nc_Run_un [] 6).trans rfl))
set_option maxRecDepth 100000 in
theorem qc_X12_bits (xa : Int32) (w : nc_H) : nc_Call m_X12_bits [.inl xa] w =
  nc_Run m_X12_bits 4 [none, some (.inl 0), some (.inl xa)] [] w :=
  (nc_Call_eq _ _ _).trans ((if_pos (Nat.le_of_ble_eq_true rfl)).trans ((nc_Run_un [4] 5).trans rfl))
set_option maxRecDepth 100000 in
theorem qr_X12_bits_4 (xb : Int32) (xc : Int32) (w : nc_H) : nc_Run m_X12_bits 4 [none, some (.inl xb), some (.inl xc)] [] w =
  if xc = 0 then
    some (some (.inl xb), w)
  else
    nc_li (xb + 1) fun x1 =>
    nc_li (xc &&& (xc - 1)) fun x2 =>
    nc_Run m_X12_bits 4 [none, some (.inl x1), some (.inl x2)] [] w :=
  (nc_Run_un [4] 11).trans rfl
set_option maxRecDepth 100000 in
theorem qc_X12_octet (aa : Nat) (xb : Int32) (w : nc_H) : nc_Call m_X12_octet [.inr (.inr (12, aa)), .inl xb] w =
  nc_bd xb 940 fun j1 =>
  some (some (.inl ((w.1 869 aa j1) &&& 255)), w) :=
  (nc_Call_eq _ _ _).trans ((if_pos (Nat.le_of_ble_eq_true rfl)).trans ((nc_Run_un [] 7).trans rfl))
set_option maxRecDepth 100000 in
theorem qc_X12_peek (aa : Nat) (w : nc_H) : nc_Call m_X12_peek [.inr (.inr (12, aa))] w =
  if (w.1 12 aa 3) ≤ (w.1 12 aa 4) then
    some (some (.inl (-1)), w)
  else
    nc_bd (w.1 12 aa 4) 940 fun j1 =>
    some (some (.inl ((w.1 869 aa j1) &&& 255)), w) :=
  (nc_Call_eq _ _ _).trans ((if_pos (Nat.le_of_ble_eq_true rfl)).trans ((nc_Run_un [] 14).trans rfl))
set_option maxRecDepth 100000 in
theorem qc_X12_isSmall (xa : Int32) (w : nc_H) : nc_Call m_X12_isSmall [.inl xa] w =
  if xa < 97 then
    some (some (.inl 0), w)
  else
    if (122 : Int32) < xa then
      some (some (.inl 0), w)
    else
      some (some (.inl 1), w) :=
  (nc_Call_eq _ _ _).trans ((if_pos (Nat.le_of_ble_eq_true rfl)).trans ((nc_Run_un [] 9).trans rfl))
set_option maxRecDepth 100000 in
theorem qc_X12_isDigit (xa : Int32) (w : nc_H) : nc_Call m_X12_isDigit [.inl xa] w =
  if xa < 48 then
    some (some (.inl 0), w)
  else
    if (57 : Int32) < xa then
      some (some (.inl 0), w)
    else
      some (some (.inl 1), w) :=
  (nc_Call_eq _ _ _).trans ((if_pos (Nat.le_of_ble_eq_true rfl)).trans ((nc_Run_un [] 9).trans rfl))
set_option maxRecDepth 100000 in
theorem qc_X12_bad (aa : Nat) (xb : Int32) (w : nc_H) : nc_Call m_X12_bad [.inr (.inr (12, aa)), .inl xb] w =
  nc_lt (nc_si w 12 aa 15 xb) fun w1 =>
  nc_lt (nc_si w1 12 aa 16 (w1.1 12 aa 12)) fun w2 =>
  some (some (.inl 0), w2) :=
  (nc_Call_eq _ _ _).trans ((if_pos (Nat.le_of_ble_eq_true rfl)).trans ((nc_Run_un [] 9).trans rfl))
set_option maxRecDepth 100000 in
theorem qc_X12_isWord (aa : Nat) (yb : Int64) (w : nc_H) : nc_Call m_X12_isWord [.inr (.inr (12, aa)), .inr (.inl yb)] w =
  if (w.1 12 aa 11) ≠ 1 then
    some (some (.inl 0), w)
  else
    if (lg_cmp (w.2 12 aa 17) yb) ≠ 0 then
      some (some (.inl 0), w)
    else
      some (some (.inl 1), w) :=
  (nc_Call_eq _ _ _).trans ((if_pos (Nat.le_of_ble_eq_true rfl)).trans ((nc_Run_un [] 12).trans rfl))
set_option maxRecDepth 100000 in
theorem qc_X12_isSign (aa : Nat) (xb : Int32) (w : nc_H) : nc_Call m_X12_isSign [.inr (.inr (12, aa)), .inl xb] w =
  if (w.1 12 aa 11) ≠ 3 then
    some (some (.inl 0), w)
  else
    if (w.1 12 aa 14) ≠ xb then
      some (some (.inl 0), w)
    else
      some (some (.inl 1), w) :=
  (nc_Call_eq _ _ _).trans ((if_pos (Nat.le_of_ble_eq_true rfl)).trans ((nc_Run_un [] 11).trans rfl))
set_option maxRecDepth 100000 in
theorem qc_X12_isName (aa : Nat) (w : nc_H) : nc_Call m_X12_isName [.inr (.inr (12, aa))] w =
  if (w.1 12 aa 11) ≠ 1 then
    nc_Run m_X12_isName 16 [some (.inr (.inr (12, aa))), some (.inl 0), some (.inl 0)] [] w
  else
    nc_Run m_X12_isName 16 [some (.inr (.inr (12, aa))), some (.inl 1), some (.inl 0)] [] w :=
  (nc_Call_eq _ _ _).trans ((if_pos (Nat.le_of_ble_eq_true rfl)).trans ((nc_Run_un [16] 10).trans rfl))
set_option maxRecDepth 100000 in
theorem qr_X12_isName_16 (aa : Nat) (xb : Int32) (xc : Int32) (w : nc_H) : nc_Run m_X12_isName 16 [some (.inr (.inr (12, aa))), some (.inl xb), some (.inl xc)] [] w =
  if (24 : Int32) ≤ xc then
    nc_z xb <| some (some (.inl xb), w)
  else
    if xb = 0 then
      nc_li (xc + 1) fun x1 =>
      nc_Run m_X12_isName 16 [some (.inr (.inr (12, aa))), some (.inl 0), some (.inl x1)] [] w
    else
      nc_bd xc 24 fun j2 =>
      if (lg_cmp (w.2 12 aa 17) (w.2 878 aa j2)) = 0 then
        nc_li (xc + 1) fun x3 =>
        nc_Run m_X12_isName 16 [some (.inr (.inr (12, aa))), some (.inl 0), some (.inl x3)] [] w
      else
        nc_li (xc + 1) fun x4 =>
        nc_Run m_X12_isName 16 [some (.inr (.inr (12, aa))), some (.inl 1), some (.inl x4)] [] w :=
  (nc_Run_un [16] 19).trans rfl
set_option maxRecDepth 100000 in
theorem qc_X12_seek (aa : Nat) (xb : Int32) (xc : Int32) (w : nc_H) : nc_Call m_X12_seek [.inr (.inr (12, aa)), .inl xb, .inl xc] w =
  nc_Run m_X12_seek 2 [some (.inr (.inr (12, aa))), some (.inl xb), some (.inl xc), some (.inl 0)] [] w :=
  (nc_Call_eq _ _ _).trans ((if_pos (Nat.le_of_ble_eq_true rfl)).trans ((nc_Run_un [2] 3).trans rfl))
set_option maxRecDepth 100000 in
theorem qr_X12_seek_2 (aa : Nat) (xb : Int32) (xc : Int32) (xd : Int32) (w : nc_H) : nc_Run m_X12_seek 2 [some (.inr (.inr (12, aa))), some (.inl xb), some (.inl xc), some (.inl xd)] [] w =
  if xc ≤ xd then
    some (some (.inl (-1)), w)
  else
    nc_bd (xb + xd) 44 fun j1 =>
    if (lg_cmp (w.2 877 aa j1) (w.2 12 aa 17)) ≠ 0 then
      nc_li (xd + 1) fun x2 =>
      nc_Run m_X12_seek 2 [some (.inr (.inr (12, aa))), some (.inl xb), some (.inl xc), some (.inl x2)] [] w
    else
      some (some (.inl xd), w) :=
  (nc_Run_un [2] 16).trans rfl
set_option maxRecDepth 100000 in
theorem qc_X12_fault (aa : Nat) (w : nc_H) : nc_Call m_X12_fault [.inr (.inr (12, aa))] w =
  nc_lt (nc_si w 12 aa 0 0) fun w1 =>
  some (some (.inl (w1.1 12 aa 15)), w1) :=
  (nc_Call_eq _ _ _).trans ((if_pos (Nat.le_of_ble_eq_true rfl)).trans ((nc_Run_un [] 6).trans rfl))
set_option maxRecDepth 100000 in
theorem qc_X12_knows (aa : Nat) (xb : Int32) (xc : Int32) (w : nc_H) : nc_Call m_X12_knows [.inr (.inr (12, aa)), .inl xb, .inl xc] w =
  nc_bd ((132 + (10 * xb)) + xc) 513 fun j1 =>
  nc_li (w.1 874 aa j1) fun x2 =>
  if x2 ≤ 0 then
    some (some (.inl 0), w)
  else
    nc_bd (29 + xb) 513 fun j3 =>
    if (w.1 874 aa j3) < ((w.1 874 aa 76) - (x2 - 1)) then
      some (some (.inl 0), w)
    else
      some (some (.inl 1), w) :=
  (nc_Call_eq _ _ _).trans ((if_pos (Nat.le_of_ble_eq_true rfl)).trans ((nc_Run_un [] 31).trans rfl))
set_option maxRecDepth 100000 in
theorem qc_X12_isCurdled (aa : Nat) (xb : Int32) (w : nc_H) : nc_Call m_X12_isCurdled [.inr (.inr (12, aa)), .inl xb] w =
  nc_bd (124 + xb) 513 fun j1 =>
  if (w.1 874 aa j1) ≤ 0 then
    some (some (.inl 0), w)
  else
    nc_bd (124 + xb) 513 fun j2 =>
    if (6 : Int32) < ((w.1 874 aa 76) - ((w.1 874 aa j2) - 1)) then
      some (some (.inl 0), w)
    else
      some (some (.inl 1), w) :=
  (nc_Call_eq _ _ _).trans ((if_pos (Nat.le_of_ble_eq_true rfl)).trans ((nc_Run_un [] 25).trans rfl))
set_option maxRecDepth 100000 in
theorem qc_X12_cowsOf (aa : Nat) (xb : Int32) (w : nc_H) : nc_Call m_X12_cowsOf [.inr (.inr (12, aa)), .inl xb] w =
  nc_Run m_X12_cowsOf 4 [some (.inr (.inr (12, aa))), some (.inl xb), some (.inl 0), some (.inl 0)] [] w :=
  (nc_Call_eq _ _ _).trans ((if_pos (Nat.le_of_ble_eq_true rfl)).trans ((nc_Run_un [4] 5).trans rfl))
set_option maxRecDepth 100000 in
theorem qr_X12_cowsOf_4 (aa : Nat) (xb : Int32) (xc : Int32) (xd : Int32) (w : nc_H) : nc_Run m_X12_cowsOf 4 [some (.inr (.inr (12, aa))), some (.inl xb), some (.inl xc), some (.inl xd)] [] w =
  if (w.1 874 aa 1) ≤ xd then
    some (some (.inl xc), w)
  else
    nc_bd (5 + xd) 513 fun j1 =>
    if (w.1 874 aa j1) ≠ xb then
      nc_li (xc ||| 0) fun x2 =>
      nc_li (xd + 1) fun x3 =>
      nc_Run m_X12_cowsOf 4 [some (.inr (.inr (12, aa))), some (.inl xb), some (.inl x2), some (.inl x3)] [] w
    else
      nc_li (xc ||| (1 <<< (xd &&& 31))) fun x4 =>
      nc_li (xd + 1) fun x5 =>
      nc_Run m_X12_cowsOf 4 [some (.inr (.inr (12, aa))), some (.inl xb), some (.inl x4), some (.inl x5)] [] w :=
  (nc_Run_un [4] 24).trans rfl
set_option maxRecDepth 100000 in
theorem qc_X12_talks (aa : Nat) (xb : Int32) (w : nc_H) : nc_Call m_X12_talks [.inr (.inr (12, aa)), .inl xb] w =
  nc_bd (70 + xb) 513 fun j1 =>
  if w.1 874 aa j1 = 0 then none else
  if (((w.1 874 aa 76) + 1) - ((w.1 874 aa 76) + 1) / (w.1 874 aa j1) * (w.1 874 aa j1)) ≠ 0 then
    some (some (.inl 0), w)
  else
    some (some (.inl 1), w) :=
  (nc_Call_eq _ _ _).trans ((if_pos (Nat.le_of_ble_eq_true rfl)).trans ((nc_Run_un [] 17).trans rfl))
set_option maxRecDepth 100000 in
theorem qc_X12_allPails (aa : Nat) (w : nc_H) : nc_Call m_X12_allPails [.inr (.inr (12, aa))] w =
  some (some (.inl ((((w.1 874 aa 95) + (w.1 874 aa 96)) + (w.1 874 aa 97)) + (w.1 874 aa 98))), w) :=
  (nc_Call_eq _ _ _).trans ((if_pos (Nat.le_of_ble_eq_true rfl)).trans ((nc_Run_un [] 20).trans rfl))
set_option maxRecDepth 100000 in
theorem qc_X12_keep (aa : Nat) (w : nc_H) : nc_Call m_X12_keep [.inr (.inr (12, aa))] w =
  if (w.1 12 aa 24) ≠ 8 then
    nc_Run m_X12_keep 48 [some (.inr (.inr (12, aa))), some (.inl 0)] [] w
  else
    nc_Run m_X12_keep 11 [some (.inr (.inr (12, aa))), some (.inl 0)] [] w :=
  (nc_Call_eq _ _ _).trans ((if_pos (Nat.le_of_ble_eq_true rfl)).trans ((nc_Run_un [11, 48] 7).trans rfl))
set_option maxRecDepth 100000 in
theorem qr_X12_keep_48 (aa : Nat) (xb : Int32) (w : nc_H) : nc_Run m_X12_keep 48 [some (.inr (.inr (12, aa))), some (.inl xb)] [] w =
  if (256 : Int32) ≤ xb then
    nc_lt (nc_si w 12 aa 24 ((w.1 12 aa 24) + 1)) fun w1 =>
    some (none, w1)
  else
    nc_bd (76 + xb) 513 fun j2 =>
    nc_bd ((256 * (w.1 12 aa 24)) + xb) 2048 fun j3 =>
    nc_lt (nc_si w 890 aa j3 (w.1 874 aa j2)) fun w4 =>
    nc_li (xb + 1) fun x5 =>
    nc_Run m_X12_keep 48 [some (.inr (.inr (12, aa))), some (.inl x5)] [] w4 :=
  (nc_Run_un [11, 48] 21).trans rfl
set_option maxRecDepth 100000 in
theorem qr_X12_keep_11 (aa : Nat) (xb : Int32) (w : nc_H) : nc_Run m_X12_keep 11 [some (.inr (.inr (12, aa))), some (.inl xb)] [] w =
  if (1792 : Int32) ≤ xb then
    nc_lt (nc_si w 12 aa 24 7) fun w1 =>
    nc_Run m_X12_keep 48 [some (.inr (.inr (12, aa))), some (.inl 0)] [] w1
  else
    nc_bd (xb + 256) 2048 fun j2 =>
    nc_bd xb 2048 fun j3 =>
    nc_lt (nc_si w 890 aa j3 (w.1 890 aa j2)) fun w4 =>
    nc_li (xb + 1) fun x5 =>
    nc_Run m_X12_keep 11 [some (.inr (.inr (12, aa))), some (.inl x5)] [] w4 :=
  (nc_Run_un [11, 48] 16).trans rfl
set_option maxRecDepth 100000 in
theorem qc_X12_undo (aa : Nat) (w : nc_H) : nc_Call m_X12_undo [.inr (.inr (12, aa))] w =
  nc_lt (nc_si w 12 aa 0 0) fun w1 =>
  if (w1.1 12 aa 24) ≠ 0 then
    nc_lt (nc_si w1 12 aa 24 ((w1.1 12 aa 24) - 1)) fun w2 =>
    nc_Run m_X12_undo 26 [some (.inr (.inr (12, aa))), some (.inl 0)] [] w2
  else
    some (some (.inl (-1)), w1) :=
  (nc_Call_eq _ _ _).trans ((if_pos (Nat.le_of_ble_eq_true rfl)).trans ((nc_Run_un [26] 15).trans rfl))
set_option maxRecDepth 100000 in
theorem qr_X12_undo_26 (aa : Nat) (xb : Int32) (w : nc_H) : nc_Run m_X12_undo 26 [some (.inr (.inr (12, aa))), some (.inl xb)] [] w =
  if (256 : Int32) ≤ xb then
    some (some (.inl (w.1 12 aa 24)), w)
  else
    nc_bd ((256 * (w.1 12 aa 24)) + xb) 2048 fun j1 =>
    nc_bd (76 + xb) 513 fun j2 =>
    nc_lt (nc_si w 874 aa j2 (w.1 890 aa j1)) fun w3 =>
    nc_li (xb + 1) fun x4 =>
    nc_Run m_X12_undo 26 [some (.inr (.inr (12, aa))), some (.inl x4)] [] w3 :=
  (nc_Run_un [26] 21).trans rfl
set_option maxRecDepth 100000 in
theorem qc_X12_tries (aa : Nat) (w : nc_H) : nc_Call m_X12_tries [.inr (.inr (12, aa))] w =
  nc_Run m_X12_tries 2 [some (.inr (.inr (12, aa))), some (.inl 0)] [] w :=
  (nc_Call_eq _ _ _).trans ((if_pos (Nat.le_of_ble_eq_true rfl)).trans ((nc_Run_un [2] 3).trans rfl))
set_option maxRecDepth 100000 in
theorem qr_X12_tries_2 (aa : Nat) (xb : Int32) (w : nc_H) : nc_Run m_X12_tries 2 [some (.inr (.inr (12, aa))), some (.inl xb)] [] w =
  if (256 : Int32) ≤ xb then
    some (none, w)
  else
    nc_bd (76 + xb) 513 fun j1 =>
    nc_bd xb 256 fun j2 =>
    nc_lt (nc_si w 891 aa j2 (w.1 874 aa j1)) fun w3 =>
    nc_li (xb + 1) fun x4 =>
    nc_Run m_X12_tries 2 [some (.inr (.inr (12, aa))), some (.inl x4)] [] w3 :=
  (nc_Run_un [2] 16).trans rfl
set_option maxRecDepth 100000 in
theorem qc_X12_back (aa : Nat) (w : nc_H) : nc_Call m_X12_back [.inr (.inr (12, aa))] w =
  nc_Run m_X12_back 2 [some (.inr (.inr (12, aa))), some (.inl 0)] [] w :=
  (nc_Call_eq _ _ _).trans ((if_pos (Nat.le_of_ble_eq_true rfl)).trans ((nc_Run_un [2] 3).trans rfl))
set_option maxRecDepth 100000 in
theorem qr_X12_back_2 (aa : Nat) (xb : Int32) (w : nc_H) : nc_Run m_X12_back 2 [some (.inr (.inr (12, aa))), some (.inl xb)] [] w =
  if (256 : Int32) ≤ xb then
    some (none, w)
  else
    nc_bd xb 256 fun j1 =>
    nc_bd (76 + xb) 513 fun j2 =>
    nc_lt (nc_si w 874 aa j2 (w.1 891 aa j1)) fun w3 =>
    nc_li (xb + 1) fun x4 =>
    nc_Run m_X12_back 2 [some (.inr (.inr (12, aa))), some (.inl x4)] [] w3 :=
  (nc_Run_un [2] 16).trans rfl
set_option maxRecDepth 100000 in
theorem qc_X12_peace (aa : Nat) (w : nc_H) : nc_Call m_X12_peace [.inr (.inr (12, aa))] w =
  nc_Run m_X12_peace 4 [some (.inr (.inr (12, aa))), some (.inl 0), some (.inl 0)] [] w :=
  (nc_Call_eq _ _ _).trans ((if_pos (Nat.le_of_ble_eq_true rfl)).trans ((nc_Run_un [4] 5).trans rfl))
set_option maxRecDepth 100000 in
theorem qr_X12_peace_4 (aa : Nat) (xb : Int32) (xc : Int32) (w : nc_H) : nc_Run m_X12_peace 4 [some (.inr (.inr (12, aa))), some (.inl xb), some (.inl xc)] [] w =
  if (w.1 874 aa 2) ≤ xc then
    some (some (.inl xb), w)
  else
    nc_bd (37 + xc) 513 fun j1 =>
    if (w.1 874 aa j1) = 2 then
      nc_li (xb ||| 0) fun x2 =>
      nc_li (xc + 1) fun x3 =>
      nc_Run m_X12_peace 4 [some (.inr (.inr (12, aa))), some (.inl x2), some (.inl x3)] [] w
    else
      nc_li (xb ||| (1 <<< (xc &&& 31))) fun x4 =>
      nc_li (xc + 1) fun x5 =>
      nc_Run m_X12_peace 4 [some (.inr (.inr (12, aa))), some (.inl x4), some (.inl x5)] [] w :=
  (nc_Run_un [4] 24).trans rfl
set_option maxRecDepth 100000 in
theorem qc_X12_tellsSet (aa : Nat) (xb : Int32) (w : nc_H) : nc_Call m_X12_tellsSet [.inr (.inr (12, aa)), .inl xb] w =
  nc_lt (nc_si w 12 aa 26 1) fun w1 =>
  nc_lt (nc_si w1 12 aa 25 xb) fun w2 =>
  some (none, w2) :=
  (nc_Call_eq _ _ _).trans ((if_pos (Nat.le_of_ble_eq_true rfl)).trans ((nc_Run_un [] 7).trans rfl))
set_option maxRecDepth 100000 in
theorem qc_X12_told (aa : Nat) (w : nc_H) : nc_Call m_X12_told [.inr (.inr (12, aa))] w =
  nc_lt (nc_si w 12 aa 0 0) fun w1 =>
  if (w1.1 12 aa 26) = 0 then
    some (some (.inl (-1)), w1)
  else
    some (some (.inl (w1.1 12 aa 25)), w1) :=
  (nc_Call_eq _ _ _).trans ((if_pos (Nat.le_of_ble_eq_true rfl)).trans ((nc_Run_un [] 10).trans rfl))
set_option maxRecDepth 100000 in
theorem qc_X12_digit (aa : Nat) (xb : Int32) (xc : Int32) (xd : Int32) (w : nc_H) : nc_Call m_X12_digit [.inr (.inr (12, aa)), .inl xb, .inl xc, .inl xd] w =
  nc_Run m_X12_digit 6 [some (.inr (.inr (12, aa))), none, none, some (.inl xd), some (.inl xb), some (.inl xc)] [] w :=
  (nc_Call_eq _ _ _).trans ((if_pos (Nat.le_of_ble_eq_true rfl)).trans ((nc_Run_un [6] 5).trans rfl))
set_option maxRecDepth 100000 in
theorem qr_X12_digit_6 (aa : Nat) (xd : Int32) (xe : Int32) (xf : Int32) (w : nc_H) : nc_Run m_X12_digit 6 [some (.inr (.inr (12, aa))), none, none, some (.inl xd), some (.inl xe), some (.inl xf)] [] w =
  if (xd - 1) ≤ xf then
    if (w.1 874 aa 2) + 1 = 0 then none else
    some (some (.inl (xe - xe / ((w.1 874 aa 2) + 1) * ((w.1 874 aa 2) + 1))), w)
  else
    if (w.1 874 aa 2) + 1 = 0 then none else
    nc_li (xe / ((w.1 874 aa 2) + 1)) fun x1 =>
    nc_li (xf + 1) fun x2 =>
    nc_Run m_X12_digit 6 [some (.inr (.inr (12, aa))), none, none, some (.inl xd), some (.inl x1), some (.inl x2)] [] w :=
  (nc_Run_un [6] 17).trans rfl
set_option maxRecDepth 100000 in
theorem qc_X12_parted (aa : Nat) (w : nc_H) : nc_Call m_X12_parted [.inr (.inr (12, aa))] w =
  nc_lt (nc_si w 12 aa 0 0) fun w1 =>
  if (w1.1 12 aa 30) = 0 then
    some (some (.inl (-1)), w1)
  else
    some (some (.inl (w1.1 12 aa 29)), w1) :=
  (nc_Call_eq _ _ _).trans ((if_pos (Nat.le_of_ble_eq_true rfl)).trans ((nc_Run_un [] 10).trans rfl))
set_option maxRecDepth 100000 in
theorem qc_X12_surely (aa : Nat) (w : nc_H) : nc_Call m_X12_surely [.inr (.inr (12, aa))] w =
  nc_lt (nc_si w 12 aa 0 0) fun w1 =>
  if (w1.1 12 aa 33) = 0 then
    some (some (.inl (-1)), w1)
  else
    some (some (.inl (w1.1 12 aa 31)), w1) :=
  (nc_Call_eq _ _ _).trans ((if_pos (Nat.le_of_ble_eq_true rfl)).trans ((nc_Run_un [] 10).trans rfl))
set_option maxRecDepth 100000 in
theorem qc_X12_ask (aa : Nat) (w : nc_H) : nc_Call m_X12_ask [.inr (.inr (12, aa))] w =
  nc_lt (nc_si w 12 aa 0 0) fun w1 =>
  if (w1.1 12 aa 33) = 0 then
    some (some (.inl (-1)), w1)
  else
    some (some (.inl (w1.1 12 aa 32)), w1) :=
  (nc_Call_eq _ _ _).trans ((if_pos (Nat.le_of_ble_eq_true rfl)).trans ((nc_Run_un [] 10).trans rfl))
set_option maxRecDepth 100000 in
theorem qc_X12_draw (aa : Nat) (xb : Int32) (w : nc_H) : nc_Call m_X12_draw [.inr (.inr (12, aa)), .inl xb] w =
  nc_lt (nc_si w 12 aa 35 (((w.1 12 aa 35) * 1103515245) + 12345)) fun w1 =>
  if xb = 0 then none else
  some (some (.inl ((((w1.1 12 aa 35).toUInt32 >>> ((8 : Int32).toUInt32 &&& Int32.toUInt32 31)).toInt32) - (((w1.1 12 aa 35).toUInt32 >>> ((8 : Int32).toUInt32 &&& Int32.toUInt32 31)).toInt32) / xb * xb)), w1) :=
  (nc_Call_eq _ _ _).trans ((if_pos (Nat.le_of_ble_eq_true rfl)).trans ((nc_Run_un [] 15).trans rfl))
set_option maxRecDepth 100000 in
theorem qc_X12_code (aa : Nat) (xb : Int32) (xc : Int32) (xd : Int32) (w : nc_H) : nc_Call m_X12_code [.inr (.inr (12, aa)), .inl xb, .inl xc, .inl xd] w =
  nc_bd (3 * (w.1 12 aa 40)) 135 fun j1 =>
  nc_lt (nc_si w 876 aa j1 xb) fun w2 =>
  nc_bd ((3 * (w2.1 12 aa 40)) + 1) 135 fun j3 =>
  nc_lt (nc_si w2 876 aa j3 xc) fun w4 =>
  nc_bd ((3 * (w4.1 12 aa 40)) + 2) 135 fun j5 =>
  nc_lt (nc_si w4 876 aa j5 xd) fun w6 =>
  nc_lt (nc_si w6 12 aa 40 ((w6.1 12 aa 40) + 1)) fun w7 =>
  some (none, w7) :=
  (nc_Call_eq _ _ _).trans ((if_pos (Nat.le_of_ble_eq_true rfl)).trans ((nc_Run_un [] 35).trans rfl))
set_option maxRecDepth 100000 in
theorem qc_X12_feed (aa : Nat) (xb : Int32) (xc : Int32) (xd : Int32) (xe : Int32) (xf : Int32) (w : nc_H) : nc_Call m_X12_feed [.inr (.inr (12, aa)), .inl xb, .inl xc, .inl xd, .inl xe, .inl xf] w =
  nc_lt (nc_si w 12 aa 0 0) fun w1 =>
  if ((w1.1 12 aa 2) + 20) ≤ 940 then
    nc_bV (nc_Call m_X12_four [.inr (.inr (12, aa)), .inl xb] w1) fun w2 =>
    nc_bV (nc_Call m_X12_four [.inr (.inr (12, aa)), .inl xc] w2) fun w3 =>
    nc_bV (nc_Call m_X12_four [.inr (.inr (12, aa)), .inl xd] w3) fun w4 =>
    nc_bV (nc_Call m_X12_four [.inr (.inr (12, aa)), .inl xe] w4) fun w5 =>
    nc_bV (nc_Call m_X12_four [.inr (.inr (12, aa)), .inl xf] w5) fun w6 =>
    some (some (.inl (w6.1 12 aa 2)), w6)
  else
    some (some (.inl (-1)), w1) :=
  (nc_Call_eq _ _ _).trans ((if_pos (Nat.le_of_ble_eq_true rfl)).trans ((nc_Run_un [] 27).trans rfl))
set_option maxRecDepth 100000 in
theorem qc_X12_next (aa : Nat) (w : nc_H) : nc_Call m_X12_next [.inr (.inr (12, aa))] w =
  nc_bI (nc_Call m_X12_peek [.inr (.inr (12, aa))] w) fun r2 w1 =>
  if r2 = 32 then
    nc_lt (nc_si w1 12 aa 4 ((w1.1 12 aa 4) + 1)) fun w3 =>
    nc_Run m_X12_next 0 [some (.inr (.inr (12, aa))), none, none, none] [] w3
  else
    nc_bI (nc_Call m_X12_peek [.inr (.inr (12, aa))] w1) fun r5 w4 =>
    if r5 ≠ 10 then
      nc_lt (nc_si w4 12 aa 12 (w4.1 12 aa 4)) fun w6 =>
      nc_lt (nc_si w6 12 aa 13 0) fun w7 =>
      if (w7.1 12 aa 3) ≤ (w7.1 12 aa 5) then
        nc_Run m_X12_next 80 [some (.inr (.inr (12, aa))), none, none, none] [] w7
      else
        if (w7.1 12 aa 4) < (w7.1 12 aa 5) then
          nc_Run m_X12_next 80 [some (.inr (.inr (12, aa))), none, none, none] [] w7
        else
          nc_lt (nc_si w7 12 aa 12 (w7.1 12 aa 5)) fun w8 =>
          nc_lt (nc_si w8 12 aa 11 4) fun w9 =>
          some (none, w9)
    else
      nc_lt (nc_si w4 12 aa 4 ((w4.1 12 aa 4) + 1)) fun w10 =>
      nc_Run m_X12_next 0 [some (.inr (.inr (12, aa))), none, none, none] [] w10 :=
  (nc_Call_eq _ _ _).trans ((if_pos (Nat.le_of_ble_eq_true rfl)).trans ((nc_Run_un [0, 80, 181, 201, 220] 33).trans rfl))
set_option maxRecDepth 100000 in
theorem qr_X12_next_0 (aa : Nat) (w : nc_H) : nc_Run m_X12_next 0 [some (.inr (.inr (12, aa))), none, none, none] [] w =
  nc_bI (nc_Call m_X12_peek [.inr (.inr (12, aa))] w) fun r2 w1 =>
  if r2 = 32 then
    nc_lt (nc_si w1 12 aa 4 ((w1.1 12 aa 4) + 1)) fun w3 =>
    nc_Run m_X12_next 0 [some (.inr (.inr (12, aa))), none, none, none] [] w3
  else
    nc_bI (nc_Call m_X12_peek [.inr (.inr (12, aa))] w1) fun r5 w4 =>
    if r5 ≠ 10 then
      nc_lt (nc_si w4 12 aa 12 (w4.1 12 aa 4)) fun w6 =>
      nc_lt (nc_si w6 12 aa 13 0) fun w7 =>
      if (w7.1 12 aa 3) ≤ (w7.1 12 aa 5) then
        nc_Run m_X12_next 80 [some (.inr (.inr (12, aa))), none, none, none] [] w7
      else
        if (w7.1 12 aa 4) < (w7.1 12 aa 5) then
          nc_Run m_X12_next 80 [some (.inr (.inr (12, aa))), none, none, none] [] w7
        else
          nc_lt (nc_si w7 12 aa 12 (w7.1 12 aa 5)) fun w8 =>
          nc_lt (nc_si w8 12 aa 11 4) fun w9 =>
          some (none, w9)
    else
      nc_lt (nc_si w4 12 aa 4 ((w4.1 12 aa 4) + 1)) fun w10 =>
      nc_Run m_X12_next 0 [some (.inr (.inr (12, aa))), none, none, none] [] w10 :=
  (nc_Run_un [0, 80, 181, 201, 220] 33).trans rfl
set_option maxRecDepth 100000 in
theorem qr_X12_next_80 (aa : Nat) (w : nc_H) : nc_Run m_X12_next 80 [some (.inr (.inr (12, aa))), none, none, none] [] w =
  nc_bI (nc_Call m_X12_peek [.inr (.inr (12, aa))] w) fun r2 w1 =>
  if (0 : Int32) ≤ r2 then
    nc_bI (nc_Call m_X12_isSmall [.inl r2] w1) fun r4 w3 =>
    if r4 ≠ 0 then
      nc_bI (nc_Call m_X12_isSmall [.inl r2] w3) fun r6 w5 =>
      nc_lt (nc_sl w5 12 aa 17 0) fun w7 =>
      nc_lt (nc_si w7 12 aa 14 0) fun w8 =>
      nc_Run m_X12_next 181 [some (.inr (.inr (12, aa))), none, some (.inl r6), some (.inl 1)] [] w8
    else
      nc_bI (nc_Call m_X12_isDigit [.inl r2] w3) fun r10 w9 =>
      if r10 ≠ 0 then
        nc_bI (nc_Call m_X12_isSmall [.inl r2] w9) fun r12 w11 =>
        nc_lt (nc_sl w11 12 aa 17 0) fun w13 =>
        nc_lt (nc_si w13 12 aa 14 0) fun w14 =>
        nc_Run m_X12_next 181 [some (.inr (.inr (12, aa))), none, some (.inl r12), some (.inl 1)] [] w14
      else
        if r2 = 59 then
          nc_lt (nc_si w9 12 aa 11 3) fun w15 =>
          nc_lt (nc_si w15 12 aa 14 r2) fun w16 =>
          nc_lt (nc_si w16 12 aa 4 ((w16.1 12 aa 4) + 1)) fun w17 =>
          some (none, w17)
        else
          if r2 = 40 then
            nc_lt (nc_si w9 12 aa 11 3) fun w18 =>
            nc_lt (nc_si w18 12 aa 14 r2) fun w19 =>
            nc_lt (nc_si w19 12 aa 4 ((w19.1 12 aa 4) + 1)) fun w20 =>
            some (none, w20)
          else
            if r2 = 41 then
              nc_lt (nc_si w9 12 aa 11 3) fun w21 =>
              nc_lt (nc_si w21 12 aa 14 r2) fun w22 =>
              nc_lt (nc_si w22 12 aa 4 ((w22.1 12 aa 4) + 1)) fun w23 =>
              some (none, w23)
            else
              if r2 < 60 then
                nc_lt (nc_si w9 12 aa 11 4) fun w24 =>
                nc_lt (nc_si w24 12 aa 14 r2) fun w25 =>
                nc_lt (nc_si w25 12 aa 4 ((w25.1 12 aa 4) + 1)) fun w26 =>
                some (none, w26)
              else
                if (62 : Int32) < r2 then
                  nc_lt (nc_si w9 12 aa 11 4) fun w27 =>
                  nc_lt (nc_si w27 12 aa 14 r2) fun w28 =>
                  nc_lt (nc_si w28 12 aa 4 ((w28.1 12 aa 4) + 1)) fun w29 =>
                  some (none, w29)
                else
                  nc_lt (nc_si w9 12 aa 11 3) fun w30 =>
                  nc_lt (nc_si w30 12 aa 14 r2) fun w31 =>
                  nc_lt (nc_si w31 12 aa 4 ((w31.1 12 aa 4) + 1)) fun w32 =>
                  some (none, w32)
  else
    nc_lt (nc_si w1 12 aa 11 0) fun w33 =>
    some (none, w33) :=
  (nc_Run_un [0, 80, 181, 201, 220] 40).trans rfl
set_option maxRecDepth 100000 in
theorem qr_X12_next_181 (aa : Nat) (xc : Int32) (xd : Int32) (w : nc_H) : nc_Run m_X12_next 181 [some (.inr (.inr (12, aa))), none, some (.inl xc), some (.inl xd)] [] w =
  nc_bI (nc_Call m_X12_peek [.inr (.inr (12, aa))] w) fun r2 w1 =>
  nc_bI (nc_Call m_X12_isSmall [.inl r2] w1) fun r4 w3 =>
  if r4 ≠ 0 then
    nc_Run m_X12_next 201 [some (.inr (.inr (12, aa))), none, some (.inl xc), some (.inl xd)] [] w3
  else
    nc_bI (nc_Call m_X12_peek [.inr (.inr (12, aa))] w3) fun r6 w5 =>
    nc_bI (nc_Call m_X12_isDigit [.inl r6] w5) fun r8 w7 =>
    if r8 = 0 then
      if xd = 0 then
        nc_lt (nc_si w7 12 aa 11 4) fun w9 =>
        some (none, w9)
      else
        if xc = 0 then
          if (w7.1 12 aa 13) ≤ 3 then
            if xc = 0 then
              nc_lt (nc_si w7 12 aa 11 2) fun w10 =>
              some (none, w10)
            else
              nc_lt (nc_si w7 12 aa 11 1) fun w11 =>
              some (none, w11)
          else
            nc_lt (nc_si w7 12 aa 11 4) fun w12 =>
            some (none, w12)
        else
          if (w7.1 12 aa 13) ≤ 7 then
            if xc = 0 then
              nc_lt (nc_si w7 12 aa 11 2) fun w13 =>
              some (none, w13)
            else
              nc_lt (nc_si w7 12 aa 11 1) fun w14 =>
              some (none, w14)
          else
            nc_lt (nc_si w7 12 aa 11 4) fun w15 =>
            some (none, w15)
    else
      nc_Run m_X12_next 201 [some (.inr (.inr (12, aa))), none, some (.inl xc), some (.inl xd)] [] w7 :=
  (nc_Run_un [0, 80, 181, 201, 220] 24).trans rfl
set_option maxRecDepth 100000 in
theorem qr_X12_next_201 (aa : Nat) (xc : Int32) (xd : Int32) (w : nc_H) : nc_Run m_X12_next 201 [some (.inr (.inr (12, aa))), none, some (.inl xc), some (.inl xd)] [] w =
  if xd = 0 then
    nc_Run m_X12_next 220 [some (.inr (.inr (12, aa))), none, some (.inl xc), none] [] w
  else
    nc_bI (nc_Call m_X12_peek [.inr (.inr (12, aa))] w) fun r2 w1 =>
    nc_bI (nc_Call m_X12_isSmall [.inl r2] w1) fun r4 w3 =>
    if r4 ≠ xc then
      nc_Run m_X12_next 220 [some (.inr (.inr (12, aa))), none, some (.inl xc), none] [] w3
    else
      if (7 : Int32) ≤ (w3.1 12 aa 13) then
        if (3 : Int32) ≤ (w3.1 12 aa 13) then
          nc_lt (nc_si w3 12 aa 13 ((w3.1 12 aa 13) + 1)) fun w5 =>
          nc_lt (nc_si w5 12 aa 4 ((w5.1 12 aa 4) + 1)) fun w6 =>
          nc_Run m_X12_next 181 [some (.inr (.inr (12, aa))), none, some (.inl xc), some (.inl 1)] [] w6
        else
          nc_bI (nc_Call m_X12_peek [.inr (.inr (12, aa))] w3) fun r8 w7 =>
          nc_lt (nc_si w7 12 aa 14 (((10 * (w3.1 12 aa 14)) + r8) - 48)) fun w9 =>
          nc_lt (nc_si w9 12 aa 13 ((w9.1 12 aa 13) + 1)) fun w10 =>
          nc_lt (nc_si w10 12 aa 4 ((w10.1 12 aa 4) + 1)) fun w11 =>
          nc_Run m_X12_next 181 [some (.inr (.inr (12, aa))), none, some (.inl xc), some (.inl 1)] [] w11
      else
        nc_bI (nc_Call m_X12_peek [.inr (.inr (12, aa))] w3) fun r13 w12 =>
        nc_lt (nc_sl w12 12 aa 17 (((w3.2 12 aa 17) <<< ((8 : Int32).toInt64 &&& 63)) ||| r13.toInt64)) fun w14 =>
        if (3 : Int32) ≤ (w14.1 12 aa 13) then
          nc_lt (nc_si w14 12 aa 13 ((w14.1 12 aa 13) + 1)) fun w15 =>
          nc_lt (nc_si w15 12 aa 4 ((w15.1 12 aa 4) + 1)) fun w16 =>
          nc_Run m_X12_next 181 [some (.inr (.inr (12, aa))), none, some (.inl xc), some (.inl 1)] [] w16
        else
          nc_bI (nc_Call m_X12_peek [.inr (.inr (12, aa))] w14) fun r18 w17 =>
          nc_lt (nc_si w17 12 aa 14 (((10 * (w14.1 12 aa 14)) + r18) - 48)) fun w19 =>
          nc_lt (nc_si w19 12 aa 13 ((w19.1 12 aa 13) + 1)) fun w20 =>
          nc_lt (nc_si w20 12 aa 4 ((w20.1 12 aa 4) + 1)) fun w21 =>
          nc_Run m_X12_next 181 [some (.inr (.inr (12, aa))), none, some (.inl xc), some (.inl 1)] [] w21 :=
  (nc_Run_un [0, 80, 181, 201, 220] 53).trans rfl
set_option maxRecDepth 100000 in
theorem qr_X12_next_220 (aa : Nat) (xc : Int32) (w : nc_H) : nc_Run m_X12_next 220 [some (.inr (.inr (12, aa))), none, some (.inl xc), none] [] w =
  if (7 : Int32) ≤ (w.1 12 aa 13) then
    if (3 : Int32) ≤ (w.1 12 aa 13) then
      nc_lt (nc_si w 12 aa 13 ((w.1 12 aa 13) + 1)) fun w1 =>
      nc_lt (nc_si w1 12 aa 4 ((w1.1 12 aa 4) + 1)) fun w2 =>
      nc_Run m_X12_next 181 [some (.inr (.inr (12, aa))), none, some (.inl xc), some (.inl 0)] [] w2
    else
      nc_bI (nc_Call m_X12_peek [.inr (.inr (12, aa))] w) fun r4 w3 =>
      nc_lt (nc_si w3 12 aa 14 (((10 * (w.1 12 aa 14)) + r4) - 48)) fun w5 =>
      nc_lt (nc_si w5 12 aa 13 ((w5.1 12 aa 13) + 1)) fun w6 =>
      nc_lt (nc_si w6 12 aa 4 ((w6.1 12 aa 4) + 1)) fun w7 =>
      nc_Run m_X12_next 181 [some (.inr (.inr (12, aa))), none, some (.inl xc), some (.inl 0)] [] w7
  else
    nc_bI (nc_Call m_X12_peek [.inr (.inr (12, aa))] w) fun r9 w8 =>
    nc_lt (nc_sl w8 12 aa 17 (((w.2 12 aa 17) <<< ((8 : Int32).toInt64 &&& 63)) ||| r9.toInt64)) fun w10 =>
    if (3 : Int32) ≤ (w10.1 12 aa 13) then
      nc_lt (nc_si w10 12 aa 13 ((w10.1 12 aa 13) + 1)) fun w11 =>
      nc_lt (nc_si w11 12 aa 4 ((w11.1 12 aa 4) + 1)) fun w12 =>
      nc_Run m_X12_next 181 [some (.inr (.inr (12, aa))), none, some (.inl xc), some (.inl 0)] [] w12
    else
      nc_bI (nc_Call m_X12_peek [.inr (.inr (12, aa))] w10) fun r14 w13 =>
      nc_lt (nc_si w13 12 aa 14 (((10 * (w10.1 12 aa 14)) + r14) - 48)) fun w15 =>
      nc_lt (nc_si w15 12 aa 13 ((w15.1 12 aa 13) + 1)) fun w16 =>
      nc_lt (nc_si w16 12 aa 4 ((w16.1 12 aa 4) + 1)) fun w17 =>
      nc_Run m_X12_next 181 [some (.inr (.inr (12, aa))), none, some (.inl xc), some (.inl 0)] [] w17 :=
  (nc_Run_un [0, 80, 181, 201, 220] 45).trans rfl
set_option maxRecDepth 100000 in
theorem qc_X12_sign (aa : Nat) (xb : Int32) (w : nc_H) : nc_Call m_X12_sign [.inr (.inr (12, aa)), .inl xb] w =
  nc_bI (nc_Call m_X12_isSign [.inr (.inr (12, aa)), .inl xb] w) fun r2 w1 =>
  if r2 ≠ 0 then
    nc_bV (nc_Call m_X12_next [.inr (.inr (12, aa))] w1) fun w3 =>
    some (some (.inl 1), w3)
  else
    nc_bI (nc_Call m_X12_bad [.inr (.inr (12, aa)), .inl 1] w1) fun r5 w4 =>
    nc_z r5 <| some (some (.inl r5), w4) :=
  (nc_Call_eq _ _ _).trans ((if_pos (Nat.le_of_ble_eq_true rfl)).trans ((nc_Run_un [] 8).trans rfl))
set_option maxRecDepth 100000 in
theorem qc_X12_takes (aa : Nat) (xb : Int32) (xc : Int32) (w : nc_H) : nc_Call m_X12_takes [.inr (.inr (12, aa)), .inl xb, .inl xc] w =
  if (w.1 12 aa 11) = 2 then
    nc_bI (nc_Call m_X12_isIn [.inl (w.1 12 aa 14), .inl xb, .inl xc] w) fun r2 w1 =>
    if r2 ≠ 0 then
      nc_lt (nc_si w1 12 aa 18 (w1.1 12 aa 14)) fun w3 =>
      nc_bV (nc_Call m_X12_next [.inr (.inr (12, aa))] w3) fun w4 =>
      some (some (.inl 1), w4)
    else
      nc_bI (nc_Call m_X12_bad [.inr (.inr (12, aa)), .inl 2] w1) fun r6 w5 =>
      nc_z r6 <| some (some (.inl r6), w5)
  else
    nc_bI (nc_Call m_X12_bad [.inr (.inr (12, aa)), .inl 1] w) fun r8 w7 =>
    nc_z r8 <| some (some (.inl r8), w7) :=
  (nc_Call_eq _ _ _).trans ((if_pos (Nat.le_of_ble_eq_true rfl)).trans ((nc_Run_un [] 18).trans rfl))
set_option maxRecDepth 100000 in
theorem qc_X12_puts (aa : Nat) (xb : Int32) (xc : Int32) (xd : Int32) (w : nc_H) : nc_Call m_X12_puts [.inr (.inr (12, aa)), .inl xb, .inl xc, .inl xd] w =
  nc_bI (nc_Call m_X12_takes [.inr (.inr (12, aa)), .inl xc, .inl xd] w) fun r2 w1 =>
  if r2 ≠ 0 then
    nc_bd xb 76 fun j3 =>
    nc_lt (nc_si w1 875 aa j3 (w1.1 12 aa 18)) fun w4 =>
    some (some (.inl 1), w4)
  else
    some (some (.inl 0), w1) :=
  (nc_Call_eq _ _ _).trans ((if_pos (Nat.le_of_ble_eq_true rfl)).trans ((nc_Run_un [] 13).trans rfl))
set_option maxRecDepth 100000 in
theorem qc_X12_fresh (aa : Nat) (xb : Int32) (w : nc_H) : nc_Call m_X12_fresh [.inr (.inr (12, aa)), .inl xb] w =
  nc_bI (nc_Call m_X12_isName [.inr (.inr (12, aa))] w) fun r2 w1 =>
  if r2 ≠ 0 then
    nc_bI (nc_Call m_X12_seek [.inr (.inr (12, aa)), .inl 22, .inl (w1.1 875 aa 0)] w1) fun r4 w3 =>
    if (0 : Int32) ≤ r4 then
      nc_bI (nc_Call m_X12_bad [.inr (.inr (12, aa)), .inl 3] w3) fun r6 w5 =>
      nc_z r6 <| some (some (.inl r6), w5)
    else
      nc_bI (nc_Call m_X12_seek [.inr (.inr (12, aa)), .inl 26, .inl (w3.1 875 aa 1)] w3) fun r8 w7 =>
      if (0 : Int32) ≤ r8 then
        nc_bI (nc_Call m_X12_bad [.inr (.inr (12, aa)), .inl 3] w7) fun r10 w9 =>
        nc_z r10 <| some (some (.inl r10), w9)
      else
        nc_bI (nc_Call m_X12_seek [.inr (.inr (12, aa)), .inl 34, .inl (w7.1 875 aa 2)] w7) fun r12 w11 =>
        if r12 < 0 then
          nc_bd xb 44 fun j13 =>
          nc_lt (nc_sl w11 877 aa j13 (w11.2 12 aa 17)) fun w14 =>
          nc_bV (nc_Call m_X12_next [.inr (.inr (12, aa))] w14) fun w15 =>
          some (some (.inl 1), w15)
        else
          nc_bI (nc_Call m_X12_bad [.inr (.inr (12, aa)), .inl 3] w11) fun r17 w16 =>
          nc_z r17 <| some (some (.inl r17), w16)
  else
    nc_bI (nc_Call m_X12_bad [.inr (.inr (12, aa)), .inl 1] w1) fun r19 w18 =>
    nc_z r19 <| some (some (.inl r19), w18) :=
  (nc_Call_eq _ _ _).trans ((if_pos (Nat.le_of_ble_eq_true rfl)).trans ((nc_Run_un [] 37).trans rfl))
set_option maxRecDepth 100000 in
theorem qc_X12_looksAt (aa : Nat) (xb : Int32) (xc : Int32) (w : nc_H) : nc_Call m_X12_looksAt [.inr (.inr (12, aa)), .inl xb, .inl xc] w =
  nc_bI (nc_Call m_X12_isName [.inr (.inr (12, aa))] w) fun r2 w1 =>
  if r2 ≠ 0 then
    nc_bI (nc_Call m_X12_seek [.inr (.inr (12, aa)), .inl xb, .inl xc] w1) fun r4 w3 =>
    nc_lt (nc_si w3 12 aa 18 r4) fun w5 =>
    if (0 : Int32) ≤ (w5.1 12 aa 18) then
      some (some (.inl 1), w5)
    else
      nc_bI (nc_Call m_X12_bad [.inr (.inr (12, aa)), .inl 3] w5) fun r7 w6 =>
      if r7 = 0 then
        some (some (.inl 0), w6)
      else
        some (some (.inl 1), w6)
  else
    nc_bI (nc_Call m_X12_bad [.inr (.inr (12, aa)), .inl 1] w1) fun r9 w8 =>
    nc_z r9 <| some (some (.inl r9), w8) :=
  (nc_Call_eq _ _ _).trans ((if_pos (Nat.le_of_ble_eq_true rfl)).trans ((nc_Run_un [] 19).trans rfl))
set_option maxRecDepth 100000 in
theorem qc_X12_takesName (aa : Nat) (xb : Int32) (xc : Int32) (w : nc_H) : nc_Call m_X12_takesName [.inr (.inr (12, aa)), .inl xb, .inl xc] w =
  nc_bI (nc_Call m_X12_looksAt [.inr (.inr (12, aa)), .inl xb, .inl xc] w) fun r2 w1 =>
  if r2 ≠ 0 then
    nc_bV (nc_Call m_X12_next [.inr (.inr (12, aa))] w1) fun w3 =>
    some (some (.inl 1), w3)
  else
    some (some (.inl 0), w1) :=
  (nc_Call_eq _ _ _).trans ((if_pos (Nat.le_of_ble_eq_true rfl)).trans ((nc_Run_un [] 9).trans rfl))
set_option maxRecDepth 100000 in
theorem qc_X12_kindOf (aa : Nat) (w : nc_H) : nc_Call m_X12_kindOf [.inr (.inr (12, aa))] w =
  nc_bI (nc_Call m_X12_isWord [.inr (.inr (12, aa)), .inr (.inl 482854660462)] w) fun r2 w1 =>
  if r2 = 0 then
    nc_bI (nc_Call m_X12_isWord [.inr (.inr (12, aa)), .inr (.inl 32478892436775276)] w1) fun r4 w3 =>
    if r4 = 0 then
      nc_bI (nc_Call m_X12_isWord [.inr (.inr (12, aa)), .inr (.inl 7823730)] w3) fun r6 w5 =>
      if r6 = 0 then
        nc_bI (nc_Call m_X12_isWord [.inr (.inr (12, aa)), .inr (.inl 33606991467799922)] w5) fun r8 w7 =>
        if r8 = 0 then
          some (some (.inl (-1)), w7)
        else
          some (some (.inl 3), w7)
      else
        some (some (.inl 2), w5)
    else
      some (some (.inl 1), w3)
  else
    some (some (.inl 0), w1) :=
  (nc_Call_eq _ _ _).trans ((if_pos (Nat.le_of_ble_eq_true rfl)).trans ((nc_Run_un [] 19).trans rfl))
set_option maxRecDepth 100000 in
theorem qc_X12_readNews (aa : Nat) (w : nc_H) : nc_Call m_X12_readNews [.inr (.inr (12, aa))] w =
  nc_li (w.1 875 aa 2) fun x1 =>
  if x1 ≠ 10 then
    nc_bV (nc_Call m_X12_next [.inr (.inr (12, aa))] w) fun w2 =>
    nc_bI (nc_Call m_X12_fresh [.inr (.inr (12, aa)), .inl (34 + x1)] w2) fun r4 w3 =>
    if r4 ≠ 0 then
      nc_bI (nc_Call m_X12_kindOf [.inr (.inr (12, aa))] w3) fun r6 w5 =>
      nc_bd (37 + x1) 76 fun j7 =>
      nc_lt (nc_si w5 875 aa j7 r6) fun w8 =>
      nc_bd (37 + x1) 76 fun j9 =>
      if (0 : Int32) ≤ (w8.1 875 aa j9) then
        nc_bV (nc_Call m_X12_next [.inr (.inr (12, aa))] w8) fun w10 =>
        nc_bI (nc_Call m_X12_puts [.inr (.inr (12, aa)), .inl (47 + x1), .inl 0, .inl 20] w10) fun r12 w11 =>
        if r12 ≠ 0 then
          nc_bI (nc_Call m_X12_isWord [.inr (.inr (12, aa)), .inr (.inl 7104869)] w11) fun r14 w13 =>
          if r14 = 0 then
            nc_lt (nc_si w13 875 aa 2 ((w13.1 875 aa 2) + 1)) fun w15 =>
            some (some (.inl 1), w15)
          else
            nc_lt (nc_si w13 875 aa 57 ((w13.1 875 aa 57) ||| (1 <<< (x1 &&& 31)))) fun w16 =>
            nc_bV (nc_Call m_X12_next [.inr (.inr (12, aa))] w16) fun w17 =>
            nc_lt (nc_si w17 875 aa 2 ((w17.1 875 aa 2) + 1)) fun w18 =>
            some (some (.inl 1), w18)
        else
          some (some (.inl 0), w11)
      else
        nc_bI (nc_Call m_X12_bad [.inr (.inr (12, aa)), .inl 1] w8) fun r20 w19 =>
        nc_z r20 <| some (some (.inl r20), w19)
    else
      some (some (.inl 0), w3)
  else
    nc_bI (nc_Call m_X12_bad [.inr (.inr (12, aa)), .inl 4] w) fun r22 w21 =>
    nc_z r22 <| some (some (.inl r22), w21) :=
  (nc_Call_eq _ _ _).trans ((if_pos (Nat.le_of_ble_eq_true rfl)).trans ((nc_Run_un [] 67).trans rfl))
set_option maxRecDepth 100000 in
theorem qc_X12_readHedge (aa : Nat) (w : nc_H) : nc_Call m_X12_readHedge [.inr (.inr (12, aa))] w =
  nc_li (w.1 875 aa 3) fun x1 =>
  nc_bV (nc_Call m_X12_next [.inr (.inr (12, aa))] w) fun w2 =>
  nc_bI (nc_Call m_X12_takesName [.inr (.inr (12, aa)), .inl 22, .inl (w2.1 875 aa 0)] w2) fun r4 w3 =>
  if r4 ≠ 0 then
    nc_li (w3.1 12 aa 18) fun x5 =>
    nc_bI (nc_Call m_X12_looksAt [.inr (.inr (12, aa)), .inl 22, .inl (w3.1 875 aa 0)] w3) fun r7 w6 =>
    if r7 ≠ 0 then
      if (w6.1 12 aa 18) = x5 then
        nc_Run m_X12_readHedge 67 [some (.inr (.inr (12, aa))), some (.inl x1), some (.inl x5), some (.inl 0), some (.inl 0)] [] w6
      else
        nc_Run m_X12_readHedge 67 [some (.inr (.inr (12, aa))), some (.inl x1), some (.inl x5), some (.inl 1), some (.inl 0)] [] w6
    else
      some (some (.inl 0), w6)
  else
    some (some (.inl 0), w3) :=
  (nc_Call_eq _ _ _).trans ((if_pos (Nat.le_of_ble_eq_true rfl)).trans ((nc_Run_un [67] 36).trans rfl))
set_option maxRecDepth 100000 in
theorem qr_X12_readHedge_67 (aa : Nat) (xb : Int32) (xc : Int32) (xd : Int32) (xe : Int32) (w : nc_H) : nc_Run m_X12_readHedge 67 [some (.inr (.inr (12, aa))), some (.inl xb), some (.inl xc), some (.inl xd), some (.inl xe)] [] w =
  if xb ≤ xe then
    if xd ≠ 0 then
      nc_bd (58 + xb) 76 fun j1 =>
      nc_lt (nc_si w 875 aa j1 xc) fun w2 =>
      nc_bd (64 + xb) 76 fun j3 =>
      nc_lt (nc_si w2 875 aa j3 (w2.1 12 aa 18)) fun w4 =>
      nc_bV (nc_Call m_X12_next [.inr (.inr (12, aa))] w4) fun w5 =>
      nc_bI (nc_Call m_X12_puts [.inr (.inr (12, aa)), .inl (70 + xb), .inl 1, .inl 9] w5) fun r7 w6 =>
      if r7 ≠ 0 then
        nc_lt (nc_si w6 875 aa 3 ((w6.1 875 aa 3) + 1)) fun w8 =>
        some (some (.inl 1), w8)
      else
        some (some (.inl 0), w6)
    else
      nc_bI (nc_Call m_X12_bad [.inr (.inr (12, aa)), .inl 3] w) fun r10 w9 =>
      nc_z r10 <| some (some (.inl r10), w9)
  else
    if xd = 0 then
      nc_li (xe + 1) fun x11 =>
      nc_Run m_X12_readHedge 67 [some (.inr (.inr (12, aa))), some (.inl xb), some (.inl xc), some (.inl 0), some (.inl x11)] [] w
    else
      nc_bd (58 + xe) 76 fun j12 =>
      if (w.1 875 aa j12) ≠ xc then
        nc_bd (58 + xe) 76 fun j13 =>
        if (w.1 875 aa j13) ≠ (w.1 12 aa 18) then
          nc_li (xe + 1) fun x14 =>
          nc_Run m_X12_readHedge 67 [some (.inr (.inr (12, aa))), some (.inl xb), some (.inl xc), some (.inl 1), some (.inl x14)] [] w
        else
          nc_bd (64 + xe) 76 fun j15 =>
          if (w.1 875 aa j15) = xc then
            nc_li (xe + 1) fun x16 =>
            nc_Run m_X12_readHedge 67 [some (.inr (.inr (12, aa))), some (.inl xb), some (.inl xc), some (.inl 0), some (.inl x16)] [] w
          else
            nc_li (xe + 1) fun x17 =>
            nc_Run m_X12_readHedge 67 [some (.inr (.inr (12, aa))), some (.inl xb), some (.inl xc), some (.inl 1), some (.inl x17)] [] w
      else
        nc_bd (64 + xe) 76 fun j18 =>
        if (w.1 875 aa j18) = (w.1 12 aa 18) then
          nc_li (xe + 1) fun x19 =>
          nc_Run m_X12_readHedge 67 [some (.inr (.inr (12, aa))), some (.inl xb), some (.inl xc), some (.inl 0), some (.inl x19)] [] w
        else
          nc_bd (58 + xe) 76 fun j20 =>
          if (w.1 875 aa j20) ≠ (w.1 12 aa 18) then
            nc_li (xe + 1) fun x21 =>
            nc_Run m_X12_readHedge 67 [some (.inr (.inr (12, aa))), some (.inl xb), some (.inl xc), some (.inl 1), some (.inl x21)] [] w
          else
            nc_bd (64 + xe) 76 fun j22 =>
            if (w.1 875 aa j22) = xc then
              nc_li (xe + 1) fun x23 =>
              nc_Run m_X12_readHedge 67 [some (.inr (.inr (12, aa))), some (.inl xb), some (.inl xc), some (.inl 0), some (.inl x23)] [] w
            else
              nc_li (xe + 1) fun x24 =>
              nc_Run m_X12_readHedge 67 [some (.inr (.inr (12, aa))), some (.inl xb), some (.inl xc), some (.inl 1), some (.inl x24)] [] w :=
  (nc_Run_un [67] 45).trans rfl
set_option maxRecDepth 100000 in
theorem qc_X12_line (aa : Nat) (w : nc_H) : nc_Call m_X12_line [.inr (.inr (12, aa))] w =
  nc_bI (nc_Call m_X12_isWord [.inr (.inr (12, aa)), .inr (.inl 1717662317)] w) fun r2 w1 =>
  if r2 = 0 then
    nc_bI (nc_Call m_X12_isWord [.inr (.inr (12, aa)), .inr (.inl 6516599)] w1) fun r4 w3 =>
    if r4 = 0 then
      nc_bI (nc_Call m_X12_isWord [.inr (.inr (12, aa)), .inr (.inl 1852143475)] w3) fun r6 w5 =>
      if r6 = 0 then
        nc_bI (nc_Call m_X12_isWord [.inr (.inr (12, aa)), .inr (.inl 448377677669)] w5) fun r8 w7 =>
        if r8 = 0 then
          nc_bI (nc_Call m_X12_isWord [.inr (.inr (12, aa)), .inr (.inl 448377483891)] w7) fun r10 w9 =>
          if r10 ≠ 0 then
            if (w9.1 12 aa 20) = 0 then
              nc_lt (nc_si w9 12 aa 20 1) fun w11 =>
              nc_bV (nc_Call m_X12_next [.inr (.inr (12, aa))] w11) fun w12 =>
              nc_bI (nc_Call m_X12_puts [.inr (.inr (12, aa)), .inl 4, .inl 1, .inl 5] w12) fun r14 w13 =>
              nc_z r14 <| some (some (.inl r14), w13)
            else
              nc_bI (nc_Call m_X12_bad [.inr (.inr (12, aa)), .inl 3] w9) fun r16 w15 =>
              nc_z r16 <| some (some (.inl r16), w15)
          else
            nc_bI (nc_Call m_X12_bad [.inr (.inr (12, aa)), .inl 1] w9) fun r18 w17 =>
            nc_z r18 <| some (some (.inl r18), w17)
        else
          nc_bI (nc_Call m_X12_readHedge [.inr (.inr (12, aa))] w7) fun r20 w19 =>
          nc_z r20 <| some (some (.inl r20), w19)
      else
        nc_bI (nc_Call m_X12_readNews [.inr (.inr (12, aa))] w5) fun r22 w21 =>
        nc_z r22 <| some (some (.inl r22), w21)
    else
      nc_li (w3.1 875 aa 1) fun x23 =>
      if x23 ≠ 8 then
        nc_bV (nc_Call m_X12_next [.inr (.inr (12, aa))] w3) fun w24 =>
        nc_bI (nc_Call m_X12_fresh [.inr (.inr (12, aa)), .inl (26 + x23)] w24) fun r26 w25 =>
        if r26 = 0 then
          some (some (.inl 0), w25)
        else
          nc_bI (nc_Call m_X12_takesName [.inr (.inr (12, aa)), .inl 22, .inl (w25.1 875 aa 0)] w25) fun r28 w27 =>
          if r28 ≠ 0 then
            nc_bd (5 + x23) 76 fun j29 =>
            nc_lt (nc_si w27 875 aa j29 (w27.1 12 aa 18)) fun w30 =>
            nc_bI (nc_Call m_X12_puts [.inr (.inr (12, aa)), .inl (13 + x23), .inl 1, .inl 40] w30) fun r32 w31 =>
            if r32 = 0 then
              some (some (.inl 0), w31)
            else
              nc_bI (nc_Call m_X12_puts [.inr (.inr (12, aa)), .inl (21 + x23), .inl 1, .inl 9] w31) fun r34 w33 =>
              if r34 = 0 then
                some (some (.inl 0), w33)
              else
                nc_bI (nc_Call m_X12_puts [.inr (.inr (12, aa)), .inl (29 + x23), .inl 1, .inl 30] w33) fun r36 w35 =>
                if r36 ≠ 0 then
                  nc_lt (nc_si w35 875 aa 1 ((w35.1 875 aa 1) + 1)) fun w37 =>
                  some (some (.inl 1), w37)
                else
                  some (some (.inl 0), w35)
          else
            some (some (.inl 0), w27)
      else
        nc_bI (nc_Call m_X12_bad [.inr (.inr (12, aa)), .inl 4] w3) fun r39 w38 =>
        nc_z r39 <| some (some (.inl r39), w38)
  else
    if (w1.1 875 aa 0) ≠ 4 then
      nc_bV (nc_Call m_X12_next [.inr (.inr (12, aa))] w1) fun w40 =>
      nc_bI (nc_Call m_X12_fresh [.inr (.inr (12, aa)), .inl (22 + (w40.1 875 aa 0))] w40) fun r42 w41 =>
      if r42 ≠ 0 then
        nc_lt (nc_si w41 875 aa 0 ((w41.1 875 aa 0) + 1)) fun w43 =>
        some (some (.inl 1), w43)
      else
        some (some (.inl 0), w41)
    else
      nc_bI (nc_Call m_X12_bad [.inr (.inr (12, aa)), .inl 4] w1) fun r45 w44 =>
      nc_z r45 <| some (some (.inl r45), w44) :=
  (nc_Call_eq _ _ _).trans ((if_pos (Nat.le_of_ble_eq_true rfl)).trans ((nc_Run_un [] 74).trans rfl))
set_option maxRecDepth 100000 in
theorem qc_X12_dairy (aa : Nat) (w : nc_H) : nc_Call m_X12_dairy [.inr (.inr (12, aa))] w =
  nc_lt (nc_si w 12 aa 0 0) fun w1 =>
  nc_bV (nc_Call m_X12_taken [.inr (.inr (12, aa)), .inl 900] w1) fun w2 =>
  nc_lt (nc_si w2 12 aa 15 0) fun w3 =>
  nc_lt (nc_si w3 12 aa 19 0) fun w4 =>
  nc_lt (nc_si w4 12 aa 20 0) fun w5 =>
  nc_Run m_X12_dairy 29 [some (.inr (.inr (12, aa))), some (.inl 0)] [] w5 :=
  (nc_Call_eq _ _ _).trans ((if_pos (Nat.le_of_ble_eq_true rfl)).trans ((nc_Run_un [29, 59, 104, 141] 18).trans rfl))
set_option maxRecDepth 100000 in
theorem qr_X12_dairy_29 (aa : Nat) (xb : Int32) (w : nc_H) : nc_Run m_X12_dairy 29 [some (.inr (.inr (12, aa))), some (.inl xb)] [] w =
  if (76 : Int32) ≤ xb then
    nc_lt (nc_si w 875 aa 4 3) fun w1 =>
    nc_bV (nc_Call m_X12_next [.inr (.inr (12, aa))] w1) fun w2 =>
    nc_Run m_X12_dairy 59 [some (.inr (.inr (12, aa))), none] [] w2
  else
    nc_bd xb 76 fun j3 =>
    nc_lt (nc_si w 875 aa j3 0) fun w4 =>
    nc_li (xb + 1) fun x5 =>
    nc_Run m_X12_dairy 29 [some (.inr (.inr (12, aa))), some (.inl x5)] [] w4 :=
  (nc_Run_un [29, 59, 104, 141] 11).trans rfl
set_option maxRecDepth 100000 in
theorem qr_X12_dairy_59 (aa : Nat) (w : nc_H) : nc_Run m_X12_dairy 59 [some (.inr (.inr (12, aa))), none] [] w =
  if (w.1 12 aa 11) = 0 then
    nc_Run m_X12_dairy 104 [some (.inr (.inr (12, aa))), some (.inl 0)] [] w
  else
    nc_bI (nc_Call m_X12_line [.inr (.inr (12, aa))] w) fun r2 w1 =>
    if r2 = 0 then
      some (some (.inl ((-1) - (w1.1 12 aa 16))), w1)
    else
      nc_bI (nc_Call m_X12_sign [.inr (.inr (12, aa)), .inl 59] w1) fun r4 w3 =>
      if r4 ≠ 0 then
        nc_lt (nc_si w3 12 aa 19 ((w3.1 12 aa 19) + 1)) fun w5 =>
        nc_Run m_X12_dairy 59 [some (.inr (.inr (12, aa))), none] [] w5
      else
        some (some (.inl ((-1) - (w3.1 12 aa 16))), w3) :=
  (nc_Run_un [29, 59, 104, 141] 18).trans rfl
set_option maxRecDepth 100000 in
theorem qr_X12_dairy_104 (aa : Nat) (xb : Int32) (w : nc_H) : nc_Run m_X12_dairy 104 [some (.inr (.inr (12, aa))), some (.inl xb)] [] w =
  if (513 : Int32) ≤ xb then
    nc_Run m_X12_dairy 141 [some (.inr (.inr (12, aa))), some (.inl 0)] [] w
  else
    if (76 : Int32) ≤ xb then
      nc_bd xb 513 fun j1 =>
      nc_lt (nc_si w 874 aa j1 0) fun w2 =>
      nc_li (xb + 1) fun x3 =>
      nc_Run m_X12_dairy 104 [some (.inr (.inr (12, aa))), some (.inl x3)] [] w2
    else
      nc_bd xb 76 fun j4 =>
      nc_bd xb 513 fun j5 =>
      nc_lt (nc_si w 874 aa j5 (w.1 875 aa j4)) fun w6 =>
      nc_li (xb + 1) fun x7 =>
      nc_Run m_X12_dairy 104 [some (.inr (.inr (12, aa))), some (.inl x7)] [] w6 :=
  (nc_Run_un [29, 59, 104, 141] 18).trans rfl
set_option maxRecDepth 100000 in
theorem qr_X12_dairy_141 (aa : Nat) (xb : Int32) (w : nc_H) : nc_Run m_X12_dairy 141 [some (.inr (.inr (12, aa))), some (.inl xb)] [] w =
  if (22 : Int32) ≤ xb then
    nc_lt (nc_si w 12 aa 24 0) fun w1 =>
    some (some (.inl (w1.1 12 aa 19)), w1)
  else
    nc_bd (22 + xb) 44 fun j2 =>
    nc_bd xb 44 fun j3 =>
    nc_lt (nc_sl w 877 aa j3 (w.2 877 aa j2)) fun w4 =>
    nc_li (xb + 1) fun x5 =>
    nc_Run m_X12_dairy 141 [some (.inr (.inr (12, aa))), some (.inl x5)] [] w4 :=
  (nc_Run_un [29, 59, 104, 141] 16).trans rfl
set_option maxRecDepth 100000 in
theorem qc_X12_isFarm (aa : Nat) (xb : Int32) (w : nc_H) : nc_Call m_X12_isFarm [.inr (.inr (12, aa)), .inl xb] w =
  nc_bI (nc_Call m_X12_isIn [.inl xb, .inl 0, .inl ((w.1 874 aa 0) - 1)] w) fun r2 w1 =>
  nc_z r2 <| some (some (.inl r2), w1) :=
  (nc_Call_eq _ _ _).trans ((if_pos (Nat.le_of_ble_eq_true rfl)).trans ((nc_Run_un [] 10).trans rfl))
set_option maxRecDepth 100000 in
theorem qc_X12_isCow (aa : Nat) (xb : Int32) (w : nc_H) : nc_Call m_X12_isCow [.inr (.inr (12, aa)), .inl xb] w =
  nc_bI (nc_Call m_X12_isIn [.inl xb, .inl 0, .inl ((w.1 874 aa 1) - 1)] w) fun r2 w1 =>
  nc_z r2 <| some (some (.inl r2), w1) :=
  (nc_Call_eq _ _ _).trans ((if_pos (Nat.le_of_ble_eq_true rfl)).trans ((nc_Run_un [] 10).trans rfl))
set_option maxRecDepth 100000 in
theorem qc_X12_isNews (aa : Nat) (xb : Int32) (w : nc_H) : nc_Call m_X12_isNews [.inr (.inr (12, aa)), .inl xb] w =
  nc_bI (nc_Call m_X12_isIn [.inl xb, .inl 0, .inl ((w.1 874 aa 2) - 1)] w) fun r2 w1 =>
  nc_z r2 <| some (some (.inl r2), w1) :=
  (nc_Call_eq _ _ _).trans ((if_pos (Nat.le_of_ble_eq_true rfl)).trans ((nc_Run_un [] 10).trans rfl))
set_option maxRecDepth 100000 in
theorem qc_X12_isDry (aa : Nat) (xb : Int32) (w : nc_H) : nc_Call m_X12_isDry [.inr (.inr (12, aa)), .inl xb] w =
  nc_bI (nc_Call m_X12_bitOf [.inl (w.1 874 aa 77), .inl xb] w) fun r2 w1 =>
  nc_z r2 <| some (some (.inl r2), w1) :=
  (nc_Call_eq _ _ _).trans ((if_pos (Nat.le_of_ble_eq_true rfl)).trans ((nc_Run_un [] 7).trans rfl))
set_option maxRecDepth 100000 in
theorem qc_X12_isLie (aa : Nat) (xb : Int32) (w : nc_H) : nc_Call m_X12_isLie [.inr (.inr (12, aa)), .inl xb] w =
  nc_bI (nc_Call m_X12_bitOf [.inl (w.1 874 aa 57), .inl xb] w) fun r2 w1 =>
  nc_z r2 <| some (some (.inl r2), w1) :=
  (nc_Call_eq _ _ _).trans ((if_pos (Nat.le_of_ble_eq_true rfl)).trans ((nc_Run_un [] 7).trans rfl))
set_option maxRecDepth 100000 in
theorem qc_X12_known (aa : Nat) (xb : Int32) (w : nc_H) : nc_Call m_X12_known [.inr (.inr (12, aa)), .inl xb] w =
  nc_Run m_X12_known 4 [some (.inr (.inr (12, aa))), some (.inl xb), some (.inl 0), some (.inl 0)] [] w :=
  (nc_Call_eq _ _ _).trans ((if_pos (Nat.le_of_ble_eq_true rfl)).trans ((nc_Run_un [4] 5).trans rfl))
set_option maxRecDepth 100000 in
theorem qr_X12_known_4 (aa : Nat) (xb : Int32) (xc : Int32) (xd : Int32) (w : nc_H) : nc_Run m_X12_known 4 [some (.inr (.inr (12, aa))), some (.inl xb), some (.inl xc), some (.inl xd)] [] w =
  if (w.1 874 aa 2) ≤ xd then
    some (some (.inl xc), w)
  else
    nc_bI (nc_Call m_X12_knows [.inr (.inr (12, aa)), .inl xb, .inl xd] w) fun r2 w1 =>
    if r2 = 0 then
      nc_li (xc ||| 0) fun x3 =>
      nc_li (xd + 1) fun x4 =>
      nc_Run m_X12_known 4 [some (.inr (.inr (12, aa))), some (.inl xb), some (.inl x3), some (.inl x4)] [] w1
    else
      nc_li (xc ||| (1 <<< (xd &&& 31))) fun x5 =>
      nc_li (xd + 1) fun x6 =>
      nc_Run m_X12_known 4 [some (.inr (.inr (12, aa))), some (.inl xb), some (.inl x5), some (.inl x6)] [] w1 :=
  (nc_Run_un [4] 21).trans rfl
set_option maxRecDepth 100000 in
theorem qc_X12_hasOther (aa : Nat) (xb : Int32) (xc : Int32) (w : nc_H) : nc_Call m_X12_hasOther [.inr (.inr (12, aa)), .inl xb, .inl xc] w =
  nc_Run m_X12_hasOther 5 [some (.inr (.inr (12, aa))), some (.inl xb), some (.inl xc), some (.inl 0), some (.inl 0)] [] w :=
  (nc_Call_eq _ _ _).trans ((if_pos (Nat.le_of_ble_eq_true rfl)).trans ((nc_Run_un [5] 5).trans rfl))
set_option maxRecDepth 100000 in
theorem qr_X12_hasOther_5 (aa : Nat) (xb : Int32) (xc : Int32) (xd : Int32) (xe : Int32) (w : nc_H) : nc_Run m_X12_hasOther 5 [some (.inr (.inr (12, aa))), some (.inl xb), some (.inl xc), some (.inl xd), some (.inl xe)] [] w =
  if (w.1 874 aa 1) ≤ xe then
    nc_z xd <| some (some (.inl xd), w)
  else
    if xd ≠ 0 then
      nc_li (xe + 1) fun x1 =>
      nc_Run m_X12_hasOther 5 [some (.inr (.inr (12, aa))), some (.inl xb), some (.inl xc), some (.inl 1), some (.inl x1)] [] w
    else
      if xe = xb then
        nc_li (xe + 1) fun x2 =>
        nc_Run m_X12_hasOther 5 [some (.inr (.inr (12, aa))), some (.inl xb), some (.inl xc), some (.inl 0), some (.inl x2)] [] w
      else
        nc_bd (5 + xe) 513 fun j3 =>
        nc_bd (5 + xb) 513 fun j4 =>
        if (w.1 874 aa j3) ≠ (w.1 874 aa j4) then
          nc_li (xe + 1) fun x5 =>
          nc_Run m_X12_hasOther 5 [some (.inr (.inr (12, aa))), some (.inl xb), some (.inl xc), some (.inl 0), some (.inl x5)] [] w
        else
          nc_bd (100 + xe) 513 fun j6 =>
          nc_bI (nc_Call m_X12_bitOf [.inl (w.1 874 aa j6), .inl xc] w) fun r8 w7 =>
          if r8 = 0 then
            nc_li (xe + 1) fun x9 =>
            nc_Run m_X12_hasOther 5 [some (.inr (.inr (12, aa))), some (.inl xb), some (.inl xc), some (.inl 0), some (.inl x9)] [] w7
          else
            nc_li (xe + 1) fun x10 =>
            nc_Run m_X12_hasOther 5 [some (.inr (.inr (12, aa))), some (.inl xb), some (.inl xc), some (.inl 1), some (.inl x10)] [] w7 :=
  (nc_Run_un [5] 39).trans rfl
set_option maxRecDepth 100000 in
theorem qc_X12_milkBy (aa : Nat) (xb : Int32) (xc : Int32) (xd : Int32) (w : nc_H) : nc_Call m_X12_milkBy [.inr (.inr (12, aa)), .inl xb, .inl xc, .inl xd] w =
  nc_bd (13 + xb) 513 fun j1 =>
  nc_li (w.1 874 aa j1) fun x2 =>
  nc_Run m_X12_milkBy 14 [some (.inr (.inr (12, aa))), some (.inl xb), some (.inl xc), some (.inl xd), some (.inl x2), some (.inl 0), none, none] [] w :=
  (nc_Call_eq _ _ _).trans ((if_pos (Nat.le_of_ble_eq_true rfl)).trans ((nc_Run_un [14, 90, 91, 116] 10).trans rfl))
set_option maxRecDepth 100000 in
theorem qr_X12_milkBy_14 (aa : Nat) (xb : Int32) (xc : Int32) (xd : Int32) (xe : Int32) (xf : Int32) (w : nc_H) : nc_Run m_X12_milkBy 14 [some (.inr (.inr (12, aa))), some (.inl xb), some (.inl xc), some (.inl xd), some (.inl xe), some (.inl xf), none, none] [] w =
  if (w.1 874 aa 2) ≤ xf then
    nc_bI (nc_Call m_X12_greater [.inl 0, .inl xe] w) fun r2 w1 =>
    some (some (.inl r2), w1)
  else
    nc_bd (37 + xf) 513 fun j3 =>
    nc_li (w.1 874 aa j3) fun x4 =>
    nc_bI (nc_Call m_X12_bitOf [.inl xc, .inl xf] w) fun r6 w5 =>
    if r6 = 0 then
      if x4 ≠ 3 then
        nc_li (xf + 1) fun x7 =>
        nc_Run m_X12_milkBy 14 [some (.inr (.inr (12, aa))), some (.inl xb), some (.inl xc), some (.inl xd), some (.inl xe), some (.inl x7), none, none] [] w5
      else
        nc_bd (116 + xb) 513 fun j8 =>
        nc_bI (nc_Call m_X12_bitOf [.inl (w5.1 874 aa j8), .inl xf] w5) fun r10 w9 =>
        if r10 = 0 then
          nc_li (xf + 1) fun x11 =>
          nc_Run m_X12_milkBy 14 [some (.inr (.inr (12, aa))), some (.inl xb), some (.inl xc), some (.inl xd), some (.inl xe), some (.inl x11), none, none] [] w9
        else
          nc_bI (nc_Call m_X12_isLie [.inr (.inr (12, aa)), .inl xf] w9) fun r13 w12 =>
          if r13 = 0 then
            nc_bd (47 + xf) 513 fun j14 =>
            nc_li (xe + (w12.1 874 aa j14)) fun x15 =>
            nc_li (xf + 1) fun x16 =>
            nc_Run m_X12_milkBy 14 [some (.inr (.inr (12, aa))), some (.inl xb), some (.inl xc), some (.inl xd), some (.inl x15), some (.inl x16), none, none] [] w12
          else
            nc_bd (47 + xf) 513 fun j17 =>
            nc_li (xe + (-(w12.1 874 aa j17))) fun x18 =>
            nc_li (xf + 1) fun x19 =>
            nc_Run m_X12_milkBy 14 [some (.inr (.inr (12, aa))), some (.inl xb), some (.inl xc), some (.inl xd), some (.inl x18), some (.inl x19), none, none] [] w12
    else
      if (2 : Int32) ≤ x4 then
        if x4 ≠ 3 then
          nc_li (xf + 1) fun x20 =>
          nc_Run m_X12_milkBy 14 [some (.inr (.inr (12, aa))), some (.inl xb), some (.inl xc), some (.inl xd), some (.inl xe), some (.inl x20), none, none] [] w5
        else
          nc_bd (116 + xb) 513 fun j21 =>
          nc_bI (nc_Call m_X12_bitOf [.inl (w5.1 874 aa j21), .inl xf] w5) fun r23 w22 =>
          if r23 = 0 then
            nc_li (xf + 1) fun x24 =>
            nc_Run m_X12_milkBy 14 [some (.inr (.inr (12, aa))), some (.inl xb), some (.inl xc), some (.inl xd), some (.inl xe), some (.inl x24), none, none] [] w22
          else
            nc_bI (nc_Call m_X12_isLie [.inr (.inr (12, aa)), .inl xf] w22) fun r26 w25 =>
            if r26 = 0 then
              nc_bd (47 + xf) 513 fun j27 =>
              nc_li (xe + (w25.1 874 aa j27)) fun x28 =>
              nc_li (xf + 1) fun x29 =>
              nc_Run m_X12_milkBy 14 [some (.inr (.inr (12, aa))), some (.inl xb), some (.inl xc), some (.inl xd), some (.inl x28), some (.inl x29), none, none] [] w25
            else
              nc_bd (47 + xf) 513 fun j30 =>
              nc_li (xe + (-(w25.1 874 aa j30))) fun x31 =>
              nc_li (xf + 1) fun x32 =>
              nc_Run m_X12_milkBy 14 [some (.inr (.inr (12, aa))), some (.inl xb), some (.inl xc), some (.inl xd), some (.inl x31), some (.inl x32), none, none] [] w25
      else
        nc_bd (47 + xf) 513 fun j33 =>
        nc_bI (nc_Call m_X12_isLie [.inr (.inr (12, aa)), .inl xf] w5) fun r35 w34 =>
        if r35 = 0 then
          nc_Run m_X12_milkBy 90 [some (.inr (.inr (12, aa))), some (.inl xb), some (.inl xc), some (.inl xd), some (.inl xe), some (.inl xf), some (.inl x4), none] [.inl (w5.1 874 aa j33)] w34
        else
          nc_bI (nc_Call m_X12_bitOf [.inl (w34.1 874 aa 78), .inl xf] w34) fun r37 w36 =>
          if r37 ≠ 0 then
            nc_Run m_X12_milkBy 90 [some (.inr (.inr (12, aa))), some (.inl xb), some (.inl xc), some (.inl xd), some (.inl xe), some (.inl xf), some (.inl x4), none] [.inl (w5.1 874 aa j33)] w36
          else
            nc_Run m_X12_milkBy 91 [some (.inr (.inr (12, aa))), some (.inl xb), some (.inl xc), some (.inl xd), some (.inl xe), some (.inl xf), some (.inl x4), none] [.inl 5, .inl (w5.1 874 aa j33)] w36 :=
  (nc_Run_un [14, 90, 91, 116] 50).trans rfl
