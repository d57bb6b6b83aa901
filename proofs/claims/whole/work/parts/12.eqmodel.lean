set_option maxRecDepth 100000 in
theorem qc_X12_thrown (aa : Nat) (w : nc_H) : nc_Call m_X12_thrown [.inr (.inr (12, aa))] w =
  some (some (.inl (w.1 12 aa 0)), w) :=
  (nc_Call_eq _ _ _).trans ((if_pos (Nat.le_of_ble_eq_true rfl)).trans ((nc_Run_un [] 3).trans rfl))
set_option maxRecDepth 100000 in
theorem qc_X12_throwsIf (aa : Nat) (xb : Int32) (w : nc_H) : nc_Call m_X12_throwsIf [.inr (.inr (12, aa)), .inl xb] w =
  if xb = 0 then
    nc_lt (nc_si w 12 aa 0 0) fun w1 =>
    nc_z xb <| some (some (.inl xb), w1)
  else
    nc_lt (nc_si w 12 aa 0 1) fun w2 =>
    nc_z xb <| some (some (.inl xb), w2) :=
  (nc_Call_eq _ _ _).trans ((if_pos (Nat.le_of_ble_eq_true rfl)).trans ((nc_Run_un [] 8).trans rfl))
set_option maxRecDepth 100000 in
theorem qc_X12_four (aa : Nat) (xb : Int32) (w : nc_H) : nc_Call m_X12_four [.inr (.inr (12, aa)), .inl xb] w =
  nc_Run m_X12_four 3 [some (.inr (.inr (12, aa))), some (.inl xb), some (.inl 24)] [] w :=
  (nc_Call_eq _ _ _).trans ((if_pos (Nat.le_of_ble_eq_true rfl)).trans ((nc_Run_un [3] 3).trans rfl))
set_option maxRecDepth 100000 in
theorem qr_X12_four_3 (aa : Nat) (xb : Int32) (xc : Int32) (w : nc_H) : nc_Run m_X12_four 3 [some (.inr (.inr (12, aa))), some (.inl xb), some (.inl xc)] [] w =
  if xc < 0 then
    some (none, w)
  else
    nc_bd (w.1 12 aa 2) 940 fun j1 =>
    nc_lt (nc_si w 869 aa j1 (((xb >>> (xc &&& 31)).toInt8.toInt32).toInt8.toInt32)) fun w2 =>
    nc_lt (nc_si w2 12 aa 2 ((w2.1 12 aa 2) + 1)) fun w3 =>
    nc_li (xc + (-8)) fun x4 =>
    nc_Run m_X12_four 3 [some (.inr (.inr (12, aa))), some (.inl xb), some (.inl x4)] [] w3 :=
  (nc_Run_un [3] 20).trans rfl
set_option maxRecDepth 100000 in
theorem qc_X12_end (aa : Nat) (xb : Int32) (w : nc_H) : nc_Call m_X12_end [.inr (.inr (12, aa)), .inl xb] w =
  nc_lt (nc_si w 12 aa 0 0) fun w1 =>
  if xb < 0 then
    some (some (.inl 0), w1)
  else
    if xb ≤ (w1.1 12 aa 2) then
      nc_lt (nc_si w1 12 aa 2 xb) fun w2 =>
      some (some (.inl 1), w2)
    else
      some (some (.inl 0), w1) :=
  (nc_Call_eq _ _ _).trans ((if_pos (Nat.le_of_ble_eq_true rfl)).trans ((nc_Run_un [] 14).trans rfl))
set_option maxRecDepth 100000 in
theorem qc_X12_taken (aa : Nat) (xb : Int32) (w : nc_H) : nc_Call m_X12_taken [.inr (.inr (12, aa)), .inl xb] w =
  nc_lt (nc_si w 12 aa 3 (w.1 12 aa 2)) fun w1 =>
  nc_lt (nc_si w1 12 aa 2 0) fun w2 =>
  nc_lt (nc_si w2 12 aa 4 0) fun w3 =>
  nc_lt (nc_si w3 12 aa 5 xb) fun w4 =>
  some (none, w4) :=
  (nc_Call_eq _ _ _).trans ((if_pos (Nat.le_of_ble_eq_true rfl)).trans ((nc_Run_un [] 14).trans rfl))
set_option maxRecDepth 100000 in
theorem qc_X12_isIn (xa : Int32) (xb : Int32) (xc : Int32) (w : nc_H) : nc_Call m_X12_isIn [.inl xa, .inl xb, .inl xc] w =
  if xa < xb then
    some (some (.inl 0), w)
  else
    if xc < xa then
      some (some (.inl 0), w)
    else
      some (some (.inl 1), w) :=
  (nc_Call_eq _ _ _).trans ((if_pos (Nat.le_of_ble_eq_true rfl)).trans ((nc_Run_un [] 9).trans rfl))
set_option maxRecDepth 100000 in
theorem qc_X12_bitOf (xa : Int32) (xb : Int32) (w : nc_H) : nc_Call m_X12_bitOf [.inl xa, .inl xb] w =
  if ((xa >>> (xb &&& 31)) &&& 1) ≠ 1 then
    some (some (.inl 0), w)
  else
    some (some (.inl 1), w) :=
  (nc_Call_eq _ _ _).trans ((if_pos (Nat.le_of_ble_eq_true rfl)).trans ((nc_Run_un [] 10).trans rfl))
set_option maxRecDepth 100000 in
theorem qc_X12_greater (xa : Int32) (xb : Int32) (w : nc_H) : nc_Call m_X12_greater [.inl xa, .inl xb] w =
  if xa ≤ xb then
    some (some (.inl xb), w)
  else
    some (some (.inl xa), w) :=
  (nc_Call_eq _ _ _).trans ((if_pos (Nat.le_of_ble_eq_true rfl)).trans ((nc_Run_un [] 6).trans rfl))
set_option maxRecDepth 100000 in
theorem qc_X12_absolute (xa : Int32) (w : nc_H) : nc_Call m_X12_absolute [.inl xa] w =
  if (0 : Int32) ≤ xa then
    some (some (.inl xa), w)
  else
    some (some (.inl (-xa)), w) :=
  (nc_Call_eq _ _ _).trans ((if_pos (Nat.le_of_ble_eq_true rfl)).trans ((nc_Run_un [] 6).trans rfl))
set_option maxRecDepth 100000 in
theorem qc_X12_bits (xa : Int32) (w : nc_H) : nc_Call m_X12_bits [.inl xa] w =
  nc_Run m_X12_bits 4 [none, some (.inl 0), some (.inl xa)] [] w :=
  (nc_Call_eq _ _ _).trans ((if_pos (Nat.le_of_ble_eq_true rfl)).trans ((nc_Run_un [4] 5).trans rfl))
set_option maxRecDepth 100000 in
theorem qr_X12_bits_4 (xb : Int32) (xc : Int32) (w : nc_H) : nc_Run m_X12_bits 4 [none, some (.inl xb), some (.inl xc)] [] w =
  if xc = 0 then
    some (some (.inl xb), w)
  else
    nc_li (xb + 1) fun x1 =>
    nc_li (xc &&& (xc - 1)) fun x2 =>
    nc_Run m_X12_bits 4 [none, some (.inl x1), some (.inl x2)] [] w :=
  (nc_Run_un [4] 11).trans rfl
set_option maxRecDepth 100000 in
theorem qc_X12_octet (aa : Nat) (xb : Int32) (w : nc_H) : nc_Call m_X12_octet [.inr (.inr (12, aa)), .inl xb] w =
  nc_bd xb 940 fun j1 =>
  some (some (.inl ((w.1 869 aa j1) &&& 255)), w) :=
  (nc_Call_eq _ _ _).trans ((if_pos (Nat.le_of_ble_eq_true rfl)).trans ((nc_Run_un [] 7).trans rfl))
set_option maxRecDepth 100000 in
theorem qc_X12_peek (aa : Nat) (w : nc_H) : nc_Call m_X12_peek [.inr (.inr (12, aa))] w =
  if (w.1 12 aa 3) ≤ (w.1 12 aa 4) then
    some (some (.inl (-1)), w)
  else
    nc_bd (w.1 12 aa 4) 940 fun j1 =>
    some (some (.inl ((w.1 869 aa j1) &&& 255)), w) :=
  (nc_Call_eq _ _ _).trans ((if_pos (Nat.le_of_ble_eq_true rfl)).trans ((nc_Run_un [] 14).trans rfl))
set_option maxRecDepth 100000 in
theorem qc_X12_isSmall (xa : Int32) (w : nc_H) : nc_Call m_X12_isSmall [.inl xa] w =
  if xa < 97 then
    some (some (.inl 0), w)
  else
    if (122 : Int32) < xa then
      some (some (.inl 0), w)
    else
      some (some (.inl 1), w) :=
  (nc_Call_eq _ _ _).trans ((if_pos (Nat.le_of_ble_eq_true rfl)).trans ((nc_Run_un [] 9).trans rfl))
set_option maxRecDepth 100000 in
theorem qc_X12_isDigit (xa : Int32) (w : nc_H) : nc_Call m_X12_isDigit [.inl xa] w =
  if xa < 48 then
    some (some (.inl 0), w)
  else
    if (57 : Int32) < xa then
      some (some (.inl 0), w)
    else
      some (some (.inl 1), w) :=
  (nc_Call_eq _ _ _).trans ((if_pos (Nat.le_of_ble_eq_true rfl)).trans ((nc_Run_un [] 9).trans rfl))
set_option maxRecDepth 100000 in
theorem qc_X12_bad (aa : Nat) (xb : Int32) (w : nc_H) : nc_Call m_X12_bad [.inr (.inr (12, aa)), .inl xb] w =
  nc_lt (nc_si w 12 aa 15 xb) fun w1 =>
  nc_lt (nc_si w1 12 aa 16 (w1.1 12 aa 12)) fun w2 =>
  some (some (.inl 0), w2) :=
  (nc_Call_eq _ _ _).trans ((if_pos (Nat.le_of_ble_eq_true rfl)).trans ((nc_Run_un [] 9).trans rfl))
set_option maxRecDepth 100000 in
theorem qc_X12_isWord (aa : Nat) (yb : Int64) (w : nc_H) : nc_Call m_X12_isWord [.inr (.inr (12, aa)), .inr (.inl yb)] w =
  if (w.1 12 aa 11) ≠ 1 then
    some (some (.inl 0), w)
  else
    if (lg_cmp (w.2 12 aa 17) yb) ≠ 0 then
      some (some (.inl 0), w)
    else
      some (some (.inl 1), w) :=
  (nc_Call_eq _ _ _).trans ((if_pos (Nat.le_of_ble_eq_true rfl)).trans ((nc_Run_un [] 12).trans rfl))
set_option maxRecDepth 100000 in
theorem qc_X12_isSign (aa : Nat) (xb : Int32) (w : nc_H) : nc_Call m_X12_isSign [.inr (.inr (12, aa)), .inl xb] w =
  if (w.1 12 aa 11) ≠ 3 then
    some (some (.inl 0), w)
  else
    if (w.1 12 aa 14) ≠ xb then
      some (some (.inl 0), w)
    else
      some (some (.inl 1), w) :=
  (nc_Call_eq _ _ _).trans ((if_pos (Nat.le_of_ble_eq_true rfl)).trans ((nc_Run_un [] 11).trans rfl))
set_option maxRecDepth 100000 in
theorem qc_X12_isName (aa : Nat) (w : nc_H) : nc_Call m_X12_isName [.inr (.inr (12, aa))] w =
  if (w.1 12 aa 11) ≠ 1 then
    nc_Run m_X12_isName 16 [some (.inr (.inr (12, aa))), some (.inl 0), some (.inl 0)] [] w
  else
    nc_Run m_X12_isName 16 [some (.inr (.inr (12, aa))), some (.inl 1), some (.inl 0)] [] w :=
  (nc_Call_eq _ _ _).trans ((if_pos (Nat.le_of_ble_eq_true rfl)).trans ((nc_Run_un [16] 10).trans rfl))
set_option maxRecDepth 100000 in
theorem qr_X12_isName_16 (aa : Nat) (xb : Int32) (xc : Int32) (w : nc_H) : nc_Run m_X12_isName 16 [some (.inr (.inr (12, aa))), some (.inl xb), some (.inl xc)] [] w =
  if (24 : Int32) ≤ xc then
    nc_z xb <| some (some (.inl xb), w)
  else
    if xb = 0 then
      nc_li (xc + 1) fun x1 =>
      nc_Run m_X12_isName 16 [some (.inr (.inr (12, aa))), some (.inl 0), some (.inl x1)] [] w
    else
      nc_bd xc 24 fun j2 =>
      if (lg_cmp (w.2 12 aa 17) (w.2 878 aa j2)) = 0 then
        nc_li (xc + 1) fun x3 =>
        nc_Run m_X12_isName 16 [some (.inr (.inr (12, aa))), some (.inl 0), some (.inl x3)] [] w
      else
        nc_li (xc + 1) fun x4 =>
        nc_Run m_X12_isName 16 [some (.inr (.inr (12, aa))), some (.inl 1), some (.inl x4)] [] w :=
  (nc_Run_un [16] 19).trans rfl
set_option maxRecDepth 100000 in
theorem qc_X12_seek (aa : Nat) (xb : Int32) (xc : Int32) (w : nc_H) : nc_Call m_X12_seek [.inr (.inr (12, aa)), .inl xb, .inl xc] w =
  nc_Run m_X12_seek 2 [some (.inr (.inr (12, aa))), some (.inl xb), some (.inl xc), some (.inl 0)] [] w :=
  (nc_Call_eq _ _ _).trans ((if_pos (Nat.le_of_ble_eq_true rfl)).trans ((nc_Run_un [2] 3).trans rfl))
set_option maxRecDepth 100000 in
theorem qr_X12_seek_2 (aa : Nat) (xb : Int32) (xc : Int32) (xd : Int32) (w : nc_H) : nc_Run m_X12_seek 2 [some (.inr (.inr (12, aa))), some (.inl xb), some (.inl xc), some (.inl xd)] [] w =
  if xc ≤ xd then
    some (some (.inl (-1)), w)
  else
    nc_bd (xb + xd) 44 fun j1 =>
    if (lg_cmp (w.2 877 aa j1) (w.2 12 aa 17)) ≠ 0 then
      nc_li (xd + 1) fun x2 =>
      nc_Run m_X12_seek 2 [some (.inr (.inr (12, aa))), some (.inl xb), some (.inl xc), some (.inl x2)] [] w
    else
      some (some (.inl xd), w) :=
  (nc_Run_un [2] 16).trans rfl
set_option maxRecDepth 100000 in
theorem qc_X12_fault (aa : Nat) (w : nc_H) : nc_Call m_X12_fault [.inr (.inr (12, aa))] w =
  nc_lt (nc_si w 12 aa 0 0) fun w1 =>
  some (some (.inl (w1.1 12 aa 15)), w1) :=
  (nc_Call_eq _ _ _).trans ((if_pos (Nat.le_of_ble_eq_true rfl)).trans ((nc_Run_un [] 6).trans rfl))
set_option maxRecDepth 100000 in
theorem qc_X12_knows (aa : Nat) (xb : Int32) (xc : Int32) (w : nc_H) : nc_Call m_X12_knows [.inr (.inr (12, aa)), .inl xb, .inl xc] w =
  nc_bd ((132 + (10 * xb)) + xc) 513 fun j1 =>
  nc_li (w.1 874 aa j1) fun x2 =>
  if x2 ≤ 0 then
    some (some (.inl 0), w)
  else
    nc_bd 76 513 fun j3 =>
    nc_bd (29 + xb) 513 fun j4 =>
    if (w.1 874 aa j4) < ((w.1 874 aa j3) - (x2 - 1)) then
      some (some (.inl 0), w)
    else
      some (some (.inl 1), w) :=
  (nc_Call_eq _ _ _).trans ((if_pos (Nat.le_of_ble_eq_true rfl)).trans ((nc_Run_un [] 31).trans rfl))
set_option maxRecDepth 100000 in
theorem qc_X12_isCurdled (aa : Nat) (xb : Int32) (w : nc_H) : nc_Call m_X12_isCurdled [.inr (.inr (12, aa)), .inl xb] w =
  nc_bd (124 + xb) 513 fun j1 =>
  if (w.1 874 aa j1) ≤ 0 then
    some (some (.inl 0), w)
  else
    nc_bd 76 513 fun j2 =>
    nc_bd (124 + xb) 513 fun j3 =>
    if (6 : Int32) < ((w.1 874 aa j2) - ((w.1 874 aa j3) - 1)) then
      some (some (.inl 0), w)
    else
      some (some (.inl 1), w) :=
  (nc_Call_eq _ _ _).trans ((if_pos (Nat.le_of_ble_eq_true rfl)).trans ((nc_Run_un [] 25).trans rfl))
set_option maxRecDepth 100000 in
theorem qc_X12_cowsOf (aa : Nat) (xb : Int32) (w : nc_H) : nc_Call m_X12_cowsOf [.inr (.inr (12, aa)), .inl xb] w =
  nc_Run m_X12_cowsOf 4 [some (.inr (.inr (12, aa))), some (.inl xb), some (.inl 0), some (.inl 0)] [] w :=
  (nc_Call_eq _ _ _).trans ((if_pos (Nat.le_of_ble_eq_true rfl)).trans ((nc_Run_un [4] 5).trans rfl))
set_option maxRecDepth 100000 in
theorem qr_X12_cowsOf_4 (aa : Nat) (xb : Int32) (xc : Int32) (xd : Int32) (w : nc_H) : nc_Run m_X12_cowsOf 4 [some (.inr (.inr (12, aa))), some (.inl xb), some (.inl xc), some (.inl xd)] [] w =
  nc_bd 1 513 fun j1 =>
  if (w.1 874 aa j1) ≤ xd then
    some (some (.inl xc), w)
  else
    nc_bd (5 + xd) 513 fun j2 =>
    if (w.1 874 aa j2) ≠ xb then
      nc_li (xc ||| 0) fun x3 =>
      nc_li (xd + 1) fun x4 =>
      nc_Run m_X12_cowsOf 4 [some (.inr (.inr (12, aa))), some (.inl xb), some (.inl x3), some (.inl x4)] [] w
    else
      nc_li (xc ||| (1 <<< (xd &&& 31))) fun x5 =>
      nc_li (xd + 1) fun x6 =>
      nc_Run m_X12_cowsOf 4 [some (.inr (.inr (12, aa))), some (.inl xb), some (.inl x5), some (.inl x6)] [] w :=
  (nc_Run_un [4] 24).trans rfl
set_option maxRecDepth 100000 in
theorem qc_X12_talks (aa : Nat) (xb : Int32) (w : nc_H) : nc_Call m_X12_talks [.inr (.inr (12, aa)), .inl xb] w =
  nc_bd 76 513 fun j1 =>
  nc_bd (70 + xb) 513 fun j2 =>
  if w.1 874 aa j2 = 0 then none else
  if (((w.1 874 aa j1) + 1) - ((w.1 874 aa j1) + 1) / (w.1 874 aa j2) * (w.1 874 aa j2)) ≠ 0 then
    some (some (.inl 0), w)
  else
    some (some (.inl 1), w) :=
  (nc_Call_eq _ _ _).trans ((if_pos (Nat.le_of_ble_eq_true rfl)).trans ((nc_Run_un [] 17).trans rfl))
set_option maxRecDepth 100000 in
theorem qc_X12_allPails (aa : Nat) (w : nc_H) : nc_Call m_X12_allPails [.inr (.inr (12, aa))] w =
  nc_bd 95 513 fun j1 =>
  nc_bd 96 513 fun j2 =>
  nc_bd 97 513 fun j3 =>
  nc_bd 98 513 fun j4 =>
  some (some (.inl ((((w.1 874 aa j1) + (w.1 874 aa j2)) + (w.1 874 aa j3)) + (w.1 874 aa j4))), w) :=
  (nc_Call_eq _ _ _).trans ((if_pos (Nat.le_of_ble_eq_true rfl)).trans ((nc_Run_un [] 20).trans rfl))
set_option maxRecDepth 100000 in
theorem qc_X12_keep (aa : Nat) (w : nc_H) : nc_Call m_X12_keep [.inr (.inr (12, aa))] w =
  if (w.1 12 aa 24) ≠ 8 then
    nc_Run m_X12_keep 48 [some (.inr (.inr (12, aa))), some (.inl 0)] [] w
  else
    nc_Run m_X12_keep 11 [some (.inr (.inr (12, aa))), some (.inl 0)] [] w :=
  (nc_Call_eq _ _ _).trans ((if_pos (Nat.le_of_ble_eq_true rfl)).trans ((nc_Run_un [11, 48] 7).trans rfl))
set_option maxRecDepth 100000 in
theorem qr_X12_keep_48 (aa : Nat) (xb : Int32) (w : nc_H) : nc_Run m_X12_keep 48 [some (.inr (.inr (12, aa))), some (.inl xb)] [] w =
  if (256 : Int32) ≤ xb then
    nc_lt (nc_si w 12 aa 24 ((w.1 12 aa 24) + 1)) fun w1 =>
    some (none, w1)
  else
    nc_bd (76 + xb) 513 fun j2 =>
    nc_bd ((256 * (w.1 12 aa 24)) + xb) 2048 fun j3 =>
    nc_lt (nc_si w 890 aa j3 (w.1 874 aa j2)) fun w4 =>
    nc_li (xb + 1) fun x5 =>
    nc_Run m_X12_keep 48 [some (.inr (.inr (12, aa))), some (.inl x5)] [] w4 :=
  (nc_Run_un [11, 48] 21).trans rfl
set_option maxRecDepth 100000 in
theorem qr_X12_keep_11 (aa : Nat) (xb : Int32) (w : nc_H) : nc_Run m_X12_keep 11 [some (.inr (.inr (12, aa))), some (.inl xb)] [] w =
  if (1792 : Int32) ≤ xb then
    nc_lt (nc_si w 12 aa 24 7) fun w1 =>
    nc_Run m_X12_keep 48 [some (.inr (.inr (12, aa))), some (.inl 0)] [] w1
  else
    nc_bd (xb + 256) 2048 fun j2 =>
    nc_bd xb 2048 fun j3 =>
    nc_lt (nc_si w 890 aa j3 (w.1 890 aa j2)) fun w4 =>
    nc_li (xb + 1) fun x5 =>
    nc_Run m_X12_keep 11 [some (.inr (.inr (12, aa))), some (.inl x5)] [] w4 :=
  (nc_Run_un [11, 48] 16).trans rfl
set_option maxRecDepth 100000 in
theorem qc_X12_undo (aa : Nat) (w : nc_H) : nc_Call m_X12_undo [.inr (.inr (12, aa))] w =
  nc_lt (nc_si w 12 aa 0 0) fun w1 =>
  if (w1.1 12 aa 24) ≠ 0 then
    nc_lt (nc_si w1 12 aa 24 ((w1.1 12 aa 24) - 1)) fun w2 =>
    nc_Run m_X12_undo 26 [some (.inr (.inr (12, aa))), some (.inl 0)] [] w2
  else
    some (some (.inl (-1)), w1) :=
  (nc_Call_eq _ _ _).trans ((if_pos (Nat.le_of_ble_eq_true rfl)).trans ((nc_Run_un [26] 15).trans rfl))
set_option maxRecDepth 100000 in
theorem qr_X12_undo_26 (aa : Nat) (xb : Int32) (w : nc_H) : nc_Run m_X12_undo 26 [some (.inr (.inr (12, aa))), some (.inl xb)] [] w =
  if (256 : Int32) ≤ xb then
    some (some (.inl (w.1 12 aa 24)), w)
  else
    nc_bd ((256 * (w.1 12 aa 24)) + xb) 2048 fun j1 =>
    nc_bd (76 + xb) 513 fun j2 =>
    nc_lt (nc_si w 874 aa j2 (w.1 890 aa j1)) fun w3 =>
    nc_li (xb + 1) fun x4 =>
    nc_Run m_X12_undo 26 [some (.inr (.inr (12, aa))), some (.inl x4)] [] w3 :=
  (nc_Run_un [26] 21).trans rfl
set_option maxRecDepth 100000 in
theorem qc_X12_tries (aa : Nat) (w : nc_H) : nc_Call m_X12_tries [.inr (.inr (12, aa))] w =
  nc_Run m_X12_tries 2 [some (.inr (.inr (12, aa))), some (.inl 0)] [] w :=
  (nc_Call_eq _ _ _).trans ((if_pos (Nat.le_of_ble_eq_true rfl)).trans ((nc_Run_un [2] 3).trans rfl))
set_option maxRecDepth 100000 in
theorem qr_X12_tries_2 (aa : Nat) (xb : Int32) (w : nc_H) : nc_Run m_X12_tries 2 [some (.inr (.inr (12, aa))), some (.inl xb)] [] w =
  if (256 : Int32) ≤ xb then
    some (none, w)
  else
    nc_bd (76 + xb) 513 fun j1 =>
    nc_bd xb 256 fun j2 =>
    nc_lt (nc_si w 891 aa j2 (w.1 874 aa j1)) fun w3 =>
    nc_li (xb + 1) fun x4 =>
    nc_Run m_X12_tries 2 [some (.inr (.inr (12, aa))), some (.inl x4)] [] w3 :=
  (nc_Run_un [2] 16).trans rfl
set_option maxRecDepth 100000 in
theorem qc_X12_back (aa : Nat) (w : nc_H) : nc_Call m_X12_back [.inr (.inr (12, aa))] w =
  nc_Run m_X12_back 2 [some (.inr (.inr (12, aa))), some (.inl 0)] [] w :=
  (nc_Call_eq _ _ _).trans ((if_pos (Nat.le_of_ble_eq_true rfl)).trans ((nc_Run_un [2] 3).trans rfl))
set_option maxRecDepth 100000 in
theorem qr_X12_back_2 (aa : Nat) (xb : Int32) (w : nc_H) : nc_Run m_X12_back 2 [some (.inr (.inr (12, aa))), some (.inl xb)] [] w =
  if (256 : Int32) ≤ xb then
    some (none, w)
  else
    nc_bd xb 256 fun j1 =>
    nc_bd (76 + xb) 513 fun j2 =>
    nc_lt (nc_si w 874 aa j2 (w.1 891 aa j1)) fun w3 =>
    nc_li (xb + 1) fun x4 =>
    nc_Run m_X12_back 2 [some (.inr (.inr (12, aa))), some (.inl x4)] [] w3 :=
  (nc_Run_un [2] 16).trans rfl
set_option maxRecDepth 100000 in
theorem qc_X12_peace (aa : Nat) (w : nc_H) : nc_Call m_X12_peace [.inr (.inr (12, aa))] w =
  nc_Run m_X12_peace 4 [some (.inr (.inr (12, aa))), some (.inl 0), some (.inl 0)] [] w :=
  (nc_Call_eq _ _ _).trans ((if_pos (Nat.le_of_ble_eq_true rfl)).trans ((nc_Run_un [4] 5).trans rfl))
set_option maxRecDepth 100000 in
theorem qr_X12_peace_4 (aa : Nat) (xb : Int32) (xc : Int32) (w : nc_H) : nc_Run m_X12_peace 4 [some (.inr (.inr (12, aa))), some (.inl xb), some (.inl xc)] [] w =
  nc_bd 2 513 fun j1 =>
  if (w.1 874 aa j1) ≤ xc then
    some (some (.inl xb), w)
  else
    nc_bd (37 + xc) 513 fun j2 =>
    if (w.1 874 aa j2) = 2 then
      nc_li (xb ||| 0) fun x3 =>
      nc_li (xc + 1) fun x4 =>
      nc_Run m_X12_peace 4 [some (.inr (.inr (12, aa))), some (.inl x3), some (.inl x4)] [] w
    else
      nc_li (xb ||| (1 <<< (xc &&& 31))) fun x5 =>
      nc_li (xc + 1) fun x6 =>
      nc_Run m_X12_peace 4 [some (.inr (.inr (12, aa))), some (.inl x5), some (.inl x6)] [] w :=
  (nc_Run_un [4] 24).trans rfl
set_option maxRecDepth 100000 in
theorem qc_X12_tellsSet (aa : Nat) (xb : Int32) (w : nc_H) : nc_Call m_X12_tellsSet [.inr (.inr (12, aa)), .inl xb] w =
  nc_lt (nc_si w 12 aa 26 1) fun w1 =>
  nc_lt (nc_si w1 12 aa 25 xb) fun w2 =>
  some (none, w2) :=
  (nc_Call_eq _ _ _).trans ((if_pos (Nat.le_of_ble_eq_true rfl)).trans ((nc_Run_un [] 7).trans rfl))
set_option maxRecDepth 100000 in
theorem qc_X12_told (aa : Nat) (w : nc_H) : nc_Call m_X12_told [.inr (.inr (12, aa))] w =
  nc_lt (nc_si w 12 aa 0 0) fun w1 =>
  if (w1.1 12 aa 26) = 0 then
    some (some (.inl (-1)), w1)
  else
    some (some (.inl (w1.1 12 aa 25)), w1) :=
  (nc_Call_eq _ _ _).trans ((if_pos (Nat.le_of_ble_eq_true rfl)).trans ((nc_Run_un [] 10).trans rfl))
set_option maxRecDepth 100000 in
theorem qc_X12_digit (aa : Nat) (xb : Int32) (xc : Int32) (xd : Int32) (w : nc_H) : nc_Call m_X12_digit [.inr (.inr (12, aa)), .inl xb, .inl xc, .inl xd] w =
  nc_Run m_X12_digit 6 [some (.inr (.inr (12, aa))), none, none, some (.inl xd), some (.inl xb), some (.inl xc)] [] w :=
  (nc_Call_eq _ _ _).trans ((if_pos (Nat.le_of_ble_eq_true rfl)).trans ((nc_Run_un [6] 5).trans rfl))
set_option maxRecDepth 100000 in
theorem qr_X12_digit_6 (aa : Nat) (xd : Int32) (xe : Int32) (xf : Int32) (w : nc_H) : nc_Run m_X12_digit 6 [some (.inr (.inr (12, aa))), none, none, some (.inl xd), some (.inl xe), some (.inl xf)] [] w =
  if (xd - 1) ≤ xf then
    nc_bd 2 513 fun j1 =>
    if (w.1 874 aa j1) + 1 = 0 then none else
    some (some (.inl (xe - xe / ((w.1 874 aa j1) + 1) * ((w.1 874 aa j1) + 1))), w)
  else
    nc_bd 2 513 fun j2 =>
    if (w.1 874 aa j2) + 1 = 0 then none else
    nc_li (xe / ((w.1 874 aa j2) + 1)) fun x3 =>
    nc_li (xf + 1) fun x4 =>
    nc_Run m_X12_digit 6 [some (.inr (.inr (12, aa))), none, none, some (.inl xd), some (.inl x3), some (.inl x4)] [] w :=
  (nc_Run_un [6] 17).trans rfl
set_option maxRecDepth 100000 in
theorem qc_X12_parted (aa : Nat) (w : nc_H) : nc_Call m_X12_parted [.inr (.inr (12, aa))] w =
  nc_lt (nc_si w 12 aa 0 0) fun w1 =>
  if (w1.1 12 aa 30) = 0 then
    some (some (.inl (-1)), w1)
  else
    some (some (.inl (w1.1 12 aa 29)), w1) :=
  (nc_Call_eq _ _ _).trans ((if_pos (Nat.le_of_ble_eq_true rfl)).trans ((nc_Run_un [] 10).trans rfl))
set_option maxRecDepth 100000 in
theorem qc_X12_surely (aa : Nat) (w : nc_H) : nc_Call m_X12_surely [.inr (.inr (12, aa))] w =
  nc_lt (nc_si w 12 aa 0 0) fun w1 =>
  if (w1.1 12 aa 33) = 0 then
    some (some (.inl (-1)), w1)
  else
    some (some (.inl (w1.1 12 aa 31)), w1) :=
  (nc_Call_eq _ _ _).trans ((if_pos (Nat.le_of_ble_eq_true rfl)).trans ((nc_Run_un [] 10).trans rfl))
set_option maxRecDepth 100000 in
theorem qc_X12_ask (aa : Nat) (w : nc_H) : nc_Call m_X12_ask [.inr (.inr (12, aa))] w =
  nc_lt (nc_si w 12 aa 0 0) fun w1 =>
  if (w1.1 12 aa 33) = 0 then
    some (some (.inl (-1)), w1)
  else
    some (some (.inl (w1.1 12 aa 32)), w1) :=
  (nc_Call_eq _ _ _).trans ((if_pos (Nat.le_of_ble_eq_true rfl)).trans ((nc_Run_un [] 10).trans rfl))
set_option maxRecDepth 100000 in
theorem qc_X12_draw (aa : Nat) (xb : Int32) (w : nc_H) : nc_Call m_X12_draw [.inr (.inr (12, aa)), .inl xb] w =
  nc_lt (nc_si w 12 aa 35 (((w.1 12 aa 35) * 1103515245) + 12345)) fun w1 =>
  if xb = 0 then none else
  some (some (.inl ((((w1.1 12 aa 35).toUInt32 >>> ((8 : Int32).toUInt32 &&& Int32.toUInt32 31)).toInt32) - (((w1.1 12 aa 35).toUInt32 >>> ((8 : Int32).toUInt32 &&& Int32.toUInt32 31)).toInt32) / xb * xb)), w1) :=
  (nc_Call_eq _ _ _).trans ((if_pos (Nat.le_of_ble_eq_true rfl)).trans ((nc_Run_un [] 15).trans rfl))
set_option maxRecDepth 100000 in
theorem qc_X12_code (aa : Nat) (xb : Int32) (xc : Int32) (xd : Int32) (w : nc_H) : nc_Call m_X12_code [.inr (.inr (12, aa)), .inl xb, .inl xc, .inl xd] w =
  nc_bd (3 * (w.1 12 aa 40)) 135 fun j1 =>
  nc_lt (nc_si w 876 aa j1 xb) fun w2 =>
  nc_bd ((3 * (w2.1 12 aa 40)) + 1) 135 fun j3 =>
  nc_lt (nc_si w2 876 aa j3 xc) fun w4 =>
  nc_bd ((3 * (w4.1 12 aa 40)) + 2) 135 fun j5 =>
  nc_lt (nc_si w4 876 aa j5 xd) fun w6 =>
  nc_lt (nc_si w6 12 aa 40 ((w6.1 12 aa 40) + 1)) fun w7 =>
  some (none, w7) :=
  (nc_Call_eq _ _ _).trans ((if_pos (Nat.le_of_ble_eq_true rfl)).trans ((nc_Run_un [] 35).trans rfl))
set_option maxRecDepth 100000 in
theorem qc_X12_feed (aa : Nat) (xb : Int32) (xc : Int32) (xd : Int32) (xe : Int32) (xf : Int32) (w : nc_H) : nc_Call m_X12_feed [.inr (.inr (12, aa)), .inl xb, .inl xc, .inl xd, .inl xe, .inl xf] w =
  nc_lt (nc_si w 12 aa 0 0) fun w1 =>
  if ((w1.1 12 aa 2) + 20) ≤ 940 then
    nc_bV (nc_Call m_X12_four [.inr (.inr (12, aa)), .inl xb] w1) fun w2 =>
    nc_bV (nc_Call m_X12_four [.inr (.inr (12, aa)), .inl xc] w2) fun w3 =>
    nc_bV (nc_Call m_X12_four [.inr (.inr (12, aa)), .inl xd] w3) fun w4 =>
    nc_bV (nc_Call m_X12_four [.inr (.inr (12, aa)), .inl xe] w4) fun w5 =>
    nc_bV (nc_Call m_X12_four [.inr (.inr (12, aa)), .inl xf] w5) fun w6 =>
    some (some (.inl (w6.1 12 aa 2)), w6)
  else
    some (some (.inl (-1)), w1) :=
  (nc_Call_eq _ _ _).trans ((if_pos (Nat.le_of_ble_eq_true rfl)).trans ((nc_Run_un [] 27).trans rfl))
set_option maxRecDepth 100000 in
theorem qc_X12_next (aa : Nat) (w : nc_H) : nc_Call m_X12_next [.inr (.inr (12, aa))] w =
  nc_bI (nc_Call m_X12_peek [.inr (.inr (12, aa))] w) fun r2 w1 =>
  if r2 = 32 then
    nc_lt (nc_si w1 12 aa 4 ((w1.1 12 aa 4) + 1)) fun w3 =>
    nc_Run m_X12_next 0 [some (.inr (.inr (12, aa))), none, none, none] [] w3
  else
    nc_bI (nc_Call m_X12_peek [.inr (.inr (12, aa))] w1) fun r5 w4 =>
    if r5 ≠ 10 then
      nc_lt (nc_si w4 12 aa 12 (w4.1 12 aa 4)) fun w6 =>
      nc_lt (nc_si w6 12 aa 13 0) fun w7 =>
      if (w7.1 12 aa 3) ≤ (w7.1 12 aa 5) then
        nc_Run m_X12_next 80 [some (.inr (.inr (12, aa))), none, none, none] [] w7
      else
        if (w7.1 12 aa 4) < (w7.1 12 aa 5) then
          nc_Run m_X12_next 80 [some (.inr (.inr (12, aa))), none, none, none] [] w7
        else
          nc_lt (nc_si w7 12 aa 12 (w7.1 12 aa 5)) fun w8 =>
          nc_lt (nc_si w8 12 aa 11 4) fun w9 =>
          some (none, w9)
    else
      nc_lt (nc_si w4 12 aa 4 ((w4.1 12 aa 4) + 1)) fun w10 =>
      nc_Run m_X12_next 0 [some (.inr (.inr (12, aa))), none, none, none] [] w10 :=
  (nc_Call_eq _ _ _).trans ((if_pos (Nat.le_of_ble_eq_true rfl)).trans ((nc_Run_un [0, 80, 181, 201, 220] 33).trans rfl))
set_option maxRecDepth 100000 in
theorem qr_X12_next_0 (aa : Nat) (w : nc_H) : nc_Run m_X12_next 0 [some (.inr (.inr (12, aa))), none, none, none] [] w =
  nc_bI (nc_Call m_X12_peek [.inr (.inr (12, aa))] w) fun r2 w1 =>
  if r2 = 32 then
    nc_lt (nc_si w1 12 aa 4 ((w1.1 12 aa 4) + 1)) fun w3 =>
    nc_Run m_X12_next 0 [some (.inr (.inr (12, aa))), none, none, none] [] w3
  else
    nc_bI (nc_Call m_X12_peek [.inr (.inr (12, aa))] w1) fun r5 w4 =>
    if r5 ≠ 10 then
      nc_lt (nc_si w4 12 aa 12 (w4.1 12 aa 4)) fun w6 =>
      nc_lt (nc_si w6 12 aa 13 0) fun w7 =>
      if (w7.1 12 aa 3) ≤ (w7.1 12 aa 5) then
        nc_Run m_X12_next 80 [some (.inr (.inr (12, aa))), none, none, none] [] w7
      else
        if (w7.1 12 aa 4) < (w7.1 12 aa 5) then
          nc_Run m_X12_next 80 [some (.inr (.inr (12, aa))), none, none, none] [] w7
        else
          nc_lt (nc_si w7 12 aa 12 (w7.1 12 aa 5)) fun w8 =>
          nc_lt (nc_si w8 12 aa 11 4) fun w9 =>
          some (none, w9)
    else
      nc_lt (nc_si w4 12 aa 4 ((w4.1 12 aa 4) + 1)) fun w10 =>
      nc_Run m_X12_next 0 [some (.inr (.inr (12, aa))), none, none, none] [] w10 :=
  (nc_Run_un [0, 80, 181, 201, 220] 33).trans rfl
set_option maxRecDepth 100000 in
theorem qr_X12_next_80 (aa : Nat) (w : nc_H) : nc_Run m_X12_next 80 [some (.inr (.inr (12, aa))), none, none, none] [] w =
  nc_bI (nc_Call m_X12_peek [.inr (.inr (12, aa))] w) fun r2 w1 =>
  if (0 : Int32) ≤ r2 then
    nc_bI (nc_Call m_X12_isSmall [.inl r2] w1) fun r4 w3 =>
    if r4 ≠ 0 then
      nc_bI (nc_Call m_X12_isSmall [.inl r2] w3) fun r6 w5 =>
      nc_lt (nc_sl w5 12 aa 17 0) fun w7 =>
      nc_lt (nc_si w7 12 aa 14 0) fun w8 =>
      nc_Run m_X12_next 181 [some (.inr (.inr (12, aa))), none, some (.inl r6), some (.inl 1)] [] w8
    else
      nc_bI (nc_Call m_X12_isDigit [.inl r2] w3) fun r10 w9 =>
      if r10 ≠ 0 then
        nc_bI (nc_Call m_X12_isSmall [.inl r2] w9) fun r12 w11 =>
        nc_lt (nc_sl w11 12 aa 17 0) fun w13 =>
        nc_lt (nc_si w13 12 aa 14 0) fun w14 =>
        nc_Run m_X12_next 181 [some (.inr (.inr (12, aa))), none, some (.inl r12), some (.inl 1)] [] w14
      else
        if r2 = 59 then
          nc_lt (nc_si w9 12 aa 11 3) fun w15 =>
          nc_lt (nc_si w15 12 aa 14 r2) fun w16 =>
          nc_lt (nc_si w16 12 aa 4 ((w16.1 12 aa 4) + 1)) fun w17 =>
          some (none, w17)
        else
          if r2 = 40 then
            nc_lt (nc_si w9 12 aa 11 3) fun w18 =>
            nc_lt (nc_si w18 12 aa 14 r2) fun w19 =>
            nc_lt (nc_si w19 12 aa 4 ((w19.1 12 aa 4) + 1)) fun w20 =>
            some (none, w20)
          else
            if r2 = 41 then
              nc_lt (nc_si w9 12 aa 11 3) fun w21 =>
              nc_lt (nc_si w21 12 aa 14 r2) fun w22 =>
              nc_lt (nc_si w22 12 aa 4 ((w22.1 12 aa 4) + 1)) fun w23 =>
              some (none, w23)
            else
              if r2 < 60 then
                nc_lt (nc_si w9 12 aa 11 4) fun w24 =>
                nc_lt (nc_si w24 12 aa 14 r2) fun w25 =>
                nc_lt (nc_si w25 12 aa 4 ((w25.1 12 aa 4) + 1)) fun w26 =>
                some (none, w26)
              else
                if (62 : Int32) < r2 then
                  nc_lt (nc_si w9 12 aa 11 4) fun w27 =>
                  nc_lt (nc_si w27 12 aa 14 r2) fun w28 =>
                  nc_lt (nc_si w28 12 aa 4 ((w28.1 12 aa 4) + 1)) fun w29 =>
                  some (none, w29)
                else
                  nc_lt (nc_si w9 12 aa 11 3) fun w30 =>
                  nc_lt (nc_si w30 12 aa 14 r2) fun w31 =>
                  nc_lt (nc_si w31 12 aa 4 ((w31.1 12 aa 4) + 1)) fun w32 =>
                  some (none, w32)
  else
    nc_lt (nc_si w1 12 aa 11 0) fun w33 =>
    some (none, w33) :=
  (nc_Run_un [0, 80, 181, 201, 220] 40).trans rfl
set_option maxRecDepth 100000 in
theorem qr_X12_next_181 (aa : Nat) (xc : Int32) (xd : Int32) (w : nc_H) : nc_Run m_X12_next 181 [some (.inr (.inr (12, aa))), none, some (.inl xc), some (.inl xd)] [] w =
  nc_bI (nc_Call m_X12_peek [.inr (.inr (12, aa))] w) fun r2 w1 =>
  nc_bI (nc_Call m_X12_isSmall [.inl r2] w1) fun r4 w3 =>
  if r4 ≠ 0 then
    nc_Run m_X12_next 201 [some (.inr (.inr (12, aa))), none, some (.inl xc), some (.inl xd)] [] w3
  else
    nc_bI (nc_Call m_X12_peek [.inr (.inr (12, aa))] w3) fun r6 w5 =>
    nc_bI (nc_Call m_X12_isDigit [.inl r6] w5) fun r8 w7 =>
    if r8 = 0 then
      if xd = 0 then
        nc_lt (nc_si w7 12 aa 11 4) fun w9 =>
        some (none, w9)
      else
        if xc = 0 then
          if (w7.1 12 aa 13) ≤ 3 then
            if xc = 0 then
              nc_lt (nc_si w7 12 aa 11 2) fun w10 =>
              some (none, w10)
            else
              nc_lt (nc_si w7 12 aa 11 1) fun w11 =>
              some (none, w11)
          else
            nc_lt (nc_si w7 12 aa 11 4) fun w12 =>
            some (none, w12)
        else
          if (w7.1 12 aa 13) ≤ 7 then
            if xc = 0 then
              nc_lt (nc_si w7 12 aa 11 2) fun w13 =>
              some (none, w13)
            else
              nc_lt (nc_si w7 12 aa 11 1) fun w14 =>
              some (none, w14)
          else
            nc_lt (nc_si w7 12 aa 11 4) fun w15 =>
            some (none, w15)
    else
      nc_Run m_X12_next 201 [some (.inr (.inr (12, aa))), none, some (.inl xc), some (.inl xd)] [] w7 :=
  (nc_Run_un [0, 80, 181, 201, 220] 24).trans rfl
set_option maxRecDepth 100000 in
theorem qr_X12_next_201 (aa : Nat) (xc : Int32) (xd : Int32) (w : nc_H) : nc_Run m_X12_next 201 [some (.inr (.inr (12, aa))), none, some (.inl xc), some (.inl xd)] [] w =
  if xd = 0 then
    nc_Run m_X12_next 220 [some (.inr (.inr (12, aa))), none, some (.inl xc), none] [] w
  else
    nc_bI (nc_Call m_X12_peek [.inr (.inr (12, aa))] w) fun r2 w1 =>
    nc_bI (nc_Call m_X12_isSmall [.inl r2] w1) fun r4 w3 =>
    if r4 ≠ xc then
      nc_Run m_X12_next 220 [some (.inr (.inr (12, aa))), none, some (.inl xc), none] [] w3
    else
      if (7 : Int32) ≤ (w3.1 12 aa 13) then
        if (3 : Int32) ≤ (w3.1 12 aa 13) then
          nc_lt (nc_si w3 12 aa 13 ((w3.1 12 aa 13) + 1)) fun w5 =>
          nc_lt (nc_si w5 12 aa 4 ((w5.1 12 aa 4) + 1)) fun w6 =>
          nc_Run m_X12_next 181 [some (.inr (.inr (12, aa))), none, some (.inl xc), some (.inl 1)] [] w6
        else
          nc_bI (nc_Call m_X12_peek [.inr (.inr (12, aa))] w3) fun r8 w7 =>
          nc_lt (nc_si w7 12 aa 14 (((10 * (w3.1 12 aa 14)) + r8) - 48)) fun w9 =>
          nc_lt (nc_si w9 12 aa 13 ((w9.1 12 aa 13) + 1)) fun w10 =>
          nc_lt (nc_si w10 12 aa 4 ((w10.1 12 aa 4) + 1)) fun w11 =>
          nc_Run m_X12_next 181 [some (.inr (.inr (12, aa))), none, some (.inl xc), some (.inl 1)] [] w11
      else
        nc_bI (nc_Call m_X12_peek [.inr (.inr (12, aa))] w3) fun r13 w12 =>
        nc_lt (nc_sl w12 12 aa 17 (((w3.2 12 aa 17) <<< ((8 : Int32).toInt64 &&& 63)) ||| r13.toInt64)) fun w14 =>
        if (3 : Int32) ≤ (w14.1 12 aa 13) then
          nc_lt (nc_si w14 12 aa 13 ((w14.1 12 aa 13) + 1)) fun w15 =>
          nc_lt (nc_si w15 12 aa 4 ((w15.1 12 aa 4) + 1)) fun w16 =>
          nc_Run m_X12_next 181 [some (.inr (.inr (12, aa))), none, some (.inl xc), some (.inl 1)] [] w16
        else
          nc_bI (nc_Call m_X12_peek [.inr (.inr (12, aa))] w14) fun r18 w17 =>
          nc_lt (nc_si w17 12 aa 14 (((10 * (w14.1 12 aa 14)) + r18) - 48)) fun w19 =>
          nc_lt (nc_si w19 12 aa 13 ((w19.1 12 aa 13) + 1)) fun w20 =>
          nc_lt (nc_si w20 12 aa 4 ((w20.1 12 aa 4) + 1)) fun w21 =>
          nc_Run m_X12_next 181 [some (.inr (.inr (12, aa))), none, some (.inl xc), some (.inl 1)] [] w21 :=
  (nc_Run_un [0, 80, 181, 201, 220] 53).trans rfl
set_option maxRecDepth 100000 in
theorem qr_X12_next_220 (aa : Nat) (xc : Int32) (w : nc_H) : nc_Run m_X12_next 220 [some (.inr (.inr (12, aa))), none, some (.inl xc), none] [] w =
  if (7 : Int32) ≤ (w.1 12 aa 13) then
    if (3 : Int32) ≤ (w.1 12 aa 13) then
      nc_lt (nc_si w 12 aa 13 ((w.1 12 aa 13) + 1)) fun w1 =>
      nc_lt (nc_si w1 12 aa 4 ((w1.1 12 aa 4) + 1)) fun w2 =>
      nc_Run m_X12_next 181 [some (.inr (.inr (12, aa))), none, some (.inl xc), some (.inl 0)] [] w2
    else
      nc_bI (nc_Call m_X12_peek [.inr (.inr (12, aa))] w) fun r4 w3 =>
      nc_lt (nc_si w3 12 aa 14 (((10 * (w.1 12 aa 14)) + r4) - 48)) fun w5 =>
      nc_lt (nc_si w5 12 aa 13 ((w5.1 12 aa 13) + 1)) fun w6 =>
      nc_lt (nc_si w6 12 aa 4 ((w6.1 12 aa 4) + 1)) fun w7 =>
      nc_Run m_X12_next 181 [some (.inr (.inr (12, aa))), none, some (.inl xc), some (.inl 0)] [] w7
  else
    nc_bI (nc_Call m_X12_peek [.inr (.inr (12, aa))] w) fun r9 w8 =>
    nc_lt (nc_sl w8 12 aa 17 (((w.2 12 aa 17) <<< ((8 : Int32).toInt64 &&& 63)) ||| r9.toInt64)) fun w10 =>
    if (3 : Int32) ≤ (w10.1 12 aa 13) then
      nc_lt (nc_si w10 12 aa 13 ((w10.1 12 aa 13) + 1)) fun w11 =>
      nc_lt (nc_si w11 12 aa 4 ((w11.1 12 aa 4) + 1)) fun w12 =>
      nc_Run m_X12_next 181 [some (.inr (.inr (12, aa))), none, some (.inl xc), some (.inl 0)] [] w12
    else
      nc_bI (nc_Call m_X12_peek [.inr (.inr (12, aa))] w10) fun r14 w13 =>
      nc_lt (nc_si w13 12 aa 14 (((10 * (w10.1 12 aa 14)) + r14) - 48)) fun w15 =>
      nc_lt (nc_si w15 12 aa 13 ((w15.1 12 aa 13) + 1)) fun w16 =>
      nc_lt (nc_si w16 12 aa 4 ((w16.1 12 aa 4) + 1)) fun w17 =>
      nc_Run m_X12_next 181 [some (.inr (.inr (12, aa))), none, some (.inl xc), some (.inl 0)] [] w17 :=
  (nc_Run_un [0, 80, 181, 201, 220] 45).trans rfl
set_option maxRecDepth 100000 in
theorem qc_X12_sign (aa : Nat) (xb : Int32) (w : nc_H) : nc_Call m_X12_sign [.inr (.inr (12, aa)), .inl xb] w =
  nc_bI (nc_Call m_X12_isSign [.inr (.inr (12, aa)), .inl xb] w) fun r2 w1 =>
  if r2 ≠ 0 then
    nc_bV (nc_Call m_X12_next [.inr (.inr (12, aa))] w1) fun w3 =>
    some (some (.inl 1), w3)
  else
    nc_bI (nc_Call m_X12_bad [.inr (.inr (12, aa)), .inl 1] w1) fun r5 w4 =>
    nc_z r5 <| some (some (.inl r5), w4) :=
  (nc_Call_eq _ _ _).trans ((if_pos (Nat.le_of_ble_eq_true rfl)).trans ((nc_Run_un [] 8).trans rfl))
set_option maxRecDepth 100000 in
theorem qc_X12_takes (aa : Nat) (xb : Int32) (xc : Int32) (w : nc_H) : nc_Call m_X12_takes [.inr (.inr (12, aa)), .inl xb, .inl xc] w =
  if (w.1 12 aa 11) = 2 then
    nc_bI (nc_Call m_X12_isIn [.inl (w.1 12 aa 14), .inl xb, .inl xc] w) fun r2 w1 =>
    if r2 ≠ 0 then
      nc_lt (nc_si w1 12 aa 18 (w1.1 12 aa 14)) fun w3 =>
      nc_bV (nc_Call m_X12_next [.inr (.inr (12, aa))] w3) fun w4 =>
      some (some (.inl 1), w4)
    else
      nc_bI (nc_Call m_X12_bad [.inr (.inr (12, aa)), .inl 2] w1) fun r6 w5 =>
      nc_z r6 <| some (some (.inl r6), w5)
  else
    nc_bI (nc_Call m_X12_bad [.inr (.inr (12, aa)), .inl 1] w) fun r8 w7 =>
    nc_z r8 <| some (some (.inl r8), w7) :=
  (nc_Call_eq _ _ _).trans ((if_pos (Nat.le_of_ble_eq_true rfl)).trans ((nc_Run_un [] 18).trans rfl))
set_option maxRecDepth 100000 in
theorem qc_X12_puts (aa : Nat) (xb : Int32) (xc : Int32) (xd : Int32) (w : nc_H) : nc_Call m_X12_puts [.inr (.inr (12, aa)), .inl xb, .inl xc, .inl xd] w =
  nc_bI (nc_Call m_X12_takes [.inr (.inr (12, aa)), .inl xc, .inl xd] w) fun r2 w1 =>
  if r2 ≠ 0 then
    nc_bd xb 76 fun j3 =>
    nc_lt (nc_si w1 875 aa j3 (w1.1 12 aa 18)) fun w4 =>
    some (some (.inl 1), w4)
  else
    some (some (.inl 0), w1) :=
  (nc_Call_eq _ _ _).trans ((if_pos (Nat.le_of_ble_eq_true rfl)).trans ((nc_Run_un [] 13).trans rfl))
set_option maxRecDepth 100000 in
theorem qc_X12_fresh (aa : Nat) (xb : Int32) (w : nc_H) : nc_Call m_X12_fresh [.inr (.inr (12, aa)), .inl xb] w =
  nc_bI (nc_Call m_X12_isName [.inr (.inr (12, aa))] w) fun r2 w1 =>
  if r2 ≠ 0 then
    nc_bd 0 76 fun j3 =>
    nc_bI (nc_Call m_X12_seek [.inr (.inr (12, aa)), .inl 22, .inl (w1.1 875 aa j3)] w1) fun r5 w4 =>
    if (0 : Int32) ≤ r5 then
      nc_bI (nc_Call m_X12_bad [.inr (.inr (12, aa)), .inl 3] w4) fun r7 w6 =>
      nc_z r7 <| some (some (.inl r7), w6)
    else
      nc_bd 1 76 fun j8 =>
      nc_bI (nc_Call m_X12_seek [.inr (.inr (12, aa)), .inl 26, .inl (w4.1 875 aa j8)] w4) fun r10 w9 =>
      if (0 : Int32) ≤ r10 then
        nc_bI (nc_Call m_X12_bad [.inr (.inr (12, aa)), .inl 3] w9) fun r12 w11 =>
        nc_z r12 <| some (some (.inl r12), w11)
      else
        nc_bd 2 76 fun j13 =>
        nc_bI (nc_Call m_X12_seek [.inr (.inr (12, aa)), .inl 34, .inl (w9.1 875 aa j13)] w9) fun r15 w14 =>
        if r15 < 0 then
          nc_bd xb 44 fun j16 =>
          nc_lt (nc_sl w14 877 aa j16 (w14.2 12 aa 17)) fun w17 =>
          nc_bV (nc_Call m_X12_next [.inr (.inr (12, aa))] w17) fun w18 =>
          some (some (.inl 1), w18)
        else
          nc_bI (nc_Call m_X12_bad [.inr (.inr (12, aa)), .inl 3] w14) fun r20 w19 =>
          nc_z r20 <| some (some (.inl r20), w19)
  else
    nc_bI (nc_Call m_X12_bad [.inr (.inr (12, aa)), .inl 1] w1) fun r22 w21 =>
    nc_z r22 <| some (some (.inl r22), w21) :=
  (nc_Call_eq _ _ _).trans ((if_pos (Nat.le_of_ble_eq_true rfl)).trans ((nc_Run_un [] 37).trans rfl))
set_option maxRecDepth 100000 in
theorem qc_X12_looksAt (aa : Nat) (xb : Int32) (xc : Int32) (w : nc_H) : nc_Call m_X12_looksAt [.inr (.inr (12, aa)), .inl xb, .inl xc] w =
  nc_bI (nc_Call m_X12_isName [.inr (.inr (12, aa))] w) fun r2 w1 =>
  if r2 ≠ 0 then
    nc_bI (nc_Call m_X12_seek [.inr (.inr (12, aa)), .inl xb, .inl xc] w1) fun r4 w3 =>
    nc_lt (nc_si w3 12 aa 18 r4) fun w5 =>
    if (0 : Int32) ≤ (w5.1 12 aa 18) then
      some (some (.inl 1), w5)
    else
      nc_bI (nc_Call m_X12_bad [.inr (.inr (12, aa)), .inl 3] w5) fun r7 w6 =>
      if r7 = 0 then
        some (some (.inl 0), w6)
      else
        some (some (.inl 1), w6)
  else
    nc_bI (nc_Call m_X12_bad [.inr (.inr (12, aa)), .inl 1] w1) fun r9 w8 =>
    nc_z r9 <| some (some (.inl r9), w8) :=
  (nc_Call_eq _ _ _).trans ((if_pos (Nat.le_of_ble_eq_true rfl)).trans ((nc_Run_un [] 19).trans rfl))
set_option maxRecDepth 100000 in
theorem qc_X12_takesName (aa : Nat) (xb : Int32) (xc : Int32) (w : nc_H) : nc_Call m_X12_takesName [.inr (.inr (12, aa)), .inl xb, .inl xc] w =
  nc_bI (nc_Call m_X12_looksAt [.inr (.inr (12, aa)), .inl xb, .inl xc] w) fun r2 w1 =>
  if r2 ≠ 0 then
    nc_bV (nc_Call m_X12_next [.inr (.inr (12, aa))] w1) fun w3 =>
    some (some (.inl 1), w3)
  else
    some (some (.inl 0), w1) :=
  (nc_Call_eq _ _ _).trans ((if_pos (Nat.le_of_ble_eq_true rfl)).trans ((nc_Run_un [] 9).trans rfl))
set_option maxRecDepth 100000 in
theorem qc_X12_kindOf (aa : Nat) (w : nc_H) : nc_Call m_X12_kindOf [.inr (.inr (12, aa))] w =
  nc_bI (nc_Call m_X12_isWord [.inr (.inr (12, aa)), .inr (.inl 482854660462)] w) fun r2 w1 =>
  if r2 = 0 then
    nc_bI (nc_Call m_X12_isWord [.inr (.inr (12, aa)), .inr (.inl 32478892436775276)] w1) fun r4 w3 =>
    if r4 = 0 then
      nc_bI (nc_Call m_X12_isWord [.inr (.inr (12, aa)), .inr (.inl 7823730)] w3) fun r6 w5 =>
      if r6 = 0 then
        nc_bI (nc_Call m_X12_isWord [.inr (.inr (12, aa)), .inr (.inl 33606991467799922)] w5) fun r8 w7 =>
        if r8 = 0 then
          some (some (.inl (-1)), w7)
        else
          some (some (.inl 3), w7)
      else
        some (some (.inl 2), w5)
    else
      some (some (.inl 1), w3)
  else
    some (some (.inl 0), w1) :=
  (nc_Call_eq _ _ _).trans ((if_pos (Nat.le_of_ble_eq_true rfl)).trans ((nc_Run_un [] 19).trans rfl))
set_option maxRecDepth 100000 in
theorem qc_X12_readNews (aa : Nat) (w : nc_H) : nc_Call m_X12_readNews [.inr (.inr (12, aa))] w =
  nc_bd 2 76 fun j1 =>
  nc_li (w.1 875 aa j1) fun x2 =>
  if x2 ≠ 10 then
    nc_bV (nc_Call m_X12_next [.inr (.inr (12, aa))] w) fun w3 =>
    nc_bI (nc_Call m_X12_fresh [.inr (.inr (12, aa)), .inl (34 + x2)] w3) fun r5 w4 =>
    if r5 ≠ 0 then
      nc_bI (nc_Call m_X12_kindOf [.inr (.inr (12, aa))] w4) fun r7 w6 =>
      nc_bd (37 + x2) 76 fun j8 =>
      nc_lt (nc_si w6 875 aa j8 r7) fun w9 =>
      nc_bd (37 + x2) 76 fun j10 =>
      if (0 : Int32) ≤ (w9.1 875 aa j10) then
        nc_bV (nc_Call m_X12_next [.inr (.inr (12, aa))] w9) fun w11 =>
        nc_bI (nc_Call m_X12_puts [.inr (.inr (12, aa)), .inl (47 + x2), .inl 0, .inl 20] w11) fun r13 w12 =>
        if r13 ≠ 0 then
          nc_bI (nc_Call m_X12_isWord [.inr (.inr (12, aa)), .inr (.inl 7104869)] w12) fun r15 w14 =>
          if r15 = 0 then
            nc_bd 2 76 fun j16 =>
            nc_bd 2 76 fun j17 =>
            nc_lt (nc_si w14 875 aa j17 ((w14.1 875 aa j16) + 1)) fun w18 =>
            some (some (.inl 1), w18)
          else
            nc_bd 57 76 fun j19 =>
            nc_bd 57 76 fun j20 =>
            nc_lt (nc_si w14 875 aa j20 ((w14.1 875 aa j19) ||| (1 <<< (x2 &&& 31)))) fun w21 =>
            nc_bV (nc_Call m_X12_next [.inr (.inr (12, aa))] w21) fun w22 =>
            nc_bd 2 76 fun j23 =>
            nc_bd 2 76 fun j24 =>
            nc_lt (nc_si w22 875 aa j24 ((w22.1 875 aa j23) + 1)) fun w25 =>
            some (some (.inl 1), w25)
        else
          some (some (.inl 0), w12)
      else
        nc_bI (nc_Call m_X12_bad [.inr (.inr (12, aa)), .inl 1] w9) fun r27 w26 =>
        nc_z r27 <| some (some (.inl r27), w26)
    else
      some (some (.inl 0), w4)
  else
    nc_bI (nc_Call m_X12_bad [.inr (.inr (12, aa)), .inl 4] w) fun r29 w28 =>
    nc_z r29 <| some (some (.inl r29), w28) :=
  (nc_Call_eq _ _ _).trans ((if_pos (Nat.le_of_ble_eq_true rfl)).trans ((nc_Run_un [] 67).trans rfl))
set_option maxRecDepth 100000 in
theorem qc_X12_readHedge (aa : Nat) (w : nc_H) : nc_Call m_X12_readHedge [.inr (.inr (12, aa))] w =
  nc_bd 3 76 fun j1 =>
  nc_li (w.1 875 aa j1) fun x2 =>
  nc_bV (nc_Call m_X12_next [.inr (.inr (12, aa))] w) fun w3 =>
  nc_bd 0 76 fun j4 =>
  nc_bI (nc_Call m_X12_takesName [.inr (.inr (12, aa)), .inl 22, .inl (w3.1 875 aa j4)] w3) fun r6 w5 =>
  if r6 ≠ 0 then
    nc_li (w5.1 12 aa 18) fun x7 =>
    nc_bd 0 76 fun j8 =>
    nc_bI (nc_Call m_X12_looksAt [.inr (.inr (12, aa)), .inl 22, .inl (w5.1 875 aa j8)] w5) fun r10 w9 =>
    if r10 ≠ 0 then
      if (w9.1 12 aa 18) = x7 then
        nc_Run m_X12_readHedge 67 [some (.inr (.inr (12, aa))), some (.inl x2), some (.inl x7), some (.inl 0), some (.inl 0)] [] w9
      else
        nc_Run m_X12_readHedge 67 [some (.inr (.inr (12, aa))), some (.inl x2), some (.inl x7), some (.inl 1), some (.inl 0)] [] w9
    else
      some (some (.inl 0), w9)
  else
    some (some (.inl 0), w5) :=
  (nc_Call_eq _ _ _).trans ((if_pos (Nat.le_of_ble_eq_true rfl)).trans ((nc_Run_un [67] 36).trans rfl))
set_option maxRecDepth 100000 in
theorem qr_X12_readHedge_67 (aa : Nat) (xb : Int32) (xc : Int32) (xd : Int32) (xe : Int32) (w : nc_H) : nc_Run m_X12_readHedge 67 [some (.inr (.inr (12, aa))), some (.inl xb), some (.inl xc), some (.inl xd), some (.inl xe)] [] w =
  if xb ≤ xe then
    if xd ≠ 0 then
      nc_bd (58 + xb) 76 fun j1 =>
      nc_lt (nc_si w 875 aa j1 xc) fun w2 =>
      nc_bd (64 + xb) 76 fun j3 =>
      nc_lt (nc_si w2 875 aa j3 (w2.1 12 aa 18)) fun w4 =>
      nc_bV (nc_Call m_X12_next [.inr (.inr (12, aa))] w4) fun w5 =>
      nc_bI (nc_Call m_X12_puts [.inr (.inr (12, aa)), .inl (70 + xb), .inl 1, .inl 9] w5) fun r7 w6 =>
      if r7 ≠ 0 then
        nc_bd 3 76 fun j8 =>
        nc_bd 3 76 fun j9 =>
        nc_lt (nc_si w6 875 aa j9 ((w6.1 875 aa j8) + 1)) fun w10 =>
        some (some (.inl 1), w10)
      else
        some (some (.inl 0), w6)
    else
      nc_bI (nc_Call m_X12_bad [.inr (.inr (12, aa)), .inl 3] w) fun r12 w11 =>
      nc_z r12 <| some (some (.inl r12), w11)
  else
    if xd = 0 then
      nc_li (xe + 1) fun x13 =>
      nc_Run m_X12_readHedge 67 [some (.inr (.inr (12, aa))), some (.inl xb), some (.inl xc), some (.inl 0), some (.inl x13)] [] w
    else
      nc_bd (58 + xe) 76 fun j14 =>
      if (w.1 875 aa j14) ≠ xc then
        nc_bd (58 + xe) 76 fun j15 =>
        if (w.1 875 aa j15) ≠ (w.1 12 aa 18) then
          nc_li (xe + 1) fun x16 =>
          nc_Run m_X12_readHedge 67 [some (.inr (.inr (12, aa))), some (.inl xb), some (.inl xc), some (.inl 1), some (.inl x16)] [] w
        else
          nc_bd (64 + xe) 76 fun j17 =>
          if (w.1 875 aa j17) = xc then
            nc_li (xe + 1) fun x18 =>
            nc_Run m_X12_readHedge 67 [some (.inr (.inr (12, aa))), some (.inl xb), some (.inl xc), some (.inl 0), some (.inl x18)] [] w
          else
            nc_li (xe + 1) fun x19 =>
            nc_Run m_X12_readHedge 67 [some (.inr (.inr (12, aa))), some (.inl xb), some (.inl xc), some (.inl 1), some (.inl x19)] [] w
      else
        nc_bd (64 + xe) 76 fun j20 =>
        if (w.1 875 aa j20) = (w.1 12 aa 18) then
          nc_li (xe + 1) fun x21 =>
          nc_Run m_X12_readHedge 67 [some (.inr (.inr (12, aa))), some (.inl xb), some (.inl xc), some (.inl 0), some (.inl x21)] [] w
        else
          nc_bd (58 + xe) 76 fun j22 =>
          if (w.1 875 aa j22) ≠ (w.1 12 aa 18) then
            nc_li (xe + 1) fun x23 =>
            nc_Run m_X12_readHedge 67 [some (.inr (.inr (12, aa))), some (.inl xb), some (.inl xc), some (.inl 1), some (.inl x23)] [] w
          else
            nc_bd (64 + xe) 76 fun j24 =>
            if (w.1 875 aa j24) = xc then
              nc_li (xe + 1) fun x25 =>
              nc_Run m_X12_readHedge 67 [some (.inr (.inr (12, aa))), some (.inl xb), some (.inl xc), some (.inl 0), some (.inl x25)] [] w
            else
              nc_li (xe + 1) fun x26 =>
              nc_Run m_X12_readHedge 67 [some (.inr (.inr (12, aa))), some (.inl xb), some (.inl xc), some (.inl 1), some (.inl x26)] [] w :=
  (nc_Run_un [67] 45).trans rfl
set_option maxRecDepth 100000 in
theorem qc_X12_line (aa : Nat) (w : nc_H) : nc_Call m_X12_line [.inr (.inr (12, aa))] w =
  nc_bI (nc_Call m_X12_isWord [.inr (.inr (12, aa)), .inr (.inl 1717662317)] w) fun r2 w1 =>
  if r2 = 0 then
    nc_bI (nc_Call m_X12_isWord [.inr (.inr (12, aa)), .inr (.inl 6516599)] w1) fun r4 w3 =>
    if r4 = 0 then
      nc_bI (nc_Call m_X12_isWord [.inr (.inr (12, aa)), .inr (.inl 1852143475)] w3) fun r6 w5 =>
      if r6 = 0 then
        nc_bI (nc_Call m_X12_isWord [.inr (.inr (12, aa)), .inr (.inl 448377677669)] w5) fun r8 w7 =>
        if r8 = 0 then
          nc_bI (nc_Call m_X12_isWord [.inr (.inr (12, aa)), .inr (.inl 448377483891)] w7) fun r10 w9 =>
          if r10 ≠ 0 then
            if (w9.1 12 aa 20) = 0 then
              nc_lt (nc_si w9 12 aa 20 1) fun w11 =>
              nc_bV (nc_Call m_X12_next [.inr (.inr (12, aa))] w11) fun w12 =>
              nc_bI (nc_Call m_X12_puts [.inr (.inr (12, aa)), .inl 4, .inl 1, .inl 5] w12) fun r14 w13 =>
              nc_z r14 <| some (some (.inl r14), w13)
            else
              nc_bI (nc_Call m_X12_bad [.inr (.inr (12, aa)), .inl 3] w9) fun r16 w15 =>
              nc_z r16 <| some (some (.inl r16), w15)
          else
            nc_bI (nc_Call m_X12_bad [.inr (.inr (12, aa)), .inl 1] w9) fun r18 w17 =>
            nc_z r18 <| some (some (.inl r18), w17)
        else
          nc_bI (nc_Call m_X12_readHedge [.inr (.inr (12, aa))] w7) fun r20 w19 =>
          nc_z r20 <| some (some (.inl r20), w19)
      else
        nc_bI (nc_Call m_X12_readNews [.inr (.inr (12, aa))] w5) fun r22 w21 =>
        nc_z r22 <| some (some (.inl r22), w21)
    else
      nc_bd 1 76 fun j23 =>
      nc_li (w3.1 875 aa j23) fun x24 =>
      if x24 ≠ 8 then
        nc_bV (nc_Call m_X12_next [.inr (.inr (12, aa))] w3) fun w25 =>
        nc_bI (nc_Call m_X12_fresh [.inr (.inr (12, aa)), .inl (26 + x24)] w25) fun r27 w26 =>
        if r27 = 0 then
          some (some (.inl 0), w26)
        else
          nc_bd 0 76 fun j28 =>
          nc_bI (nc_Call m_X12_takesName [.inr (.inr (12, aa)), .inl 22, .inl (w26.1 875 aa j28)] w26) fun r30 w29 =>
          if r30 ≠ 0 then
            nc_bd (5 + x24) 76 fun j31 =>
            nc_lt (nc_si w29 875 aa j31 (w29.1 12 aa 18)) fun w32 =>
            nc_bI (nc_Call m_X12_puts [.inr (.inr (12, aa)), .inl (13 + x24), .inl 1, .inl 40] w32) fun r34 w33 =>
            if r34 = 0 then
              some (some (.inl 0), w33)
            else
              nc_bI (nc_Call m_X12_puts [.inr (.inr (12, aa)), .inl (21 + x24), .inl 1, .inl 9] w33) fun r36 w35 =>
              if r36 = 0 then
                some (some (.inl 0), w35)
              else
                nc_bI (nc_Call m_X12_puts [.inr (.inr (12, aa)), .inl (29 + x24), .inl 1, .inl 30] w35) fun r38 w37 =>
                if r38 ≠ 0 then
                  nc_bd 1 76 fun j39 =>
                  nc_bd 1 76 fun j40 =>
                  nc_lt (nc_si w37 875 aa j40 ((w37.1 875 aa j39) + 1)) fun w41 =>
                  some (some (.inl 1), w41)
                else
                  some (some (.inl 0), w37)
          else
            some (some (.inl 0), w29)
      else
        nc_bI (nc_Call m_X12_bad [.inr (.inr (12, aa)), .inl 4] w3) fun r43 w42 =>
        nc_z r43 <| some (some (.inl r43), w42)
  else
    nc_bd 0 76 fun j44 =>
    if (w1.1 875 aa j44) ≠ 4 then
      nc_bV (nc_Call m_X12_next [.inr (.inr (12, aa))] w1) fun w45 =>
      nc_bd 0 76 fun j46 =>
      nc_bI (nc_Call m_X12_fresh [.inr (.inr (12, aa)), .inl (22 + (w45.1 875 aa j46))] w45) fun r48 w47 =>
      if r48 ≠ 0 then
        nc_bd 0 76 fun j49 =>
        nc_bd 0 76 fun j50 =>
        nc_lt (nc_si w47 875 aa j50 ((w47.1 875 aa j49) + 1)) fun w51 =>
        some (some (.inl 1), w51)
      else
        some (some (.inl 0), w47)
    else
      nc_bI (nc_Call m_X12_bad [.inr (.inr (12, aa)), .inl 4] w1) fun r53 w52 =>
      nc_z r53 <| some (some (.inl r53), w52) :=
  (nc_Call_eq _ _ _).trans ((if_pos (Nat.le_of_ble_eq_true rfl)).trans ((nc_Run_un [] 74).trans rfl))
set_option maxRecDepth 100000 in
theorem qc_X12_dairy (aa : Nat) (w : nc_H) : nc_Call m_X12_dairy [.inr (.inr (12, aa))] w =
  nc_lt (nc_si w 12 aa 0 0) fun w1 =>
  nc_bV (nc_Call m_X12_taken [.inr (.inr (12, aa)), .inl 900] w1) fun w2 =>
  nc_lt (nc_si w2 12 aa 15 0) fun w3 =>
  nc_lt (nc_si w3 12 aa 19 0) fun w4 =>
  nc_lt (nc_si w4 12 aa 20 0) fun w5 =>
  nc_Run m_X12_dairy 29 [some (.inr (.inr (12, aa))), some (.inl 0)] [] w5 :=
  (nc_Call_eq _ _ _).trans ((if_pos (Nat.le_of_ble_eq_true rfl)).trans ((nc_Run_un [29, 59, 104, 141] 18).trans rfl))
set_option maxRecDepth 100000 in
theorem qr_X12_dairy_29 (aa : Nat) (xb : Int32) (w : nc_H) : nc_Run m_X12_dairy 29 [some (.inr (.inr (12, aa))), some (.inl xb)] [] w =
  if (76 : Int32) ≤ xb then
    nc_bd 4 76 fun j1 =>
    nc_lt (nc_si w 875 aa j1 3) fun w2 =>
    nc_bV (nc_Call m_X12_next [.inr (.inr (12, aa))] w2) fun w3 =>
    nc_Run m_X12_dairy 59 [some (.inr (.inr (12, aa))), none] [] w3
  else
    nc_bd xb 76 fun j4 =>
    nc_lt (nc_si w 875 aa j4 0) fun w5 =>
    nc_li (xb + 1) fun x6 =>
    nc_Run m_X12_dairy 29 [some (.inr (.inr (12, aa))), some (.inl x6)] [] w5 :=
  (nc_Run_un [29, 59, 104, 141] 11).trans rfl
set_option maxRecDepth 100000 in
theorem qr_X12_dairy_59 (aa : Nat) (w : nc_H) : nc_Run m_X12_dairy 59 [some (.inr (.inr (12, aa))), none] [] w =
  if (w.1 12 aa 11) = 0 then
    nc_Run m_X12_dairy 104 [some (.inr (.inr (12, aa))), some (.inl 0)] [] w
  else
    nc_bI (nc_Call m_X12_line [.inr (.inr (12, aa))] w) fun r2 w1 =>
    if r2 = 0 then
      some (some (.inl ((-1) - (w1.1 12 aa 16))), w1)
    else
      nc_bI (nc_Call m_X12_sign [.inr (.inr (12, aa)), .inl 59] w1) fun r4 w3 =>
      if r4 ≠ 0 then
        nc_lt (nc_si w3 12 aa 19 ((w3.1 12 aa 19) + 1)) fun w5 =>
        nc_Run m_X12_dairy 59 [some (.inr (.inr (12, aa))), none] [] w5
      else
        some (some (.inl ((-1) - (w3.1 12 aa 16))), w3) :=
  (nc_Run_un [29, 59, 104, 141] 18).trans rfl
set_option maxRecDepth 100000 in
theorem qr_X12_dairy_104 (aa : Nat) (xb : Int32) (w : nc_H) : nc_Run m_X12_dairy 104 [some (.inr (.inr (12, aa))), some (.inl xb)] [] w =
  if (513 : Int32) ≤ xb then
    nc_Run m_X12_dairy 141 [some (.inr (.inr (12, aa))), some (.inl 0)] [] w
  else
    if (76 : Int32) ≤ xb then
      nc_bd xb 513 fun j1 =>
      nc_lt (nc_si w 874 aa j1 0) fun w2 =>
      nc_li (xb + 1) fun x3 =>
      nc_Run m_X12_dairy 104 [some (.inr (.inr (12, aa))), some (.inl x3)] [] w2
    else
      nc_bd xb 76 fun j4 =>
      nc_bd xb 513 fun j5 =>
      nc_lt (nc_si w 874 aa j5 (w.1 875 aa j4)) fun w6 =>
      nc_li (xb + 1) fun x7 =>
      nc_Run m_X12_dairy 104 [some (.inr (.inr (12, aa))), some (.inl x7)] [] w6 :=
  (nc_Run_un [29, 59, 104, 141] 18).trans rfl
set_option maxRecDepth 100000 in
theorem qr_X12_dairy_141 (aa : Nat) (xb : Int32) (w : nc_H) : nc_Run m_X12_dairy 141 [some (.inr (.inr (12, aa))), some (.inl xb)] [] w =
  if (22 : Int32) ≤ xb then
    nc_lt (nc_si w 12 aa 24 0) fun w1 =>
    some (some (.inl (w1.1 12 aa 19)), w1)
  else
    nc_bd (22 + xb) 44 fun j2 =>
    nc_bd xb 44 fun j3 =>
    nc_lt (nc_sl w 877 aa j3 (w.2 877 aa j2)) fun w4 =>
    nc_li (xb + 1) fun x5 =>
    nc_Run m_X12_dairy 141 [some (.inr (.inr (12, aa))), some (.inl x5)] [] w4 :=
  (nc_Run_un [29, 59, 104, 141] 16).trans rfl
set_option maxRecDepth 100000 in
theorem qc_X12_isFarm (aa : Nat) (xb : Int32) (w : nc_H) : nc_Call m_X12_isFarm [.inr (.inr (12, aa)), .inl xb] w =
  nc_bd 0 513 fun j1 =>
  nc_bI (nc_Call m_X12_isIn [.inl xb, .inl 0, .inl ((w.1 874 aa j1) - 1)] w) fun r3 w2 =>
  nc_z r3 <| some (some (.inl r3), w2) :=
  (nc_Call_eq _ _ _).trans ((if_pos (Nat.le_of_ble_eq_true rfl)).trans ((nc_Run_un [] 10).trans rfl))
set_option maxRecDepth 100000 in
theorem qc_X12_isCow (aa : Nat) (xb : Int32) (w : nc_H) : nc_Call m_X12_isCow [.inr (.inr (12, aa)), .inl xb] w =
  nc_bd 1 513 fun j1 =>
  nc_bI (nc_Call m_X12_isIn [.inl xb, .inl 0, .inl ((w.1 874 aa j1) - 1)] w) fun r3 w2 =>
  nc_z r3 <| some (some (.inl r3), w2) :=
  (nc_Call_eq _ _ _).trans ((if_pos (Nat.le_of_ble_eq_true rfl)).trans ((nc_Run_un [] 10).trans rfl))
set_option maxRecDepth 100000 in
theorem qc_X12_isNews (aa : Nat) (xb : Int32) (w : nc_H) : nc_Call m_X12_isNews [.inr (.inr (12, aa)), .inl xb] w =
  nc_bd 2 513 fun j1 =>
  nc_bI (nc_Call m_X12_isIn [.inl xb, .inl 0, .inl ((w.1 874 aa j1) - 1)] w) fun r3 w2 =>
  nc_z r3 <| some (some (.inl r3), w2) :=
  (nc_Call_eq _ _ _).trans ((if_pos (Nat.le_of_ble_eq_true rfl)).trans ((nc_Run_un [] 10).trans rfl))
set_option maxRecDepth 100000 in
theorem qc_X12_isDry (aa : Nat) (xb : Int32) (w : nc_H) : nc_Call m_X12_isDry [.inr (.inr (12, aa)), .inl xb] w =
  nc_bd 77 513 fun j1 =>
  nc_bI (nc_Call m_X12_bitOf [.inl (w.1 874 aa j1), .inl xb] w) fun r3 w2 =>
  nc_z r3 <| some (some (.inl r3), w2) :=
  (nc_Call_eq _ _ _).trans ((if_pos (Nat.le_of_ble_eq_true rfl)).trans ((nc_Run_un [] 7).trans rfl))
set_option maxRecDepth 100000 in
theorem qc_X12_isLie (aa : Nat) (xb : Int32) (w : nc_H) : nc_Call m_X12_isLie [.inr (.inr (12, aa)), .inl xb] w =
  nc_bd 57 513 fun j1 =>
  nc_bI (nc_Call m_X12_bitOf [.inl (w.1 874 aa j1), .inl xb] w) fun r3 w2 =>
  nc_z r3 <| some (some (.inl r3), w2) :=
  (nc_Call_eq _ _ _).trans ((if_pos (Nat.le_of_ble_eq_true rfl)).trans ((nc_Run_un [] 7).trans rfl))
set_option maxRecDepth 100000 in
theorem qc_X12_known (aa : Nat) (xb : Int32) (w : nc_H) : nc_Call m_X12_known [.inr (.inr (12, aa)), .inl xb] w =
  nc_Run m_X12_known 4 [some (.inr (.inr (12, aa))), some (.inl xb), some (.inl 0), some (.inl 0)] [] w :=
  (nc_Call_eq _ _ _).trans ((if_pos (Nat.le_of_ble_eq_true rfl)).trans ((nc_Run_un [4] 5).trans rfl))
set_option maxRecDepth 100000 in
theorem qr_X12_known_4 (aa : Nat) (xb : Int32) (xc : Int32) (xd : Int32) (w : nc_H) : nc_Run m_X12_known 4 [some (.inr (.inr (12, aa))), some (.inl xb), some (.inl xc), some (.inl xd)] [] w =
  nc_bd 2 513 fun j1 =>
  if (w.1 874 aa j1) ≤ xd then
    some (some (.inl xc), w)
  else
    nc_bI (nc_Call m_X12_knows [.inr (.inr (12, aa)), .inl xb, .inl xd] w) fun r3 w2 =>
    if r3 = 0 then
      nc_li (xc ||| 0) fun x4 =>
      nc_li (xd + 1) fun x5 =>
      nc_Run m_X12_known 4 [some (.inr (.inr (12, aa))), some (.inl xb), some (.inl x4), some (.inl x5)] [] w2
    else
      nc_li (xc ||| (1 <<< (xd &&& 31))) fun x6 =>
      nc_li (xd + 1) fun x7 =>
      nc_Run m_X12_known 4 [some (.inr (.inr (12, aa))), some (.inl xb), some (.inl x6), some (.inl x7)] [] w2 :=
  (nc_Run_un [4] 21).trans rfl
set_option maxRecDepth 100000 in
theorem qc_X12_hasOther (aa : Nat) (xb : Int32) (xc : Int32) (w : nc_H) : nc_Call m_X12_hasOther [.inr (.inr (12, aa)), .inl xb, .inl xc] w =
  nc_Run m_X12_hasOther 5 [some (.inr (.inr (12, aa))), some (.inl xb), some (.inl xc), some (.inl 0), some (.inl 0)] [] w :=
  (nc_Call_eq _ _ _).trans ((if_pos (Nat.le_of_ble_eq_true rfl)).trans ((nc_Run_un [5] 5).trans rfl))
set_option maxRecDepth 100000 in
theorem qr_X12_hasOther_5 (aa : Nat) (xb : Int32) (xc : Int32) (xd : Int32) (xe : Int32) (w : nc_H) : nc_Run m_X12_hasOther 5 [some (.inr (.inr (12, aa))), some (.inl xb), some (.inl xc), some (.inl xd), some (.inl xe)] [] w =
  nc_bd 1 513 fun j1 =>
  if (w.1 874 aa j1) ≤ xe then
    nc_z xd <| some (some (.inl xd), w)
  else
    if xd ≠ 0 then
      nc_li (xe + 1) fun x2 =>
      nc_Run m_X12_hasOther 5 [some (.inr (.inr (12, aa))), some (.inl xb), some (.inl xc), some (.inl 1), some (.inl x2)] [] w
    else
      if xe = xb then
        nc_li (xe + 1) fun x3 =>
        nc_Run m_X12_hasOther 5 [some (.inr (.inr (12, aa))), some (.inl xb), some (.inl xc), some (.inl 0), some (.inl x3)] [] w
      else
        nc_bd (5 + xe) 513 fun j4 =>
        nc_bd (5 + xb) 513 fun j5 =>
        if (w.1 874 aa j4) ≠ (w.1 874 aa j5) then
          nc_li (xe + 1) fun x6 =>
          nc_Run m_X12_hasOther 5 [some (.inr (.inr (12, aa))), some (.inl xb), some (.inl xc), some (.inl 0), some (.inl x6)] [] w
        else
          nc_bd (100 + xe) 513 fun j7 =>
          nc_bI (nc_Call m_X12_bitOf [.inl (w.1 874 aa j7), .inl xc] w) fun r9 w8 =>
          if r9 = 0 then
            nc_li (xe + 1) fun x10 =>
            nc_Run m_X12_hasOther 5 [some (.inr (.inr (12, aa))), some (.inl xb), some (.inl xc), some (.inl 0), some (.inl x10)] [] w8
          else
            nc_li (xe + 1) fun x11 =>
            nc_Run m_X12_hasOther 5 [some (.inr (.inr (12, aa))), some (.inl xb), some (.inl xc), some (.inl 1), some (.inl x11)] [] w8 :=
  (nc_Run_un [5] 39).trans rfl
set_option maxRecDepth 100000 in
theorem qc_X12_milkBy (aa : Nat) (xb : Int32) (xc : Int32) (xd : Int32) (w : nc_H) : nc_Call m_X12_milkBy [.inr (.inr (12, aa)), .inl xb, .inl xc, .inl xd] w =
  nc_bd (13 + xb) 513 fun j1 =>
  nc_li (w.1 874 aa j1) fun x2 =>
  nc_Run m_X12_milkBy 14 [some (.inr (.inr (12, aa))), some (.inl xb), some (.inl xc), some (.inl xd), some (.inl x2), some (.inl 0), none, none] [] w :=
  (nc_Call_eq _ _ _).trans ((if_pos (Nat.le_of_ble_eq_true rfl)).trans ((nc_Run_un [14, 90, 91, 116] 10).trans rfl))
set_option maxRecDepth 100000 in
theorem qr_X12_milkBy_14 (aa : Nat) (xb : Int32) (xc : Int32) (xd : Int32) (xe : Int32) (xf : Int32) (w : nc_H) : nc_Run m_X12_milkBy 14 [some (.inr (.inr (12, aa))), some (.inl xb), some (.inl xc), some (.inl xd), some (.inl xe), some (.inl xf), none, none] [] w =
  nc_bd 2 513 fun j1 =>
  if (w.1 874 aa j1) ≤ xf then
    nc_bI (nc_Call m_X12_greater [.inl 0, .inl xe] w) fun r3 w2 =>
    some (some (.inl r3), w2)
  else
    nc_bd (37 + xf) 513 fun j4 =>
    nc_li (w.1 874 aa j4) fun x5 =>
    nc_bI (nc_Call m_X12_bitOf [.inl xc, .inl xf] w) fun r7 w6 =>
    if r7 = 0 then
      if x5 ≠ 3 then
        nc_li (xf + 1) fun x8 =>
        nc_Run m_X12_milkBy 14 [some (.inr (.inr (12, aa))), some (.inl xb), some (.inl xc), some (.inl xd), some (.inl xe), some (.inl x8), none, none] [] w6
      else
        nc_bd (116 + xb) 513 fun j9 =>
        nc_bI (nc_Call m_X12_bitOf [.inl (w6.1 874 aa j9), .inl xf] w6) fun r11 w10 =>
        if r11 = 0 then
          nc_li (xf + 1) fun x12 =>
          nc_Run m_X12_milkBy 14 [some (.inr (.inr (12, aa))), some (.inl xb), some (.inl xc), some (.inl xd), some (.inl xe), some (.inl x12), none, none] [] w10
        else
          nc_bI (nc_Call m_X12_isLie [.inr (.inr (12, aa)), .inl xf] w10) fun r14 w13 =>
          if r14 = 0 then
            nc_bd (47 + xf) 513 fun j15 =>
            nc_li (xe + (w13.1 874 aa j15)) fun x16 =>
            nc_li (xf + 1) fun x17 =>
            nc_Run m_X12_milkBy 14 [some (.inr (.inr (12, aa))), some (.inl xb), some (.inl xc), some (.inl xd), some (.inl x16), some (.inl x17), none, none] [] w13
          else
            nc_bd (47 + xf) 513 fun j18 =>
            nc_li (xe + (-(w13.1 874 aa j18))) fun x19 =>
            nc_li (xf + 1) fun x20 =>
            nc_Run m_X12_milkBy 14 [some (.inr (.inr (12, aa))), some (.inl xb), some (.inl xc), some (.inl xd), some (.inl x19), some (.inl x20), none, none] [] w13
    else
      if (2 : Int32) ≤ x5 then
        if x5 ≠ 3 then
          nc_li (xf + 1) fun x21 =>
          nc_Run m_X12_milkBy 14 [some (.inr (.inr (12, aa))), some (.inl xb), some (.inl xc), some (.inl xd), some (.inl xe), some (.inl x21), none, none] [] w6
        else
          nc_bd (116 + xb) 513 fun j22 =>
          nc_bI (nc_Call m_X12_bitOf [.inl (w6.1 874 aa j22), .inl xf] w6) fun r24 w23 =>
          if r24 = 0 then
            nc_li (xf + 1) fun x25 =>
            nc_Run m_X12_milkBy 14 [some (.inr (.inr (12, aa))), some (.inl xb), some (.inl xc), some (.inl xd), some (.inl xe), some (.inl x25), none, none] [] w23
          else
            nc_bI (nc_Call m_X12_isLie [.inr (.inr (12, aa)), .inl xf] w23) fun r27 w26 =>
            if r27 = 0 then
              nc_bd (47 + xf) 513 fun j28 =>
              nc_li (xe + (w26.1 874 aa j28)) fun x29 =>
              nc_li (xf + 1) fun x30 =>
              nc_Run m_X12_milkBy 14 [some (.inr (.inr (12, aa))), some (.inl xb), some (.inl xc), some (.inl xd), some (.inl x29), some (.inl x30), none, none] [] w26
            else
              nc_bd (47 + xf) 513 fun j31 =>
              nc_li (xe + (-(w26.1 874 aa j31))) fun x32 =>
              nc_li (xf + 1) fun x33 =>
              nc_Run m_X12_milkBy 14 [some (.inr (.inr (12, aa))), some (.inl xb), some (.inl xc), some (.inl xd), some (.inl x32), some (.inl x33), none, none] [] w26
      else
        nc_bd (47 + xf) 513 fun j34 =>
        nc_bI (nc_Call m_X12_isLie [.inr (.inr (12, aa)), .inl xf] w6) fun r36 w35 =>
        if r36 = 0 then
          nc_Run m_X12_milkBy 90 [some (.inr (.inr (12, aa))), some (.inl xb), some (.inl xc), some (.inl xd), some (.inl xe), some (.inl xf), some (.inl x5), none] [.inl (w6.1 874 aa j34)] w35
        else
          nc_bd 78 513 fun j37 =>
          nc_bI (nc_Call m_X12_bitOf [.inl (w35.1 874 aa j37), .inl xf] w35) fun r39 w38 =>
          if r39 ≠ 0 then
            nc_Run m_X12_milkBy 90 [some (.inr (.inr (12, aa))), some (.inl xb), some (.inl xc), some (.inl xd), some (.inl xe), some (.inl xf), some (.inl x5), none] [.inl (w6.1 874 aa j34)] w38
          else
            nc_Run m_X12_milkBy 91 [some (.inr (.inr (12, aa))), some (.inl xb), some (.inl xc), some (.inl xd), some (.inl xe), some (.inl xf), some (.inl x5), none] [.inl 5, .inl (w6.1 874 aa j34)] w38 :=
  (nc_Run_un [14, 90, 91, 116] 50).trans rfl
set_option maxRecDepth 100000 in
theorem qr_X12_milkBy_90 (aa : Nat) (xb : Int32) (xc : Int32) (xd : Int32) (xe : Int32) (xf : Int32) (xg : Int32) (za : Int32) (w : nc_H) : nc_Run m_X12_milkBy 90 [some (.inr (.inr (12, aa))), some (.inl xb), some (.inl xc), some (.inl xd), some (.inl xe), some (.inl xf), some (.inl xg), none] [.inl za] w =
  nc_Run m_X12_milkBy 91 [some (.inr (.inr (12, aa))), some (.inl xb), some (.inl xc), some (.inl xd), some (.inl xe), some (.inl xf), some (.inl xg), none] [.inl 0, .inl za] w :=
  (nc_Run_un [14, 90, 91, 116] 2).trans rfl
set_option maxRecDepth 100000 in
theorem qr_X12_milkBy_91 (aa : Nat) (xb : Int32) (xc : Int32) (xd : Int32) (xe : Int32) (xf : Int32) (xg : Int32) (za : Int32) (zb : Int32) (w : nc_H) : nc_Run m_X12_milkBy 91 [some (.inr (.inr (12, aa))), some (.inl xb), some (.inl xc), some (.inl xd), some (.inl xe), some (.inl xf), some (.inl xg), none] [.inl za, .inl zb] w =
  nc_li (zb + za) fun x1 =>
  if xg ≠ 1 then
    nc_Run m_X12_milkBy 116 [some (.inr (.inr (12, aa))), some (.inl xb), some (.inl xc), some (.inl xd), some (.inl xe), some (.inl xf), some (.inl xg), some (.inl x1)] [] w
  else
    nc_bI (nc_Call m_X12_hasOther [.inr (.inr (12, aa)), .inl xb, .inl xf] w) fun r3 w2 =>
    if r3 = 0 then
      nc_Run m_X12_milkBy 116 [some (.inr (.inr (12, aa))), some (.inl xb), some (.inl xc), some (.inl xd), some (.inl xe), some (.inl xf), some (.inl xg), some (.inl x1)] [] w2
    else
      nc_li (x1 * 2) fun x4 =>
      nc_Run m_X12_milkBy 116 [some (.inr (.inr (12, aa))), some (.inl xb), some (.inl xc), some (.inl xd), some (.inl xe), some (.inl xf), some (.inl xg), some (.inl x4)] [] w2 :=
  (nc_Run_un [14, 90, 91, 116] 15).trans rfl
set_option maxRecDepth 100000 in
theorem qr_X12_milkBy_116 (aa : Nat) (xb : Int32) (xc : Int32) (xd : Int32) (xe : Int32) (xf : Int32) (xg : Int32) (xh : Int32) (w : nc_H) : nc_Run m_X12_milkBy 116 [some (.inr (.inr (12, aa))), some (.inl xb), some (.inl xc), some (.inl xd), some (.inl xe), some (.inl xf), some (.inl xg), some (.inl xh)] [] w =
  nc_bI (nc_Call m_X12_bitOf [.inl xd, .inl xf] w) fun r2 w1 =>
  if r2 = 0 then
    nc_li (xe + xh) fun x3 =>
    if xg ≠ 3 then
      nc_li (xf + 1) fun x4 =>
      nc_Run m_X12_milkBy 14 [some (.inr (.inr (12, aa))), some (.inl xb), some (.inl xc), some (.inl xd), some (.inl x3), some (.inl x4), none, none] [] w1
    else
      nc_bd (116 + xb) 513 fun j5 =>
      nc_bI (nc_Call m_X12_bitOf [.inl (w1.1 874 aa j5), .inl xf] w1) fun r7 w6 =>
      if r7 = 0 then
        nc_li (xf + 1) fun x8 =>
        nc_Run m_X12_milkBy 14 [some (.inr (.inr (12, aa))), some (.inl xb), some (.inl xc), some (.inl xd), some (.inl x3), some (.inl x8), none, none] [] w6
      else
        nc_bI (nc_Call m_X12_isLie [.inr (.inr (12, aa)), .inl xf] w6) fun r10 w9 =>
        if r10 = 0 then
          nc_bd (47 + xf) 513 fun j11 =>
          nc_li (x3 + (w9.1 874 aa j11)) fun x12 =>
          nc_li (xf + 1) fun x13 =>
          nc_Run m_X12_milkBy 14 [some (.inr (.inr (12, aa))), some (.inl xb), some (.inl xc), some (.inl xd), some (.inl x12), some (.inl x13), none, none] [] w9
        else
          nc_bd (47 + xf) 513 fun j14 =>
          nc_li (x3 + (-(w9.1 874 aa j14))) fun x15 =>
          nc_li (xf + 1) fun x16 =>
          nc_Run m_X12_milkBy 14 [some (.inr (.inr (12, aa))), some (.inl xb), some (.inl xc), some (.inl xd), some (.inl x15), some (.inl x16), none, none] [] w9
  else
    nc_li (xe + (xh / 2)) fun x17 =>
    if xg ≠ 3 then
      nc_li (xf + 1) fun x18 =>
      nc_Run m_X12_milkBy 14 [some (.inr (.inr (12, aa))), some (.inl xb), some (.inl xc), some (.inl xd), some (.inl x17), some (.inl x18), none, none] [] w1
    else
      nc_bd (116 + xb) 513 fun j19 =>
      nc_bI (nc_Call m_X12_bitOf [.inl (w1.1 874 aa j19), .inl xf] w1) fun r21 w20 =>
      if r21 = 0 then
        nc_li (xf + 1) fun x22 =>
        nc_Run m_X12_milkBy 14 [some (.inr (.inr (12, aa))), some (.inl xb), some (.inl xc), some (.inl xd), some (.inl x17), some (.inl x22), none, none] [] w20
      else
        nc_bI (nc_Call m_X12_isLie [.inr (.inr (12, aa)), .inl xf] w20) fun r24 w23 =>
        if r24 = 0 then
          nc_bd (47 + xf) 513 fun j25 =>
          nc_li (x17 + (w23.1 874 aa j25)) fun x26 =>
          nc_li (xf + 1) fun x27 =>
          nc_Run m_X12_milkBy 14 [some (.inr (.inr (12, aa))), some (.inl xb), some (.inl xc), some (.inl xd), some (.inl x26), some (.inl x27), none, none] [] w23
        else
          nc_bd (47 + xf) 513 fun j28 =>
          nc_li (x17 + (-(w23.1 874 aa j28))) fun x29 =>
          nc_li (xf + 1) fun x30 =>
          nc_Run m_X12_milkBy 14 [some (.inr (.inr (12, aa))), some (.inl xb), some (.inl xc), some (.inl xd), some (.inl x29), some (.inl x30), none, none] [] w23 :=
  (nc_Run_un [14, 90, 91, 116] 41).trans rfl
set_option maxRecDepth 100000 in
theorem qc_X12_milkWith (aa : Nat) (xb : Int32) (xc : Int32) (w : nc_H) : nc_Call m_X12_milkWith [.inr (.inr (12, aa)), .inl xb, .inl xc] w =
  nc_bI (nc_Call m_X12_isDry [.inr (.inr (12, aa)), .inl xb] w) fun r2 w1 =>
  if r2 ≠ 0 then
    some (some (.inl 0), w1)
  else
    nc_bI (nc_Call m_X12_isCurdled [.inr (.inr (12, aa)), .inl xb] w1) fun r4 w3 =>
    if r4 = 0 then
      nc_Run m_X12_milkWith 20 [some (.inr (.inr (12, aa))), some (.inl xb), some (.inl xc), some (.inl 0)] [] w3
    else
      some (some (.inl 0), w3) :=
  (nc_Call_eq _ _ _).trans ((if_pos (Nat.le_of_ble_eq_true rfl)).trans ((nc_Run_un [20] 11).trans rfl))
set_option maxRecDepth 100000 in
theorem qr_X12_milkWith_20 (aa : Nat) (xb : Int32) (xc : Int32) (xd : Int32) (w : nc_H) : nc_Run m_X12_milkWith 20 [some (.inr (.inr (12, aa))), some (.inl xb), some (.inl xc), some (.inl xd)] [] w =
  nc_bd 2 513 fun j1 =>
  if (w.1 874 aa j1) ≤ xd then
    nc_bd (100 + xb) 513 fun j2 =>
    nc_bd (108 + xb) 513 fun j3 =>
    nc_bI (nc_Call m_X12_known [.inr (.inr (12, aa)), .inl xb] w) fun r5 w4 =>
    nc_bI (nc_Call m_X12_milkBy [.inr (.inr (12, aa)), .inl xb, .inl ((w.1 874 aa j2) ||| xc), .inl ((w.1 874 aa j3) ||| (xc &&& r5))] w4) fun r7 w6 =>
    some (some (.inl r7), w6)
  else
    nc_bI (nc_Call m_X12_bitOf [.inl xc, .inl xd] w) fun r9 w8 =>
    if r9 = 0 then
      nc_li (xd + 1) fun x10 =>
      nc_Run m_X12_milkWith 20 [some (.inr (.inr (12, aa))), some (.inl xb), some (.inl xc), some (.inl x10)] [] w8
    else
      nc_bd (37 + xd) 513 fun j11 =>
      if (w8.1 874 aa j11) ≠ 2 then
        nc_li (xd + 1) fun x12 =>
        nc_Run m_X12_milkWith 20 [some (.inr (.inr (12, aa))), some (.inl xb), some (.inl xc), some (.inl x12)] [] w8
      else
        some (some (.inl 0), w8) :=
  (nc_Run_un [20] 30).trans rfl
set_option maxRecDepth 100000 in
theorem qc_X12_milk (aa : Nat) (xb : Int32) (w : nc_H) : nc_Call m_X12_milk [.inr (.inr (12, aa)), .inl xb] w =
  nc_bI (nc_Call m_X12_milkWith [.inr (.inr (12, aa)), .inl xb, .inl 0] w) fun r2 w1 =>
  some (some (.inl r2), w1) :=
  (nc_Call_eq _ _ _).trans ((if_pos (Nat.le_of_ble_eq_true rfl)).trans ((nc_Run_un [] 5).trans rfl))
set_option maxRecDepth 100000 in
theorem qc_X12_cow (aa : Nat) (xb : Int32) (xc : Int32) (w : nc_H) : nc_Call m_X12_cow [.inr (.inr (12, aa)), .inl xb, .inl xc] w =
  nc_bI (nc_Call m_X12_isCow [.inr (.inr (12, aa)), .inl xb] w) fun r2 w1 =>
  if r2 = 0 then
    nc_bI (nc_Call m_X12_throwsIf [.inr (.inr (12, aa)), .inl 1] w1) fun r4 w3 =>
    if r4 = 0 then
      if xc = 0 then
        nc_bd (5 + xb) 513 fun j5 =>
        some (some (.inl (w3.1 874 aa j5)), w3)
      else
      if xc = 1 then
        nc_bI (nc_Call m_X12_isDry [.inr (.inr (12, aa)), .inl xb] w3) fun r7 w6 =>
        if r7 = 0 then
          some (some (.inl 0), w6)
        else
          some (some (.inl 1), w6)
      else
      if xc = 2 then
        nc_bI (nc_Call m_X12_isCurdled [.inr (.inr (12, aa)), .inl xb] w3) fun r9 w8 =>
        if r9 = 0 then
          some (some (.inl 0), w8)
        else
          some (some (.inl 1), w8)
      else
      if xc = 3 then
        nc_bd (79 + xb) 513 fun j10 =>
        some (some (.inl (w3.1 874 aa j10)), w3)
      else
      if xc = 4 then
        nc_bd (100 + xb) 513 fun j11 =>
        some (some (.inl (w3.1 874 aa j11)), w3)
      else
      if xc = 5 then
        nc_bI (nc_Call m_X12_known [.inr (.inr (12, aa)), .inl xb] w3) fun r13 w12 =>
        some (some (.inl r13), w12)
      else
      if xc = 6 then
        nc_bI (nc_Call m_X12_milk [.inr (.inr (12, aa)), .inl xb] w3) fun r15 w14 =>
        some (some (.inl r15), w14)
      else
        nc_bd (87 + xb) 513 fun j16 =>
        some (some (.inl (w3.1 874 aa j16)), w3)
    else
      some (some (.inl 0), w3)
  else
    nc_bI (nc_Call m_X12_isIn [.inl xc, .inl 0, .inl 7] w1) fun r18 w17 =>
    if r18 ≠ 0 then
      nc_bI (nc_Call m_X12_throwsIf [.inr (.inr (12, aa)), .inl 0] w17) fun r20 w19 =>
      if r20 = 0 then
        if xc = 0 then
          nc_bd (5 + xb) 513 fun j21 =>
          some (some (.inl (w19.1 874 aa j21)), w19)
        else
        if xc = 1 then
          nc_bI (nc_Call m_X12_isDry [.inr (.inr (12, aa)), .inl xb] w19) fun r23 w22 =>
          if r23 = 0 then
            some (some (.inl 0), w22)
          else
            some (some (.inl 1), w22)
        else
        if xc = 2 then
          nc_bI (nc_Call m_X12_isCurdled [.inr (.inr (12, aa)), .inl xb] w19) fun r25 w24 =>
          if r25 = 0 then
            some (some (.inl 0), w24)
          else
            some (some (.inl 1), w24)
        else
        if xc = 3 then
          nc_bd (79 + xb) 513 fun j26 =>
          some (some (.inl (w19.1 874 aa j26)), w19)
        else
        if xc = 4 then
          nc_bd (100 + xb) 513 fun j27 =>
          some (some (.inl (w19.1 874 aa j27)), w19)
        else
        if xc = 5 then
          nc_bI (nc_Call m_X12_known [.inr (.inr (12, aa)), .inl xb] w19) fun r29 w28 =>
          some (some (.inl r29), w28)
        else
        if xc = 6 then
          nc_bI (nc_Call m_X12_milk [.inr (.inr (12, aa)), .inl xb] w19) fun r31 w30 =>
          some (some (.inl r31), w30)
        else
          nc_bd (87 + xb) 513 fun j32 =>
          some (some (.inl (w19.1 874 aa j32)), w19)
      else
        some (some (.inl 0), w19)
    else
      nc_bI (nc_Call m_X12_throwsIf [.inr (.inr (12, aa)), .inl 1] w17) fun r34 w33 =>
      if r34 = 0 then
        if xc = 0 then
          nc_bd (5 + xb) 513 fun j35 =>
          some (some (.inl (w33.1 874 aa j35)), w33)
        else
        if xc = 1 then
          nc_bI (nc_Call m_X12_isDry [.inr (.inr (12, aa)), .inl xb] w33) fun r37 w36 =>
          if r37 = 0 then
            some (some (.inl 0), w36)
          else
            some (some (.inl 1), w36)
        else
        if xc = 2 then
          nc_bI (nc_Call m_X12_isCurdled [.inr (.inr (12, aa)), .inl xb] w33) fun r39 w38 =>
          if r39 = 0 then
            some (some (.inl 0), w38)
          else
            some (some (.inl 1), w38)
        else
        if xc = 3 then
          nc_bd (79 + xb) 513 fun j40 =>
          some (some (.inl (w33.1 874 aa j40)), w33)
        else
        if xc = 4 then
          nc_bd (100 + xb) 513 fun j41 =>
          some (some (.inl (w33.1 874 aa j41)), w33)
        else
        if xc = 5 then
          nc_bI (nc_Call m_X12_known [.inr (.inr (12, aa)), .inl xb] w33) fun r43 w42 =>
          some (some (.inl r43), w42)
        else
        if xc = 6 then
          nc_bI (nc_Call m_X12_milk [.inr (.inr (12, aa)), .inl xb] w33) fun r45 w44 =>
          some (some (.inl r45), w44)
        else
          nc_bd (87 + xb) 513 fun j46 =>
          some (some (.inl (w33.1 874 aa j46)), w33)
      else
        some (some (.inl 0), w33) :=
  (nc_Call_eq _ _ _).trans ((if_pos (Nat.le_of_ble_eq_true rfl)).trans ((nc_Run_un [] 23).trans rfl))
set_option maxRecDepth 100000 in
theorem qc_X12_news (aa : Nat) (xb : Int32) (xc : Int32) (w : nc_H) : nc_Call m_X12_news [.inr (.inr (12, aa)), .inl xb, .inl xc] w =
  nc_lt (nc_si w 12 aa 0 0) fun w1 =>
  nc_bI (nc_Call m_X12_isNews [.inr (.inr (12, aa)), .inl xb] w1) fun r3 w2 =>
  if r3 ≠ 0 then
    nc_Run m_X12_news 23 [some (.inr (.inr (12, aa))), some (.inl xb), some (.inl xc), some (.inl 0), some (.inl 0), some (.inl 0)] [] w2
  else
    some (some (.inl (-1)), w2) :=
  (nc_Call_eq _ _ _).trans ((if_pos (Nat.le_of_ble_eq_true rfl)).trans ((nc_Run_un [23] 14).trans rfl))
set_option maxRecDepth 100000 in
theorem qr_X12_news_23 (aa : Nat) (xb : Int32) (xc : Int32) (xd : Int32) (xe : Int32) (xf : Int32) (w : nc_H) : nc_Run m_X12_news 23 [some (.inr (.inr (12, aa))), some (.inl xb), some (.inl xc), some (.inl xd), some (.inl xe), some (.inl xf)] [] w =
  nc_bd 1 513 fun j1 =>
  if (w.1 874 aa j1) ≤ xf then
    if xc = 0 then
      nc_bd (37 + xb) 513 fun j2 =>
      some (some (.inl (w.1 874 aa j2)), w)
    else
    if xc = 1 then
      nc_bd (47 + xb) 513 fun j3 =>
      some (some (.inl (w.1 874 aa j3)), w)
    else
    if xc = 2 then
      nc_bI (nc_Call m_X12_isLie [.inr (.inr (12, aa)), .inl xb] w) fun r5 w4 =>
      if r5 = 0 then
        some (some (.inl 0), w4)
      else
        some (some (.inl 1), w4)
    else
    if xc = 3 then
      nc_bd 78 513 fun j6 =>
      nc_bI (nc_Call m_X12_bitOf [.inl (w.1 874 aa j6), .inl xb] w) fun r8 w7 =>
      if r8 = 0 then
        some (some (.inl 0), w7)
      else
        some (some (.inl 1), w7)
    else
    if xc = 4 then
      some (some (.inl xd), w)
    else
    if xc = 5 then
      some (some (.inl xe), w)
    else
      some (some (.inl (-1)), w)
  else
    nc_bd (100 + xf) 513 fun j9 =>
    nc_bI (nc_Call m_X12_bitOf [.inl (w.1 874 aa j9), .inl xb] w) fun r11 w10 =>
    if r11 = 0 then
      nc_li (xd ||| 0) fun x12 =>
      nc_bI (nc_Call m_X12_knows [.inr (.inr (12, aa)), .inl xf, .inl xb] w10) fun r14 w13 =>
      if r14 = 0 then
        nc_li (xe ||| 0) fun x15 =>
        nc_li (xf + 1) fun x16 =>
        nc_Run m_X12_news 23 [some (.inr (.inr (12, aa))), some (.inl xb), some (.inl xc), some (.inl x12), some (.inl x15), some (.inl x16)] [] w13
      else
        nc_li (xe ||| (1 <<< (xf &&& 31))) fun x17 =>
        nc_li (xf + 1) fun x18 =>
        nc_Run m_X12_news 23 [some (.inr (.inr (12, aa))), some (.inl xb), some (.inl xc), some (.inl x12), some (.inl x17), some (.inl x18)] [] w13
    else
      nc_li (xd ||| (1 <<< (xf &&& 31))) fun x19 =>
      nc_bI (nc_Call m_X12_knows [.inr (.inr (12, aa)), .inl xf, .inl xb] w10) fun r21 w20 =>
      if r21 = 0 then
        nc_li (xe ||| 0) fun x22 =>
        nc_li (xf + 1) fun x23 =>
        nc_Run m_X12_news 23 [some (.inr (.inr (12, aa))), some (.inl xb), some (.inl xc), some (.inl x19), some (.inl x22), some (.inl x23)] [] w20
      else
        nc_li (xe ||| (1 <<< (xf &&& 31))) fun x24 =>
        nc_li (xf + 1) fun x25 =>
        nc_Run m_X12_news 23 [some (.inr (.inr (12, aa))), some (.inl xb), some (.inl xc), some (.inl x19), some (.inl x24), some (.inl x25)] [] w20 :=
  (nc_Run_un [23] 37).trans rfl
set_option maxRecDepth 100000 in
theorem qc_X12_milkOf (aa : Nat) (xb : Int32) (w : nc_H) : nc_Call m_X12_milkOf [.inr (.inr (12, aa)), .inl xb] w =
  nc_Run m_X12_milkOf 4 [some (.inr (.inr (12, aa))), some (.inl xb), some (.inl 0), some (.inl 0)] [] w :=
  (nc_Call_eq _ _ _).trans ((if_pos (Nat.le_of_ble_eq_true rfl)).trans ((nc_Run_un [4] 5).trans rfl))
set_option maxRecDepth 100000 in
theorem qr_X12_milkOf_4 (aa : Nat) (xb : Int32) (xc : Int32) (xd : Int32) (w : nc_H) : nc_Run m_X12_milkOf 4 [some (.inr (.inr (12, aa))), some (.inl xb), some (.inl xc), some (.inl xd)] [] w =
  nc_bd 1 513 fun j1 =>
  if (w.1 874 aa j1) ≤ xd then
    some (some (.inl xc), w)
  else
    nc_bd (5 + xd) 513 fun j2 =>
    if (w.1 874 aa j2) ≠ xb then
      nc_li (xc + 0) fun x3 =>
      nc_li (xd + 1) fun x4 =>
      nc_Run m_X12_milkOf 4 [some (.inr (.inr (12, aa))), some (.inl xb), some (.inl x3), some (.inl x4)] [] w
    else
      nc_bI (nc_Call m_X12_milk [.inr (.inr (12, aa)), .inl xd] w) fun r6 w5 =>
      nc_li (xc + r6) fun x7 =>
      nc_li (xd + 1) fun x8 =>
      nc_Run m_X12_milkOf 4 [some (.inr (.inr (12, aa))), some (.inl xb), some (.inl x7), some (.inl x8)] [] w5 :=
  (nc_Run_un [4] 24).trans rfl
set_option maxRecDepth 100000 in
theorem qc_X12_farm (aa : Nat) (xb : Int32) (xc : Int32) (w : nc_H) : nc_Call m_X12_farm [.inr (.inr (12, aa)), .inl xb, .inl xc] w =
  nc_bI (nc_Call m_X12_isFarm [.inr (.inr (12, aa)), .inl xb] w) fun r2 w1 =>
  if r2 = 0 then
    nc_bI (nc_Call m_X12_throwsIf [.inr (.inr (12, aa)), .inl 1] w1) fun r4 w3 =>
    if r4 = 0 then
      nc_Run m_X12_farm 36 [some (.inr (.inr (12, aa))), some (.inl xb), some (.inl xc), some (.inl 0), some (.inl 0)] [] w3
    else
      some (some (.inl 0), w3)
  else
    nc_bI (nc_Call m_X12_isIn [.inl xc, .inl 0, .inl 3] w1) fun r6 w5 =>
    if r6 ≠ 0 then
      nc_bI (nc_Call m_X12_throwsIf [.inr (.inr (12, aa)), .inl 0] w5) fun r8 w7 =>
      if r8 = 0 then
        nc_Run m_X12_farm 36 [some (.inr (.inr (12, aa))), some (.inl xb), some (.inl xc), some (.inl 0), some (.inl 0)] [] w7
      else
        some (some (.inl 0), w7)
    else
      nc_bI (nc_Call m_X12_throwsIf [.inr (.inr (12, aa)), .inl 1] w5) fun r10 w9 =>
      if r10 = 0 then
        nc_Run m_X12_farm 36 [some (.inr (.inr (12, aa))), some (.inl xb), some (.inl xc), some (.inl 0), some (.inl 0)] [] w9
      else
        some (some (.inl 0), w9) :=
  (nc_Call_eq _ _ _).trans ((if_pos (Nat.le_of_ble_eq_true rfl)).trans ((nc_Run_un [36] 19).trans rfl))
set_option maxRecDepth 100000 in
theorem qr_X12_farm_36 (aa : Nat) (xb : Int32) (xc : Int32) (xd : Int32) (xe : Int32) (w : nc_H) : nc_Run m_X12_farm 36 [some (.inr (.inr (12, aa))), some (.inl xb), some (.inl xc), some (.inl xd), some (.inl xe)] [] w =
  nc_bd 3 513 fun j1 =>
  if (w.1 874 aa j1) ≤ xe then
    if xc = 0 then
      nc_bI (nc_Call m_X12_cowsOf [.inr (.inr (12, aa)), .inl xb] w) fun r3 w2 =>
      some (some (.inl r3), w2)
    else
    if xc = 1 then
      nc_bd (95 + xb) 513 fun j4 =>
      some (some (.inl (w.1 874 aa j4)), w)
    else
    if xc = 2 then
      nc_bI (nc_Call m_X12_milkOf [.inr (.inr (12, aa)), .inl xb] w) fun r6 w5 =>
      some (some (.inl r6), w5)
    else
      some (some (.inl xd), w)
  else
    nc_bd (58 + xe) 513 fun j7 =>
    if (w.1 874 aa j7) = xb then
      nc_li (xd ||| (1 <<< (xe &&& 31))) fun x8 =>
      nc_li (xe + 1) fun x9 =>
      nc_Run m_X12_farm 36 [some (.inr (.inr (12, aa))), some (.inl xb), some (.inl xc), some (.inl x8), some (.inl x9)] [] w
    else
      nc_bd (64 + xe) 513 fun j10 =>
      if (w.1 874 aa j10) ≠ xb then
        nc_li (xd ||| 0) fun x11 =>
        nc_li (xe + 1) fun x12 =>
        nc_Run m_X12_farm 36 [some (.inr (.inr (12, aa))), some (.inl xb), some (.inl xc), some (.inl x11), some (.inl x12)] [] w
      else
        nc_li (xd ||| (1 <<< (xe &&& 31))) fun x13 =>
        nc_li (xe + 1) fun x14 =>
        nc_Run m_X12_farm 36 [some (.inr (.inr (12, aa))), some (.inl xb), some (.inl xc), some (.inl x13), some (.inl x14)] [] w :=
  (nc_Run_un [36] 32).trans rfl
set_option maxRecDepth 100000 in
theorem qc_X12_now (aa : Nat) (xb : Int32) (w : nc_H) : nc_Call m_X12_now [.inr (.inr (12, aa)), .inl xb] w =
  nc_lt (nc_si w 12 aa 0 0) fun w1 =>
  nc_Run m_X12_now 9 [some (.inr (.inr (12, aa))), some (.inl xb), some (.inl 0), some (.inl 0)] [] w1 :=
  (nc_Call_eq _ _ _).trans ((if_pos (Nat.le_of_ble_eq_true rfl)).trans ((nc_Run_un [9] 8).trans rfl))
set_option maxRecDepth 100000 in
theorem qr_X12_now_9 (aa : Nat) (xb : Int32) (xc : Int32) (xd : Int32) (w : nc_H) : nc_Run m_X12_now 9 [some (.inr (.inr (12, aa))), some (.inl xb), some (.inl xc), some (.inl xd)] [] w =
  nc_bd 3 513 fun j1 =>
  if (w.1 874 aa j1) ≤ xd then
    if xb = 0 then
      nc_bd 76 513 fun j2 =>
      some (some (.inl (w.1 874 aa j2)), w)
    else
    if xb = 1 then
      nc_bd 77 513 fun j3 =>
      some (some (.inl (w.1 874 aa j3)), w)
    else
    if xb = 2 then
      nc_bd 78 513 fun j4 =>
      some (some (.inl (w.1 874 aa j4)), w)
    else
    if xb = 3 then
      nc_bI (nc_Call m_X12_allPails [.inr (.inr (12, aa))] w) fun r6 w5 =>
      some (some (.inl r6), w5)
    else
    if xb = 4 then
      nc_bd 99 513 fun j7 =>
      some (some (.inl (w.1 874 aa j7)), w)
    else
    if xb = 5 then
      some (some (.inl xc), w)
    else
      some (some (.inl (-1)), w)
  else
    nc_bI (nc_Call m_X12_talks [.inr (.inr (12, aa)), .inl xd] w) fun r9 w8 =>
    if r9 = 0 then
      nc_li (xc ||| 0) fun x10 =>
      nc_li (xd + 1) fun x11 =>
      nc_Run m_X12_now 9 [some (.inr (.inr (12, aa))), some (.inl xb), some (.inl x10), some (.inl x11)] [] w8
    else
      nc_li (xc ||| (1 <<< (xd &&& 31))) fun x12 =>
      nc_li (xd + 1) fun x13 =>
      nc_Run m_X12_now 9 [some (.inr (.inr (12, aa))), some (.inl xb), some (.inl x12), some (.inl x13)] [] w8 :=
  (nc_Run_un [9] 20).trans rfl
set_option maxRecDepth 100000 in
theorem qc_X12_whyTell (aa : Nat) (xb : Int32) (xc : Int32) (w : nc_H) : nc_Call m_X12_whyTell [.inr (.inr (12, aa)), .inl xb, .inl xc] w =
  nc_bI (nc_Call m_X12_isDry [.inr (.inr (12, aa)), .inl xb] w) fun r2 w1 =>
  if r2 = 0 then
    nc_bd (100 + xb) 513 fun j3 =>
    nc_bI (nc_Call m_X12_bitOf [.inl (w1.1 874 aa j3), .inl xc] w1) fun r5 w4 =>
    if r5 = 0 then
      nc_bd (100 + xb) 513 fun j6 =>
      nc_bI (nc_Call m_X12_bits [.inl (w4.1 874 aa j6)] w4) fun r8 w7 =>
      nc_bd 4 513 fun j9 =>
      if r8 < (w7.1 874 aa j9) then
        some (some (.inl 0), w7)
      else
        some (some (.inl 3), w7)
    else
      some (some (.inl 2), w4)
  else
    some (some (.inl 1), w1) :=
  (nc_Call_eq _ _ _).trans ((if_pos (Nat.le_of_ble_eq_true rfl)).trans ((nc_Run_un [] 28).trans rfl))
set_option maxRecDepth 100000 in
theorem qc_X12_tells (aa : Nat) (xb : Int32) (xc : Int32) (w : nc_H) : nc_Call m_X12_tells [.inr (.inr (12, aa)), .inl xb, .inl xc] w =
  nc_bI (nc_Call m_X12_knows [.inr (.inr (12, aa)), .inl xb, .inl xc] w) fun r2 w1 =>
  if r2 = 0 then
    nc_bd (100 + xb) 513 fun j3 =>
    nc_bd (100 + xb) 513 fun j4 =>
    nc_lt (nc_si w1 874 aa j4 ((w1.1 874 aa j3) ||| (1 <<< (xc &&& 31)))) fun w5 =>
    nc_bd 76 513 fun j6 =>
    nc_bd ((132 + (10 * xb)) + xc) 513 fun j7 =>
    nc_lt (nc_si w5 874 aa j7 ((w5.1 874 aa j6) + 1)) fun w8 =>
    nc_bd (37 + xc) 513 fun j9 =>
    if (w8.1 874 aa j9) ≠ 2 then
      nc_bd 99 513 fun j10 =>
      nc_bd 99 513 fun j11 =>
      nc_lt (nc_si w8 874 aa j11 ((w8.1 874 aa j10) + 1)) fun w12 =>
      some (none, w12)
    else
      nc_bd 76 513 fun j13 =>
      nc_bd (124 + xb) 513 fun j14 =>
      nc_lt (nc_si w8 874 aa j14 ((w8.1 874 aa j13) + 1)) fun w15 =>
      nc_bd 99 513 fun j16 =>
      nc_bd 99 513 fun j17 =>
      nc_lt (nc_si w15 874 aa j17 ((w15.1 874 aa j16) + 1)) fun w18 =>
      some (none, w18)
  else
    nc_bd (108 + xb) 513 fun j19 =>
    nc_bd (108 + xb) 513 fun j20 =>
    nc_lt (nc_si w1 874 aa j20 ((w1.1 874 aa j19) ||| (1 <<< (xc &&& 31)))) fun w21 =>
    nc_bd (100 + xb) 513 fun j22 =>
    nc_bd (100 + xb) 513 fun j23 =>
    nc_lt (nc_si w21 874 aa j23 ((w21.1 874 aa j22) ||| (1 <<< (xc &&& 31)))) fun w24 =>
    nc_bd 76 513 fun j25 =>
    nc_bd ((132 + (10 * xb)) + xc) 513 fun j26 =>
    nc_lt (nc_si w24 874 aa j26 ((w24.1 874 aa j25) + 1)) fun w27 =>
    nc_bd (37 + xc) 513 fun j28 =>
    if (w27.1 874 aa j28) ≠ 2 then
      nc_bd 99 513 fun j29 =>
      nc_bd 99 513 fun j30 =>
      nc_lt (nc_si w27 874 aa j30 ((w27.1 874 aa j29) + 1)) fun w31 =>
      some (none, w31)
    else
      nc_bd 76 513 fun j32 =>
      nc_bd (124 + xb) 513 fun j33 =>
      nc_lt (nc_si w27 874 aa j33 ((w27.1 874 aa j32) + 1)) fun w34 =>
      nc_bd 99 513 fun j35 =>
      nc_bd 99 513 fun j36 =>
      nc_lt (nc_si w34 874 aa j36 ((w34.1 874 aa j35) + 1)) fun w37 =>
      some (none, w37) :=
  (nc_Call_eq _ _ _).trans ((if_pos (Nat.le_of_ble_eq_true rfl)).trans ((nc_Run_un [] 74).trans rfl))
set_option maxRecDepth 100000 in
theorem qc_X12_whyFind (aa : Nat) (xb : Int32) (w : nc_H) : nc_Call m_X12_whyFind [.inr (.inr (12, aa)), .inl xb] w =
  nc_bI (nc_Call m_X12_isLie [.inr (.inr (12, aa)), .inl xb] w) fun r2 w1 =>
  if r2 ≠ 0 then
    nc_bd 78 513 fun j3 =>
    nc_bI (nc_Call m_X12_bitOf [.inl (w1.1 874 aa j3), .inl xb] w1) fun r5 w4 =>
    if r5 = 0 then
      some (some (.inl 0), w4)
    else
      some (some (.inl 2), w4)
  else
    some (some (.inl 1), w1) :=
  (nc_Call_eq _ _ _).trans ((if_pos (Nat.le_of_ble_eq_true rfl)).trans ((nc_Run_un [] 14).trans rfl))
set_option maxRecDepth 100000 in
theorem qc_X12_driedBy (aa : Nat) (xb : Int32) (w : nc_H) : nc_Call m_X12_driedBy [.inr (.inr (12, aa)), .inl xb] w =
  nc_Run m_X12_driedBy 4 [some (.inr (.inr (12, aa))), some (.inl xb), some (.inl 0), some (.inl 0)] [] w :=
  (nc_Call_eq _ _ _).trans ((if_pos (Nat.le_of_ble_eq_true rfl)).trans ((nc_Run_un [4] 5).trans rfl))
set_option maxRecDepth 100000 in
theorem qr_X12_driedBy_4 (aa : Nat) (xb : Int32) (xc : Int32) (xd : Int32) (w : nc_H) : nc_Run m_X12_driedBy 4 [some (.inr (.inr (12, aa))), some (.inl xb), some (.inl xc), some (.inl xd)] [] w =
  nc_bd 1 513 fun j1 =>
  if (w.1 874 aa j1) ≤ xd then
    some (some (.inl xc), w)
  else
    nc_bI (nc_Call m_X12_isDry [.inr (.inr (12, aa)), .inl xd] w) fun r3 w2 =>
    if r3 ≠ 0 then
      nc_li (xc ||| 0) fun x4 =>
      nc_li (xd + 1) fun x5 =>
      nc_Run m_X12_driedBy 4 [some (.inr (.inr (12, aa))), some (.inl xb), some (.inl x4), some (.inl x5)] [] w2
    else
      nc_bI (nc_Call m_X12_knows [.inr (.inr (12, aa)), .inl xd, .inl xb] w2) fun r7 w6 =>
      if r7 = 0 then
        nc_li (xc ||| 0) fun x8 =>
        nc_li (xd + 1) fun x9 =>
        nc_Run m_X12_driedBy 4 [some (.inr (.inr (12, aa))), some (.inl xb), some (.inl x8), some (.inl x9)] [] w6
      else
        nc_bd (79 + xd) 513 fun j10 =>
        nc_bd (21 + xd) 513 fun j11 =>
        if ((w6.1 874 aa j10) + 1) < (w6.1 874 aa j11) then
          nc_li (xc ||| 0) fun x12 =>
          nc_li (xd + 1) fun x13 =>
          nc_Run m_X12_driedBy 4 [some (.inr (.inr (12, aa))), some (.inl xb), some (.inl x12), some (.inl x13)] [] w6
        else
          nc_li (xc ||| (1 <<< (xd &&& 31))) fun x14 =>
          nc_li (xd + 1) fun x15 =>
          nc_Run m_X12_driedBy 4 [some (.inr (.inr (12, aa))), some (.inl xb), some (.inl x14), some (.inl x15)] [] w6 :=
  (nc_Run_un [4] 40).trans rfl
set_option maxRecDepth 100000 in
theorem qc_X12_finds (aa : Nat) (xb : Int32) (w : nc_H) : nc_Call m_X12_finds [.inr (.inr (12, aa)), .inl xb] w =
  nc_bI (nc_Call m_X12_driedBy [.inr (.inr (12, aa)), .inl xb] w) fun r2 w1 =>
  nc_Run m_X12_finds 8 [some (.inr (.inr (12, aa))), some (.inl xb), some (.inl r2), some (.inl 0)] [] w1 :=
  (nc_Call_eq _ _ _).trans ((if_pos (Nat.le_of_ble_eq_true rfl)).trans ((nc_Run_un [8] 7).trans rfl))
set_option maxRecDepth 100000 in
theorem qr_X12_finds_8 (aa : Nat) (xb : Int32) (xc : Int32) (xd : Int32) (w : nc_H) : nc_Run m_X12_finds 8 [some (.inr (.inr (12, aa))), some (.inl xb), some (.inl xc), some (.inl xd)] [] w =
  nc_bd 1 513 fun j1 =>
  if (w.1 874 aa j1) ≤ xd then
    nc_bd 77 513 fun j2 =>
    nc_bd 77 513 fun j3 =>
    nc_lt (nc_si w 874 aa j3 ((w.1 874 aa j2) ||| xc)) fun w4 =>
    nc_bd 78 513 fun j5 =>
    nc_bd 78 513 fun j6 =>
    nc_lt (nc_si w4 874 aa j6 ((w4.1 874 aa j5) ||| (1 <<< (xb &&& 31)))) fun w7 =>
    some (none, w7)
  else
    nc_bd (79 + xd) 513 fun j8 =>
    nc_bI (nc_Call m_X12_isDry [.inr (.inr (12, aa)), .inl xd] w) fun r10 w9 =>
    if r10 ≠ 0 then
      nc_bd (79 + xd) 513 fun j11 =>
      nc_lt (nc_si w9 874 aa j11 ((w.1 874 aa j8) + 0)) fun w12 =>
      nc_li (xd + 1) fun x13 =>
      nc_Run m_X12_finds 8 [some (.inr (.inr (12, aa))), some (.inl xb), some (.inl xc), some (.inl x13)] [] w12
    else
      nc_bI (nc_Call m_X12_knows [.inr (.inr (12, aa)), .inl xd, .inl xb] w9) fun r15 w14 =>
      if r15 = 0 then
        nc_bd (79 + xd) 513 fun j16 =>
        nc_lt (nc_si w14 874 aa j16 ((w.1 874 aa j8) + 0)) fun w17 =>
        nc_li (xd + 1) fun x18 =>
        nc_Run m_X12_finds 8 [some (.inr (.inr (12, aa))), some (.inl xb), some (.inl xc), some (.inl x18)] [] w17
      else
        nc_bd (79 + xd) 513 fun j19 =>
        nc_lt (nc_si w14 874 aa j19 ((w.1 874 aa j8) + 1)) fun w20 =>
        nc_li (xd + 1) fun x21 =>
        nc_Run m_X12_finds 8 [some (.inr (.inr (12, aa))), some (.inl xb), some (.inl xc), some (.inl x21)] [] w20 :=
  (nc_Run_un [8] 29).trans rfl
set_option maxRecDepth 100000 in
theorem qc_X12_comesTo (aa : Nat) (xb : Int32) (xc : Int32) (w : nc_H) : nc_Call m_X12_comesTo [.inr (.inr (12, aa)), .inl xb, .inl xc] w =
  nc_Run m_X12_comesTo 5 [some (.inr (.inr (12, aa))), some (.inl xb), some (.inl xc), some (.inl 0), some (.inl 0), none] [] w :=
  (nc_Call_eq _ _ _).trans ((if_pos (Nat.le_of_ble_eq_true rfl)).trans ((nc_Run_un [5, 52, 82] 5).trans rfl))
set_option maxRecDepth 100000 in
theorem qr_X12_comesTo_5 (aa : Nat) (xb : Int32) (xc : Int32) (xd : Int32) (xe : Int32) (w : nc_H) : nc_Run m_X12_comesTo 5 [some (.inr (.inr (12, aa))), some (.inl xb), some (.inl xc), some (.inl xd), some (.inl xe), none] [] w =
  nc_bd 1 513 fun j1 =>
  if (w.1 874 aa j1) ≤ xe then
    nc_Run m_X12_comesTo 52 [some (.inr (.inr (12, aa))), none, some (.inl xc), some (.inl xd), some (.inl 0), none] [] w
  else
    nc_bd (5 + xe) 513 fun j2 =>
    if (w.1 874 aa j2) ≠ xb then
      nc_li (xd ||| 0) fun x3 =>
      nc_li (xe + 1) fun x4 =>
      nc_Run m_X12_comesTo 5 [some (.inr (.inr (12, aa))), some (.inl xb), some (.inl xc), some (.inl x3), some (.inl x4), none] [] w
    else
      nc_bd xe 8 fun j5 =>
      nc_li (xd ||| (w.1 889 aa j5)) fun x6 =>
      nc_li (xe + 1) fun x7 =>
      nc_Run m_X12_comesTo 5 [some (.inr (.inr (12, aa))), some (.inl xb), some (.inl xc), some (.inl x6), some (.inl x7), none] [] w :=
  (nc_Run_un [5, 52, 82] 25).trans rfl
set_option maxRecDepth 100000 in
theorem qr_X12_comesTo_52 (aa : Nat) (xc : Int32) (xd : Int32) (xe : Int32) (w : nc_H) : nc_Run m_X12_comesTo 52 [some (.inr (.inr (12, aa))), none, some (.inl xc), some (.inl xd), some (.inl xe), none] [] w =
  nc_bd 1 513 fun j1 =>
  if (w.1 874 aa j1) ≤ xe then
    some (none, w)
  else
    nc_bd (5 + xe) 513 fun j2 =>
    if (w.1 874 aa j2) = xc then
      nc_Run m_X12_comesTo 82 [some (.inr (.inr (12, aa))), none, some (.inl xc), some (.inl xd), some (.inl xe), some (.inl 0)] [] w
    else
      nc_li (xe + 1) fun x3 =>
      nc_Run m_X12_comesTo 52 [some (.inr (.inr (12, aa))), none, some (.inl xc), some (.inl xd), some (.inl x3), none] [] w :=
  (nc_Run_un [5, 52, 82] 18).trans rfl
set_option maxRecDepth 100000 in
theorem qr_X12_comesTo_82 (aa : Nat) (xc : Int32) (xd : Int32) (xe : Int32) (xf : Int32) (w : nc_H) : nc_Run m_X12_comesTo 82 [some (.inr (.inr (12, aa))), none, some (.inl xc), some (.inl xd), some (.inl xe), some (.inl xf)] [] w =
  nc_bd 2 513 fun j1 =>
  if (w.1 874 aa j1) ≤ xf then
    nc_li (xe + 1) fun x2 =>
    nc_Run m_X12_comesTo 52 [some (.inr (.inr (12, aa))), none, some (.inl xc), some (.inl xd), some (.inl x2), none] [] w
  else
    nc_bI (nc_Call m_X12_bitOf [.inl xd, .inl xf] w) fun r4 w3 =>
    if r4 = 0 then
      nc_li (xf + 1) fun x5 =>
      nc_Run m_X12_comesTo 82 [some (.inr (.inr (12, aa))), none, some (.inl xc), some (.inl xd), some (.inl xe), some (.inl x5)] [] w3
    else
      nc_bd 76 513 fun j6 =>
      nc_bd ((132 + (10 * xe)) + xf) 513 fun j7 =>
      nc_lt (nc_si w3 874 aa j7 ((w3.1 874 aa j6) + 1)) fun w8 =>
      nc_li (xf + 1) fun x9 =>
      nc_Run m_X12_comesTo 82 [some (.inr (.inr (12, aa))), none, some (.inl xc), some (.inl xd), some (.inl xe), some (.inl x9)] [] w8 :=
  (nc_Run_un [5, 52, 82] 29).trans rfl
set_option maxRecDepth 100000 in
theorem qc_X12_day (aa : Nat) (w : nc_H) : nc_Call m_X12_day [.inr (.inr (12, aa))] w =
  nc_Run m_X12_day 2 [some (.inr (.inr (12, aa))), some (.inl 0)] [] w :=
  (nc_Call_eq _ _ _).trans ((if_pos (Nat.le_of_ble_eq_true rfl)).trans ((nc_Run_un [2, 66, 112, 185] 3).trans rfl))
set_option maxRecDepth 100000 in
theorem qr_X12_day_2 (aa : Nat) (xb : Int32) (w : nc_H) : nc_Run m_X12_day 2 [some (.inr (.inr (12, aa))), some (.inl xb)] [] w =
  nc_bd 0 513 fun j1 =>
  if (w.1 874 aa j1) ≤ xb then
    nc_Run m_X12_day 66 [some (.inr (.inr (12, aa))), some (.inl 0)] [] w
  else
    nc_bd 76 513 fun j2 =>
    nc_bI (nc_Call m_X12_milkOf [.inr (.inr (12, aa)), .inl xb] w) fun r4 w3 =>
    nc_bd ((212 + (30 * xb)) + ((w.1 874 aa j2) - (w.1 874 aa j2) / 30 * 30)) 513 fun j5 =>
    nc_lt (nc_si w3 874 aa j5 r4) fun w6 =>
    nc_bd (95 + xb) 513 fun j7 =>
    nc_bI (nc_Call m_X12_milkOf [.inr (.inr (12, aa)), .inl xb] w6) fun r9 w8 =>
    nc_bd (95 + xb) 513 fun j10 =>
    nc_lt (nc_si w8 874 aa j10 ((w6.1 874 aa j7) + r9)) fun w11 =>
    nc_li (xb + 1) fun x12 =>
    nc_Run m_X12_day 2 [some (.inr (.inr (12, aa))), some (.inl x12)] [] w11 :=
  (nc_Run_un [2, 66, 112, 185] 39).trans rfl
set_option maxRecDepth 100000 in
theorem qr_X12_day_66 (aa : Nat) (xb : Int32) (w : nc_H) : nc_Run m_X12_day 66 [some (.inr (.inr (12, aa))), some (.inl xb)] [] w =
  nc_bd 1 513 fun j1 =>
  if (w.1 874 aa j1) ≤ xb then
    nc_Run m_X12_day 112 [some (.inr (.inr (12, aa))), some (.inl 0)] [] w
  else
    nc_bd (87 + xb) 513 fun j2 =>
    nc_bI (nc_Call m_X12_milk [.inr (.inr (12, aa)), .inl xb] w) fun r4 w3 =>
    nc_bd (87 + xb) 513 fun j5 =>
    nc_lt (nc_si w3 874 aa j5 ((w.1 874 aa j2) + r4)) fun w6 =>
    nc_bI (nc_Call m_X12_known [.inr (.inr (12, aa)), .inl xb] w6) fun r8 w7 =>
    nc_bd xb 8 fun j9 =>
    nc_lt (nc_si w7 889 aa j9 r8) fun w10 =>
    nc_li (xb + 1) fun x11 =>
    nc_Run m_X12_day 66 [some (.inr (.inr (12, aa))), some (.inl x11)] [] w10 :=
  (nc_Run_un [2, 66, 112, 185] 28).trans rfl
set_option maxRecDepth 100000 in
theorem qr_X12_day_112 (aa : Nat) (xb : Int32) (w : nc_H) : nc_Run m_X12_day 112 [some (.inr (.inr (12, aa))), some (.inl xb)] [] w =
  nc_bd 3 513 fun j1 =>
  if (w.1 874 aa j1) ≤ xb then
    nc_Run m_X12_day 185 [some (.inr (.inr (12, aa))), some (.inl 0)] [] w
  else
    nc_bI (nc_Call m_X12_talks [.inr (.inr (12, aa)), .inl xb] w) fun r3 w2 =>
    if r3 ≠ 0 then
      nc_bd (58 + xb) 513 fun j4 =>
      nc_bd (64 + xb) 513 fun j5 =>
      nc_bV (nc_Call m_X12_comesTo [.inr (.inr (12, aa)), .inl (w2.1 874 aa j4), .inl (w2.1 874 aa j5)] w2) fun w6 =>
      nc_bd (64 + xb) 513 fun j7 =>
      nc_bd (58 + xb) 513 fun j8 =>
      nc_bV (nc_Call m_X12_comesTo [.inr (.inr (12, aa)), .inl (w6.1 874 aa j7), .inl (w6.1 874 aa j8)] w6) fun w9 =>
      nc_li (xb + 1) fun x10 =>
      nc_Run m_X12_day 112 [some (.inr (.inr (12, aa))), some (.inl x10)] [] w9
    else
      nc_li (xb + 1) fun x11 =>
      nc_Run m_X12_day 112 [some (.inr (.inr (12, aa))), some (.inl x11)] [] w2 :=
  (nc_Run_un [2, 66, 112, 185] 41).trans rfl
set_option maxRecDepth 100000 in
theorem qr_X12_day_185 (aa : Nat) (xb : Int32) (w : nc_H) : nc_Run m_X12_day 185 [some (.inr (.inr (12, aa))), some (.inl xb)] [] w =
  nc_bd 1 513 fun j1 =>
  if (w.1 874 aa j1) ≤ xb then
    nc_bd 76 513 fun j2 =>
    nc_bd 76 513 fun j3 =>
    nc_lt (nc_si w 874 aa j3 ((w.1 874 aa j2) + 1)) fun w4 =>
    some (none, w4)
  else
    nc_bd (100 + xb) 513 fun j5 =>
    nc_bd (116 + xb) 513 fun j6 =>
    nc_lt (nc_si w 874 aa j6 (w.1 874 aa j5)) fun w7 =>
    nc_bd (100 + xb) 513 fun j8 =>
    nc_lt (nc_si w7 874 aa j8 0) fun w9 =>
    nc_bd (108 + xb) 513 fun j10 =>
    nc_lt (nc_si w9 874 aa j10 0) fun w11 =>
    nc_li (xb + 1) fun x12 =>
    nc_Run m_X12_day 185 [some (.inr (.inr (12, aa))), some (.inl x12)] [] w11 :=
  (nc_Run_un [2, 66, 112, 185] 35).trans rfl
set_option maxRecDepth 100000 in
theorem qc_X12_goesOn (aa : Nat) (xb : Int32) (w : nc_H) : nc_Call m_X12_goesOn [.inr (.inr (12, aa)), .inl xb] w =
  nc_Run m_X12_goesOn 2 [some (.inr (.inr (12, aa))), some (.inl xb), some (.inl 0)] [] w :=
  (nc_Call_eq _ _ _).trans ((if_pos (Nat.le_of_ble_eq_true rfl)).trans ((nc_Run_un [2] 3).trans rfl))
set_option maxRecDepth 100000 in
theorem qr_X12_goesOn_2 (aa : Nat) (xb : Int32) (xc : Int32) (w : nc_H) : nc_Run m_X12_goesOn 2 [some (.inr (.inr (12, aa))), some (.inl xb), some (.inl xc)] [] w =
  if xb ≤ xc then
    some (some (.inl xc), w)
  else
    nc_bd 76 513 fun j1 =>
    if (400 : Int32) ≤ (w.1 874 aa j1) then
      some (some (.inl xc), w)
    else
      nc_bV (nc_Call m_X12_day [.inr (.inr (12, aa))] w) fun w2 =>
      nc_li (xc + 1) fun x3 =>
      nc_Run m_X12_goesOn 2 [some (.inr (.inr (12, aa))), some (.inl xb), some (.inl x3)] [] w2 :=
  (nc_Run_un [2] 14).trans rfl
set_option maxRecDepth 100000 in
theorem qc_X12_tell (aa : Nat) (xb : Int32) (xc : Int32) (w : nc_H) : nc_Call m_X12_tell [.inr (.inr (12, aa)), .inl xb, .inl xc] w =
  nc_lt (nc_si w 12 aa 0 0) fun w1 =>
  nc_bI (nc_Call m_X12_isCow [.inr (.inr (12, aa)), .inl xb] w1) fun r3 w2 =>
  if r3 = 0 then
    some (some (.inl (-1)), w2)
  else
    nc_bI (nc_Call m_X12_isNews [.inr (.inr (12, aa)), .inl xc] w2) fun r5 w4 =>
    if r5 ≠ 0 then
      nc_bI (nc_Call m_X12_whyTell [.inr (.inr (12, aa)), .inl xb, .inl xc] w4) fun r7 w6 =>
      if r7 ≤ 0 then
        nc_bV (nc_Call m_X12_keep [.inr (.inr (12, aa))] w6) fun w8 =>
        nc_bV (nc_Call m_X12_tells [.inr (.inr (12, aa)), .inl xb, .inl xc] w8) fun w9 =>
        some (some (.inl 0), w9)
      else
        some (some (.inl r7), w6)
    else
      some (some (.inl (-1)), w4) :=
  (nc_Call_eq _ _ _).trans ((if_pos (Nat.le_of_ble_eq_true rfl)).trans ((nc_Run_un [] 26).trans rfl))
set_option maxRecDepth 100000 in
theorem qc_X12_find (aa : Nat) (xb : Int32) (w : nc_H) : nc_Call m_X12_find [.inr (.inr (12, aa)), .inl xb] w =
  nc_lt (nc_si w 12 aa 0 0) fun w1 =>
  nc_bI (nc_Call m_X12_isNews [.inr (.inr (12, aa)), .inl xb] w1) fun r3 w2 =>
  if r3 ≠ 0 then
    nc_bI (nc_Call m_X12_whyFind [.inr (.inr (12, aa)), .inl xb] w2) fun r5 w4 =>
    if r5 ≤ 0 then
      nc_bV (nc_Call m_X12_keep [.inr (.inr (12, aa))] w4) fun w6 =>
      nc_bV (nc_Call m_X12_finds [.inr (.inr (12, aa)), .inl xb] w6) fun w7 =>
      some (some (.inl 0), w7)
    else
      some (some (.inl r5), w4)
  else
    some (some (.inl (-1)), w2) :=
  (nc_Call_eq _ _ _).trans ((if_pos (Nat.le_of_ble_eq_true rfl)).trans ((nc_Run_un [] 20).trans rfl))
set_option maxRecDepth 100000 in
theorem qc_X12_days (aa : Nat) (xb : Int32) (w : nc_H) : nc_Call m_X12_days [.inr (.inr (12, aa)), .inl xb] w =
  nc_lt (nc_si w 12 aa 0 0) fun w1 =>
  nc_bI (nc_Call m_X12_isIn [.inl xb, .inl 1, .inl 60] w1) fun r3 w2 =>
  if r3 ≠ 0 then
    nc_bd 76 513 fun j4 =>
    if (w2.1 874 aa j4) ≠ 400 then
      nc_bV (nc_Call m_X12_keep [.inr (.inr (12, aa))] w2) fun w5 =>
      nc_bI (nc_Call m_X12_goesOn [.inr (.inr (12, aa)), .inl xb] w5) fun r7 w6 =>
      some (some (.inl r7), w6)
    else
      some (some (.inl 0), w2)
  else
    some (some (.inl (-1)), w2) :=
  (nc_Call_eq _ _ _).trans ((if_pos (Nat.le_of_ble_eq_true rfl)).trans ((nc_Run_un [] 20).trans rfl))
set_option maxRecDepth 100000 in
theorem qc_X12_why (aa : Nat) (xb : Int32) (xc : Int32) (w : nc_H) : nc_Call m_X12_why [.inr (.inr (12, aa)), .inl xb, .inl xc] w =
  nc_lt (nc_si w 12 aa 0 0) fun w1 =>
  nc_bI (nc_Call m_X12_isCow [.inr (.inr (12, aa)), .inl xb] w1) fun r3 w2 =>
  if r3 = 0 then
    some (some (.inl (-1)), w2)
  else
    nc_bI (nc_Call m_X12_isNews [.inr (.inr (12, aa)), .inl xc] w2) fun r5 w4 =>
    if r5 = 0 then
      some (some (.inl (-1)), w4)
    else
      nc_bI (nc_Call m_X12_whyTell [.inr (.inr (12, aa)), .inl xb, .inl xc] w4) fun r7 w6 =>
      some (some (.inl r7), w6) :=
  (nc_Call_eq _ _ _).trans ((if_pos (Nat.le_of_ble_eq_true rfl)).trans ((nc_Run_un [] 17).trans rfl))
set_option maxRecDepth 100000 in
theorem qc_X12_mayHear (aa : Nat) (xb : Int32) (xc : Int32) (w : nc_H) : nc_Call m_X12_mayHear [.inr (.inr (12, aa)), .inl xb, .inl xc] w =
  nc_bd (100 + xb) 513 fun j1 =>
  if (xc &&& (w.1 874 aa j1)) ≠ 0 then
    some (some (.inl 0), w)
  else
    nc_bI (nc_Call m_X12_bits [.inl xc] w) fun r3 w2 =>
    nc_bd 4 513 fun j4 =>
    nc_bd (100 + xb) 513 fun j5 =>
    nc_bI (nc_Call m_X12_bits [.inl (w2.1 874 aa j5)] w2) fun r7 w6 =>
    if ((w2.1 874 aa j4) - r7) < r3 then
      some (some (.inl 0), w6)
    else
      some (some (.inl 1), w6) :=
  (nc_Call_eq _ _ _).trans ((if_pos (Nat.le_of_ble_eq_true rfl)).trans ((nc_Run_un [] 27).trans rfl))
set_option maxRecDepth 100000 in
theorem qc_X12_bestOf (aa : Nat) (xb : Int32) (xc : Int32) (w : nc_H) : nc_Call m_X12_bestOf [.inr (.inr (12, aa)), .inl xb, .inl xc] w =
  nc_Run m_X12_bestOf 5 [some (.inr (.inr (12, aa))), some (.inl xb), some (.inl xc), some (.inl 0), some (.inl 1), none, none] [] w :=
  (nc_Call_eq _ _ _).trans ((if_pos (Nat.le_of_ble_eq_true rfl)).trans ((nc_Run_un [5] 5).trans rfl))
set_option maxRecDepth 100000 in
theorem qr_X12_bestOf_5 (aa : Nat) (xb : Int32) (xc : Int32) (xd : Int32) (xe : Int32) (w : nc_H) : nc_Run m_X12_bestOf 5 [some (.inr (.inr (12, aa))), some (.inl xb), some (.inl xc), some (.inl xd), some (.inl xe), none, none] [] w =
  if xc < xe then
    some (some (.inl xd), w)
  else
    if (xe &&& (xc ^^^ (-1))) ≠ 0 then
      nc_li (xe + 1) fun x1 =>
      nc_Run m_X12_bestOf 5 [some (.inr (.inr (12, aa))), some (.inl xb), some (.inl xc), some (.inl xd), some (.inl x1), none, none] [] w
    else
      nc_bI (nc_Call m_X12_mayHear [.inr (.inr (12, aa)), .inl xb, .inl xe] w) fun r3 w2 =>
      if r3 ≠ 0 then
        nc_bI (nc_Call m_X12_milkWith [.inr (.inr (12, aa)), .inl xb, .inl xe] w2) fun r5 w4 =>
        nc_bI (nc_Call m_X12_milkWith [.inr (.inr (12, aa)), .inl xb, .inl xd] w4) fun r7 w6 =>
        if r7 < r5 then
          nc_li (xe + 1) fun x8 =>
          nc_Run m_X12_bestOf 5 [some (.inr (.inr (12, aa))), some (.inl xb), some (.inl xc), some (.inl xe), some (.inl x8), none, none] [] w6
        else
          if r5 ≠ r7 then
            nc_li (xe + 1) fun x9 =>
            nc_Run m_X12_bestOf 5 [some (.inr (.inr (12, aa))), some (.inl xb), some (.inl xc), some (.inl xd), some (.inl x9), none, none] [] w6
          else
            nc_bI (nc_Call m_X12_bits [.inl xe] w6) fun r11 w10 =>
            nc_bI (nc_Call m_X12_bits [.inl xd] w10) fun r13 w12 =>
            if r13 ≤ r11 then
              nc_li (xe + 1) fun x14 =>
              nc_Run m_X12_bestOf 5 [some (.inr (.inr (12, aa))), some (.inl xb), some (.inl xc), some (.inl xd), some (.inl x14), none, none] [] w12
            else
              nc_li (xe + 1) fun x15 =>
              nc_Run m_X12_bestOf 5 [some (.inr (.inr (12, aa))), some (.inl xb), some (.inl xc), some (.inl xe), some (.inl x15), none, none] [] w12
      else
        nc_li (xe + 1) fun x16 =>
        nc_Run m_X12_bestOf 5 [some (.inr (.inr (12, aa))), some (.inl xb), some (.inl xc), some (.inl xd), some (.inl x16), none, none] [] w2 :=
  (nc_Run_un [5] 40).trans rfl
set_option maxRecDepth 100000 in
theorem qc_X12_best (aa : Nat) (xb : Int32) (w : nc_H) : nc_Call m_X12_best [.inr (.inr (12, aa)), .inl xb] w =
  nc_lt (nc_si w 12 aa 0 0) fun w1 =>
  nc_bI (nc_Call m_X12_isCow [.inr (.inr (12, aa)), .inl xb] w1) fun r3 w2 =>
  if r3 = 0 then
    some (some (.inl (-1)), w2)
  else
    nc_bI (nc_Call m_X12_isDry [.inr (.inr (12, aa)), .inl xb] w2) fun r5 w4 =>
    if r5 = 0 then
      nc_bI (nc_Call m_X12_peace [.inr (.inr (12, aa))] w4) fun r7 w6 =>
      nc_bI (nc_Call m_X12_bestOf [.inr (.inr (12, aa)), .inl xb, .inl r7] w6) fun r9 w8 =>
      nc_bV (nc_Call m_X12_tellsSet [.inr (.inr (12, aa)), .inl r9] w8) fun w10 =>
      nc_bI (nc_Call m_X12_milkWith [.inr (.inr (12, aa)), .inl xb, .inl r9] w10) fun r12 w11 =>
      some (some (.inl r12), w11)
    else
      some (some (.inl (-1)), w4) :=
  (nc_Call_eq _ _ _).trans ((if_pos (Nat.le_of_ble_eq_true rfl)).trans ((nc_Run_un [] 25).trans rfl))
set_option maxRecDepth 100000 in
theorem qc_X12_least (aa : Nat) (xb : Int32) (xc : Int32) (w : nc_H) : nc_Call m_X12_least [.inr (.inr (12, aa)), .inl xb, .inl xc] w =
  nc_lt (nc_si w 12 aa 0 0) fun w1 =>
  nc_bI (nc_Call m_X12_isCow [.inr (.inr (12, aa)), .inl xb] w1) fun r3 w2 =>
  if r3 = 0 then
    some (some (.inl (-1)), w2)
  else
    nc_bI (nc_Call m_X12_isDry [.inr (.inr (12, aa)), .inl xb] w2) fun r5 w4 =>
    if r5 ≠ 0 then
      some (some (.inl (-1)), w4)
    else
      nc_bI (nc_Call m_X12_isIn [.inl xc, .inl 0, .inl 999] w4) fun r7 w6 =>
      if r7 ≠ 0 then
        nc_bI (nc_Call m_X12_peace [.inr (.inr (12, aa))] w6) fun r9 w8 =>
        nc_Run m_X12_least 45 [some (.inr (.inr (12, aa))), some (.inl xb), some (.inl xc), some (.inl r9), some (.inl (-1)), some (.inl 0), none] [] w8
      else
        some (some (.inl (-1)), w6) :=
  (nc_Call_eq _ _ _).trans ((if_pos (Nat.le_of_ble_eq_true rfl)).trans ((nc_Run_un [45] 24).trans rfl))
set_option maxRecDepth 100000 in
theorem qr_X12_least_45 (aa : Nat) (xb : Int32) (xc : Int32) (xd : Int32) (xe : Int32) (xf : Int32) (w : nc_H) : nc_Run m_X12_least 45 [some (.inr (.inr (12, aa))), some (.inl xb), some (.inl xc), some (.inl xd), some (.inl xe), some (.inl xf), none] [] w =
  if xd < xf then
    if (0 : Int32) ≤ xe then
      nc_bV (nc_Call m_X12_tellsSet [.inr (.inr (12, aa)), .inl xe] w) fun w1 =>
      nc_bd 57 513 fun j2 =>
      nc_bI (nc_Call m_X12_bits [.inl (xe &&& (w1.1 874 aa j2))] w1) fun r4 w3 =>
      some (some (.inl r4), w3)
    else
      some (some (.inl (-1)), w)
  else
    if (xf &&& (xd ^^^ (-1))) ≠ 0 then
      nc_li (xf + 1) fun x5 =>
      nc_Run m_X12_least 45 [some (.inr (.inr (12, aa))), some (.inl xb), some (.inl xc), some (.inl xd), some (.inl xe), some (.inl x5), none] [] w
    else
      nc_bI (nc_Call m_X12_mayHear [.inr (.inr (12, aa)), .inl xb, .inl xf] w) fun r7 w6 =>
      if r7 = 0 then
        nc_li (xf + 1) fun x8 =>
        nc_Run m_X12_least 45 [some (.inr (.inr (12, aa))), some (.inl xb), some (.inl xc), some (.inl xd), some (.inl xe), some (.inl x8), none] [] w6
      else
        nc_bI (nc_Call m_X12_milkWith [.inr (.inr (12, aa)), .inl xb, .inl xf] w6) fun r10 w9 =>
        if xc ≤ r10 then
          nc_bd 57 513 fun j11 =>
          nc_bI (nc_Call m_X12_bits [.inl (xf &&& (w9.1 874 aa j11))] w9) fun r13 w12 =>
          if xe < 0 then
            nc_li (xf + 1) fun x14 =>
            nc_Run m_X12_least 45 [some (.inr (.inr (12, aa))), some (.inl xb), some (.inl xc), some (.inl xd), some (.inl xf), some (.inl x14), none] [] w12
          else
            nc_bd 57 513 fun j15 =>
            nc_bI (nc_Call m_X12_bits [.inl (xe &&& (w12.1 874 aa j15))] w12) fun r17 w16 =>
            if r13 < r17 then
              nc_li (xf + 1) fun x18 =>
              nc_Run m_X12_least 45 [some (.inr (.inr (12, aa))), some (.inl xb), some (.inl xc), some (.inl xd), some (.inl xf), some (.inl x18), none] [] w16
            else
              nc_bd 57 513 fun j19 =>
              nc_bI (nc_Call m_X12_bits [.inl (xe &&& (w16.1 874 aa j19))] w16) fun r21 w20 =>
              if r13 ≠ r21 then
                nc_li (xf + 1) fun x22 =>
                nc_Run m_X12_least 45 [some (.inr (.inr (12, aa))), some (.inl xb), some (.inl xc), some (.inl xd), some (.inl xe), some (.inl x22), none] [] w20
              else
                nc_bI (nc_Call m_X12_bits [.inl xf] w20) fun r24 w23 =>
                nc_bI (nc_Call m_X12_bits [.inl xe] w23) fun r26 w25 =>
                if r26 ≤ r24 then
                  nc_li (xf + 1) fun x27 =>
                  nc_Run m_X12_least 45 [some (.inr (.inr (12, aa))), some (.inl xb), some (.inl xc), some (.inl xd), some (.inl xe), some (.inl x27), none] [] w25
                else
                  nc_li (xf + 1) fun x28 =>
                  nc_Run m_X12_least 45 [some (.inr (.inr (12, aa))), some (.inl xb), some (.inl xc), some (.inl xd), some (.inl xf), some (.inl x28), none] [] w25
        else
          nc_li (xf + 1) fun x29 =>
          nc_Run m_X12_least 45 [some (.inr (.inr (12, aa))), some (.inl xb), some (.inl xc), some (.inl xd), some (.inl xe), some (.inl x29), none] [] w9 :=
  (nc_Run_un [45] 58).trans rfl
set_option maxRecDepth 100000 in
theorem qc_X12_honest (aa : Nat) (xb : Int32) (w : nc_H) : nc_Call m_X12_honest [.inr (.inr (12, aa)), .inl xb] w =
  nc_lt (nc_si w 12 aa 0 0) fun w1 =>
  nc_bI (nc_Call m_X12_isCow [.inr (.inr (12, aa)), .inl xb] w1) fun r3 w2 =>
  if r3 = 0 then
    some (some (.inl (-1)), w2)
  else
    nc_bI (nc_Call m_X12_isDry [.inr (.inr (12, aa)), .inl xb] w2) fun r5 w4 =>
    if r5 ≠ 0 then
      some (some (.inl (-1)), w4)
    else
      nc_bI (nc_Call m_X12_peace [.inr (.inr (12, aa))] w4) fun r7 w6 =>
      nc_bd 57 513 fun j8 =>
      nc_bI (nc_Call m_X12_bestOf [.inr (.inr (12, aa)), .inl xb, .inl (r7 &&& ((w6.1 874 aa j8) ^^^ (-1)))] w6) fun r10 w9 =>
      nc_bI (nc_Call m_X12_milkWith [.inr (.inr (12, aa)), .inl xb, .inl r10] w9) fun r12 w11 =>
      some (some (.inl r12), w11) :=
  (nc_Call_eq _ _ _).trans ((if_pos (Nat.le_of_ble_eq_true rfl)).trans ((nc_Run_un [] 28).trans rfl))
set_option maxRecDepth 100000 in
theorem qc_X12_planned (aa : Nat) (xb : Int32) (xc : Int32) (xd : Int32) (w : nc_H) : nc_Call m_X12_planned [.inr (.inr (12, aa)), .inl xb, .inl xc, .inl xd] w =
  nc_Run m_X12_planned 9 [some (.inr (.inr (12, aa))), some (.inl xb), some (.inl xc), some (.inl xd), some (.inl 0), some (.inl 1), some (.inl 0), none] [] w :=
  (nc_Call_eq _ _ _).trans ((if_pos (Nat.le_of_ble_eq_true rfl)).trans ((nc_Run_un [9] 7).trans rfl))
set_option maxRecDepth 100000 in
theorem qr_X12_planned_9 (aa : Nat) (xb : Int32) (xc : Int32) (xd : Int32) (xe : Int32) (xf : Int32) (xg : Int32) (w : nc_H) : nc_Run m_X12_planned 9 [some (.inr (.inr (12, aa))), some (.inl xb), some (.inl xc), some (.inl xd), some (.inl xe), some (.inl xf), some (.inl xg), none] [] w =
  if xd ≤ xg then
    nc_bV (nc_Call m_X12_back [.inr (.inr (12, aa))] w) fun w1 =>
    if xf = 0 then
      some (some (.inl (-1)), w1)
    else
      some (some (.inl xe), w1)
  else
    if xf = 0 then
      nc_bV (nc_Call m_X12_back [.inr (.inr (12, aa))] w) fun w2 =>
      if xf = 0 then
        some (some (.inl (-1)), w2)
      else
        some (some (.inl xe), w2)
    else
      nc_bI (nc_Call m_X12_digit [.inr (.inr (12, aa)), .inl xc, .inl xg, .inl xd] w) fun r4 w3 =>
      nc_bd 2 513 fun j5 =>
      if r4 = (w3.1 874 aa j5) then
        nc_bd 2 513 fun j6 =>
        if (w3.1 874 aa j6) ≤ r4 then
          nc_bI (nc_Call m_X12_milk [.inr (.inr (12, aa)), .inl xb] w3) fun r8 w7 =>
          nc_li (xe + r8) fun x9 =>
          nc_bV (nc_Call m_X12_day [.inr (.inr (12, aa))] w7) fun w10 =>
          nc_li (xg + 1) fun x11 =>
          nc_Run m_X12_planned 9 [some (.inr (.inr (12, aa))), some (.inl xb), some (.inl xc), some (.inl xd), some (.inl x9), some (.inl 1), some (.inl x11), none] [] w10
        else
          nc_bV (nc_Call m_X12_tells [.inr (.inr (12, aa)), .inl xb, .inl r4] w3) fun w12 =>
          nc_bI (nc_Call m_X12_milk [.inr (.inr (12, aa)), .inl xb] w12) fun r14 w13 =>
          nc_li (xe + r14) fun x15 =>
          nc_bV (nc_Call m_X12_day [.inr (.inr (12, aa))] w13) fun w16 =>
          nc_li (xg + 1) fun x17 =>
          nc_Run m_X12_planned 9 [some (.inr (.inr (12, aa))), some (.inl xb), some (.inl xc), some (.inl xd), some (.inl x15), some (.inl 1), some (.inl x17), none] [] w16
      else
        nc_bI (nc_Call m_X12_whyTell [.inr (.inr (12, aa)), .inl xb, .inl r4] w3) fun r19 w18 =>
        if r19 ≠ 0 then
          nc_bI (nc_Call m_X12_milk [.inr (.inr (12, aa)), .inl xb] w18) fun r21 w20 =>
          nc_li (xe + r21) fun x22 =>
          nc_bV (nc_Call m_X12_day [.inr (.inr (12, aa))] w20) fun w23 =>
          nc_li (xg + 1) fun x24 =>
          nc_Run m_X12_planned 9 [some (.inr (.inr (12, aa))), some (.inl xb), some (.inl xc), some (.inl xd), some (.inl x22), some (.inl 0), some (.inl x24), none] [] w23
        else
          nc_bd 2 513 fun j25 =>
          if (w18.1 874 aa j25) ≤ r4 then
            nc_bI (nc_Call m_X12_milk [.inr (.inr (12, aa)), .inl xb] w18) fun r27 w26 =>
            nc_li (xe + r27) fun x28 =>
            nc_bV (nc_Call m_X12_day [.inr (.inr (12, aa))] w26) fun w29 =>
            nc_li (xg + 1) fun x30 =>
            nc_Run m_X12_planned 9 [some (.inr (.inr (12, aa))), some (.inl xb), some (.inl xc), some (.inl xd), some (.inl x28), some (.inl 1), some (.inl x30), none] [] w29
          else
            nc_bV (nc_Call m_X12_tells [.inr (.inr (12, aa)), .inl xb, .inl r4] w18) fun w31 =>
            nc_bI (nc_Call m_X12_milk [.inr (.inr (12, aa)), .inl xb] w31) fun r33 w32 =>
            nc_li (xe + r33) fun x34 =>
            nc_bV (nc_Call m_X12_day [.inr (.inr (12, aa))] w32) fun w35 =>
            nc_li (xg + 1) fun x36 =>
            nc_Run m_X12_planned 9 [some (.inr (.inr (12, aa))), some (.inl xb), some (.inl xc), some (.inl xd), some (.inl x34), some (.inl 1), some (.inl x36), none] [] w35 :=
  (nc_Run_un [9] 48).trans rfl
set_option maxRecDepth 100000 in
theorem qc_X12_plan (aa : Nat) (xb : Int32) (xc : Int32) (w : nc_H) : nc_Call m_X12_plan [.inr (.inr (12, aa)), .inl xb, .inl xc] w =
  nc_lt (nc_si w 12 aa 0 0) fun w1 =>
  nc_bI (nc_Call m_X12_isCow [.inr (.inr (12, aa)), .inl xb] w1) fun r3 w2 =>
  if r3 = 0 then
    some (some (.inl (-1)), w2)
  else
    nc_bI (nc_Call m_X12_isIn [.inl xc, .inl 1, .inl 3] w2) fun r5 w4 =>
    if r5 = 0 then
      some (some (.inl (-1)), w4)
    else
      nc_bd 76 513 fun j6 =>
      if ((w4.1 874 aa j6) + xc) ≤ 400 then
        nc_Run m_X12_plan 44 [some (.inr (.inr (12, aa))), some (.inl xb), some (.inl xc), some (.inl 1), some (.inl 0), none, none, none] [] w4
      else
        some (some (.inl (-1)), w4) :=
  (nc_Call_eq _ _ _).trans ((if_pos (Nat.le_of_ble_eq_true rfl)).trans ((nc_Run_un [44, 80, 128] 25).trans rfl))
set_option maxRecDepth 100000 in
theorem qr_X12_plan_44 (aa : Nat) (xb : Int32) (xc : Int32) (xd : Int32) (xe : Int32) (w : nc_H) : nc_Run m_X12_plan 44 [some (.inr (.inr (12, aa))), some (.inl xb), some (.inl xc), some (.inl xd), some (.inl xe), none, none, none] [] w =
  if xc ≤ xe then
    nc_bV (nc_Call m_X12_tries [.inr (.inr (12, aa))] w) fun w1 =>
    nc_Run m_X12_plan 80 [some (.inr (.inr (12, aa))), some (.inl xb), some (.inl xc), some (.inl xd), some (.inl (-1)), some (.inl (-1)), some (.inl 0), none] [] w1
  else
    nc_bd 2 513 fun j2 =>
    nc_li (xd * ((w.1 874 aa j2) + 1)) fun x3 =>
    nc_li (xe + 1) fun x4 =>
    nc_Run m_X12_plan 44 [some (.inr (.inr (12, aa))), some (.inl xb), some (.inl xc), some (.inl x3), some (.inl x4), none, none, none] [] w :=
  (nc_Run_un [44, 80, 128] 15).trans rfl
set_option maxRecDepth 100000 in
theorem qr_X12_plan_80 (aa : Nat) (xb : Int32) (xc : Int32) (xd : Int32) (xe : Int32) (xf : Int32) (xg : Int32) (w : nc_H) : nc_Run m_X12_plan 80 [some (.inr (.inr (12, aa))), some (.inl xb), some (.inl xc), some (.inl xd), some (.inl xe), some (.inl xf), some (.inl xg), none] [] w =
  if xd ≤ xg then
    nc_lt (nc_si w 12 aa 28 xc) fun w1 =>
    nc_Run m_X12_plan 128 [some (.inr (.inr (12, aa))), none, some (.inl xc), none, some (.inl xe), some (.inl xf), some (.inl 0), none] [] w1
  else
    nc_bI (nc_Call m_X12_planned [.inr (.inr (12, aa)), .inl xb, .inl xg, .inl xc] w) fun r3 w2 =>
    if xf < r3 then
      nc_li (xg + 1) fun x4 =>
      nc_Run m_X12_plan 80 [some (.inr (.inr (12, aa))), some (.inl xb), some (.inl xc), some (.inl xd), some (.inl xg), some (.inl r3), some (.inl x4), none] [] w2
    else
      nc_li (xg + 1) fun x5 =>
      nc_Run m_X12_plan 80 [some (.inr (.inr (12, aa))), some (.inl xb), some (.inl xc), some (.inl xd), some (.inl xe), some (.inl xf), some (.inl x5), none] [] w2 :=
  (nc_Run_un [44, 80, 128] 19).trans rfl
set_option maxRecDepth 100000 in
theorem qr_X12_plan_128 (aa : Nat) (xc : Int32) (xe : Int32) (xf : Int32) (xg : Int32) (w : nc_H) : nc_Run m_X12_plan 128 [some (.inr (.inr (12, aa))), none, some (.inl xc), none, some (.inl xe), some (.inl xf), some (.inl xg), none] [] w =
  if xc ≤ xg then
    some (some (.inl xf), w)
  else
    nc_bI (nc_Call m_X12_digit [.inr (.inr (12, aa)), .inl xe, .inl xg, .inl xc] w) fun r2 w1 =>
    nc_bd 2 513 fun j3 =>
    if r2 ≠ (w1.1 874 aa j3) then
      nc_bd xg 3 fun j4 =>
      nc_lt (nc_si w1 895 aa j4 r2) fun w5 =>
      nc_li (xg + 1) fun x6 =>
      nc_Run m_X12_plan 128 [some (.inr (.inr (12, aa))), none, some (.inl xc), none, some (.inl xe), some (.inl xf), some (.inl x6), none] [] w5
    else
      nc_bd xg 3 fun j7 =>
      nc_lt (nc_si w1 895 aa j7 (-1)) fun w8 =>
      nc_li (xg + 1) fun x9 =>
      nc_Run m_X12_plan 128 [some (.inr (.inr (12, aa))), none, some (.inl xc), none, some (.inl xe), some (.inl xf), some (.inl x9), none] [] w8 :=
  (nc_Run_un [44, 80, 128] 24).trans rfl
set_option maxRecDepth 100000 in
theorem qc_X12_planAt (aa : Nat) (xb : Int32) (w : nc_H) : nc_Call m_X12_planAt [.inr (.inr (12, aa)), .inl xb] w =
  nc_lt (nc_si w 12 aa 0 0) fun w1 =>
  nc_bI (nc_Call m_X12_isIn [.inl xb, .inl 0, .inl ((w1.1 12 aa 28) - 1)] w1) fun r3 w2 =>
  if r3 = 0 then
    some (some (.inl (-1)), w2)
  else
    nc_bd xb 3 fun j4 =>
    some (some (.inl (w2.1 895 aa j4)), w2) :=
  (nc_Call_eq _ _ _).trans ((if_pos (Nat.le_of_ble_eq_true rfl)).trans ((nc_Run_un [] 17).trans rfl))
set_option maxRecDepth 100000 in
theorem qc_X12_allKnow (aa : Nat) (xb : Int32) (w : nc_H) : nc_Call m_X12_allKnow [.inr (.inr (12, aa)), .inl xb] w =
  nc_lt (nc_si w 12 aa 0 0) fun w1 =>
  nc_bI (nc_Call m_X12_isNews [.inr (.inr (12, aa)), .inl xb] w1) fun r3 w2 =>
  if r3 = 0 then
    some (some (.inl (-1)), w2)
  else
    nc_bd 1 513 fun j4 =>
    if (w2.1 874 aa j4) ≠ 0 then
      nc_bV (nc_Call m_X12_tries [.inr (.inr (12, aa))] w2) fun w5 =>
      nc_Run m_X12_allKnow 32 [some (.inr (.inr (12, aa))), some (.inl xb), some (.inl (-1)), some (.inl 0), none, none] [] w5
    else
      some (some (.inl (-1)), w2) :=
  (nc_Call_eq _ _ _).trans ((if_pos (Nat.le_of_ble_eq_true rfl)).trans ((nc_Run_un [32, 58] 19).trans rfl))
set_option maxRecDepth 100000 in
theorem qr_X12_allKnow_32 (aa : Nat) (xb : Int32) (xc : Int32) (xd : Int32) (w : nc_H) : nc_Run m_X12_allKnow 32 [some (.inr (.inr (12, aa))), some (.inl xb), some (.inl xc), some (.inl xd), none, none] [] w =
  if (200 : Int32) ≤ xd then
    nc_bV (nc_Call m_X12_back [.inr (.inr (12, aa))] w) fun w1 =>
    some (some (.inl xc), w1)
  else
    if (0 : Int32) ≤ xc then
      nc_bV (nc_Call m_X12_back [.inr (.inr (12, aa))] w) fun w2 =>
      some (some (.inl xc), w2)
    else
      nc_bI (nc_Call m_X12_goesOn [.inr (.inr (12, aa)), .inl 1] w) fun r4 w3 =>
      if r4 ≠ 1 then
        nc_bV (nc_Call m_X12_back [.inr (.inr (12, aa))] w3) fun w5 =>
        some (some (.inl xc), w5)
      else
        nc_Run m_X12_allKnow 58 [some (.inr (.inr (12, aa))), some (.inl xb), some (.inl xc), some (.inl xd), some (.inl 1), some (.inl 0)] [] w3 :=
  (nc_Run_un [32, 58] 15).trans rfl
set_option maxRecDepth 100000 in
theorem qr_X12_allKnow_58 (aa : Nat) (xb : Int32) (xc : Int32) (xd : Int32) (xe : Int32) (xf : Int32) (w : nc_H) : nc_Run m_X12_allKnow 58 [some (.inr (.inr (12, aa))), some (.inl xb), some (.inl xc), some (.inl xd), some (.inl xe), some (.inl xf)] [] w =
  nc_bd 1 513 fun j1 =>
  if (w.1 874 aa j1) ≤ xf then
    if xe = 0 then
      nc_li (xd + 1) fun x2 =>
      nc_Run m_X12_allKnow 32 [some (.inr (.inr (12, aa))), some (.inl xb), some (.inl xc), some (.inl x2), none, none] [] w
    else
      nc_bd 76 513 fun j3 =>
      nc_li ((w.1 874 aa j3) - 1) fun x4 =>
      nc_li (xd + 1) fun x5 =>
      nc_Run m_X12_allKnow 32 [some (.inr (.inr (12, aa))), some (.inl xb), some (.inl x4), some (.inl x5), none, none] [] w
  else
    if xe = 0 then
      nc_li (xf + 1) fun x6 =>
      nc_Run m_X12_allKnow 58 [some (.inr (.inr (12, aa))), some (.inl xb), some (.inl xc), some (.inl xd), some (.inl 0), some (.inl x6)] [] w
    else
      nc_bI (nc_Call m_X12_knows [.inr (.inr (12, aa)), .inl xf, .inl xb] w) fun r8 w7 =>
      if r8 = 0 then
        nc_li (xf + 1) fun x9 =>
        nc_Run m_X12_allKnow 58 [some (.inr (.inr (12, aa))), some (.inl xb), some (.inl xc), some (.inl xd), some (.inl 0), some (.inl x9)] [] w7
      else
        nc_li (xf + 1) fun x10 =>
        nc_Run m_X12_allKnow 58 [some (.inr (.inr (12, aa))), some (.inl xb), some (.inl xc), some (.inl xd), some (.inl 1), some (.inl x10)] [] w7 :=
  (nc_Run_un [32, 58] 19).trans rfl
set_option maxRecDepth 100000 in
theorem qc_X12_comes (aa : Nat) (xb : Int32) (xc : Int32) (xd : Int32) (w : nc_H) : nc_Call m_X12_comes [.inr (.inr (12, aa)), .inl xb, .inl xc, .inl xd] w =
  nc_li (1 <<< (xb &&& 31)) fun x1 =>
  nc_Run m_X12_comes 8 [some (.inr (.inr (12, aa))), none, some (.inl xc), some (.inl xd), some (.inl x1), some (.inl 0), none] [] w :=
  (nc_Call_eq _ _ _).trans ((if_pos (Nat.le_of_ble_eq_true rfl)).trans ((nc_Run_un [8, 17] 7).trans rfl))
set_option maxRecDepth 100000 in
theorem qr_X12_comes_8 (aa : Nat) (xc : Int32) (xd : Int32) (xe : Int32) (xf : Int32) (w : nc_H) : nc_Run m_X12_comes 8 [some (.inr (.inr (12, aa))), none, some (.inl xc), some (.inl xd), some (.inl xe), some (.inl xf), none] [] w =
  if (4 : Int32) ≤ xf then
    nc_bI (nc_Call m_X12_bitOf [.inl xe, .inl xc] w) fun r2 w1 =>
    nc_z r2 <| some (some (.inl r2), w1)
  else
    nc_Run m_X12_comes 17 [some (.inr (.inr (12, aa))), none, some (.inl xc), some (.inl xd), some (.inl xe), some (.inl xf), some (.inl 0)] [] w :=
  (nc_Run_un [8, 17] 7).trans rfl
set_option maxRecDepth 100000 in
theorem qr_X12_comes_17 (aa : Nat) (xc : Int32) (xd : Int32) (xe : Int32) (xf : Int32) (xg : Int32) (w : nc_H) : nc_Run m_X12_comes 17 [some (.inr (.inr (12, aa))), none, some (.inl xc), some (.inl xd), some (.inl xe), some (.inl xf), some (.inl xg)] [] w =
  nc_bd 3 513 fun j1 =>
  if (w.1 874 aa j1) ≤ xg then
    nc_li (xf + 1) fun x2 =>
    nc_Run m_X12_comes 8 [some (.inr (.inr (12, aa))), none, some (.inl xc), some (.inl xd), some (.inl xe), some (.inl x2), none] [] w
  else
    nc_bI (nc_Call m_X12_bitOf [.inl xd, .inl xg] w) fun r4 w3 =>
    if r4 ≠ 0 then
      nc_bd (58 + xg) 513 fun j5 =>
      nc_bI (nc_Call m_X12_bitOf [.inl xe, .inl (w3.1 874 aa j5)] w3) fun r7 w6 =>
      if r7 ≠ 0 then
        nc_bd (58 + xg) 513 fun j8 =>
        nc_bd (64 + xg) 513 fun j9 =>
        nc_li (xe ||| ((1 <<< ((w6.1 874 aa j8) &&& 31)) ||| (1 <<< ((w6.1 874 aa j9) &&& 31)))) fun x10 =>
        nc_li (xg + 1) fun x11 =>
        nc_Run m_X12_comes 17 [some (.inr (.inr (12, aa))), none, some (.inl xc), some (.inl xd), some (.inl x10), some (.inl xf), some (.inl x11)] [] w6
      else
        nc_bd (64 + xg) 513 fun j12 =>
        nc_bI (nc_Call m_X12_bitOf [.inl xe, .inl (w6.1 874 aa j12)] w6) fun r14 w13 =>
        if r14 = 0 then
          nc_li (xg + 1) fun x15 =>
          nc_Run m_X12_comes 17 [some (.inr (.inr (12, aa))), none, some (.inl xc), some (.inl xd), some (.inl xe), some (.inl xf), some (.inl x15)] [] w13
        else
          nc_bd (58 + xg) 513 fun j16 =>
          nc_bd (64 + xg) 513 fun j17 =>
          nc_li (xe ||| ((1 <<< ((w13.1 874 aa j16) &&& 31)) ||| (1 <<< ((w13.1 874 aa j17) &&& 31)))) fun x18 =>
          nc_li (xg + 1) fun x19 =>
          nc_Run m_X12_comes 17 [some (.inr (.inr (12, aa))), none, some (.inl xc), some (.inl xd), some (.inl x18), some (.inl xf), some (.inl x19)] [] w13
    else
      nc_li (xg + 1) fun x20 =>
      nc_Run m_X12_comes 17 [some (.inr (.inr (12, aa))), none, some (.inl xc), some (.inl xd), some (.inl xe), some (.inl xf), some (.inl x20)] [] w3 :=
  (nc_Run_un [8, 17] 51).trans rfl
set_option maxRecDepth 100000 in
theorem qc_X12_part (aa : Nat) (xb : Int32) (xc : Int32) (w : nc_H) : nc_Call m_X12_part [.inr (.inr (12, aa)), .inl xb, .inl xc] w =
  nc_lt (nc_si w 12 aa 0 0) fun w1 =>
  nc_bI (nc_Call m_X12_isFarm [.inr (.inr (12, aa)), .inl xb] w1) fun r3 w2 =>
  if r3 = 0 then
    some (some (.inl (-1)), w2)
  else
    nc_bI (nc_Call m_X12_isFarm [.inr (.inr (12, aa)), .inl xc] w2) fun r5 w4 =>
    if r5 = 0 then
      some (some (.inl (-1)), w4)
    else
      if xb ≠ xc then
        nc_bd 3 513 fun j6 =>
        nc_li ((1 <<< ((w4.1 874 aa j6) &&& 31)) - 1) fun x7 =>
        nc_Run m_X12_part 45 [some (.inr (.inr (12, aa))), some (.inl xb), some (.inl xc), some (.inl x7), some (.inl x7), some (.inl x7)] [] w4
      else
        some (some (.inl (-1)), w4) :=
  (nc_Call_eq _ _ _).trans ((if_pos (Nat.le_of_ble_eq_true rfl)).trans ((nc_Run_un [45] 28).trans rfl))
set_option maxRecDepth 100000 in
theorem qr_X12_part_45 (aa : Nat) (xb : Int32) (xc : Int32) (xd : Int32) (xe : Int32) (xf : Int32) (w : nc_H) : nc_Run m_X12_part 45 [some (.inr (.inr (12, aa))), some (.inl xb), some (.inl xc), some (.inl xd), some (.inl xe), some (.inl xf)] [] w =
  if xf < 0 then
    nc_lt (nc_si w 12 aa 30 1) fun w1 =>
    nc_lt (nc_si w1 12 aa 29 xe) fun w2 =>
    nc_bI (nc_Call m_X12_bits [.inl xe] w2) fun r4 w3 =>
    some (some (.inl r4), w3)
  else
    nc_bI (nc_Call m_X12_bits [.inl xf] w) fun r6 w5 =>
    nc_bI (nc_Call m_X12_bits [.inl xe] w5) fun r8 w7 =>
    if r8 < r6 then
      nc_li (xf + (-1)) fun x9 =>
      nc_Run m_X12_part 45 [some (.inr (.inr (12, aa))), some (.inl xb), some (.inl xc), some (.inl xd), some (.inl xe), some (.inl x9)] [] w7
    else
      nc_bI (nc_Call m_X12_comes [.inr (.inr (12, aa)), .inl xb, .inl xc, .inl (xd &&& (xf ^^^ (-1)))] w7) fun r11 w10 =>
      if r11 ≠ 0 then
        nc_li (xf + (-1)) fun x12 =>
        nc_Run m_X12_part 45 [some (.inr (.inr (12, aa))), some (.inl xb), some (.inl xc), some (.inl xd), some (.inl xe), some (.inl x12)] [] w10
      else
        nc_li (xf + (-1)) fun x13 =>
        nc_Run m_X12_part 45 [some (.inr (.inr (12, aa))), some (.inl xb), some (.inl xc), some (.inl xd), some (.inl xf), some (.inl x13)] [] w10 :=
  (nc_Run_un [45] 22).trans rfl
set_option maxRecDepth 100000 in
theorem qc_X12_tasted (aa : Nat) (xb : Int32) (w : nc_H) : nc_Call m_X12_tasted [.inr (.inr (12, aa)), .inl xb] w =
  nc_lt (nc_si w 12 aa 0 0) fun w1 =>
  nc_bV (nc_Call m_X12_taken [.inr (.inr (12, aa)), .inl 940] w1) fun w2 =>
  nc_bI (nc_Call m_X12_isCow [.inr (.inr (12, aa)), .inl xb] w2) fun r4 w3 =>
  if r4 = 0 then
    some (some (.inl (-1)), w3)
  else
    nc_bI (nc_Call m_X12_isDry [.inr (.inr (12, aa)), .inl xb] w3) fun r6 w5 =>
    if r6 ≠ 0 then
      some (some (.inl (-1)), w5)
    else
      if (w5.1 12 aa 3) = 1 then
        nc_bd 2 513 fun j7 =>
        nc_li ((1 <<< ((w5.1 874 aa j7) &&& 31)) - 1) fun x8 =>
        nc_Run m_X12_tasted 54 [some (.inr (.inr (12, aa))), some (.inl xb), some (.inl 0), some (.inl x8), some (.inl 0), none] [] w5
      else
        some (some (.inl (-1)), w5) :=
  (nc_Call_eq _ _ _).trans ((if_pos (Nat.le_of_ble_eq_true rfl)).trans ((nc_Run_un [54, 78, 130, 202] 32).trans rfl))
set_option maxRecDepth 100000 in
theorem qr_X12_tasted_54 (aa : Nat) (xb : Int32) (xc : Int32) (xd : Int32) (xe : Int32) (w : nc_H) : nc_Run m_X12_tasted 54 [some (.inr (.inr (12, aa))), some (.inl xb), some (.inl xc), some (.inl xd), some (.inl xe), none] [] w =
  if (10 : Int32) ≤ xe then
    nc_Run m_X12_tasted 78 [some (.inr (.inr (12, aa))), some (.inl xb), some (.inl xc), some (.inl xd), some (.inl 0), none] [] w
  else
    nc_bd xe 10 fun j1 =>
    nc_lt (nc_si w 902 aa j1 0) fun w2 =>
    nc_li (xe + 1) fun x3 =>
    nc_Run m_X12_tasted 54 [some (.inr (.inr (12, aa))), some (.inl xb), some (.inl xc), some (.inl xd), some (.inl x3), none] [] w2 :=
  (nc_Run_un [54, 78, 130, 202] 11).trans rfl
set_option maxRecDepth 100000 in
theorem qr_X12_tasted_78 (aa : Nat) (xb : Int32) (xc : Int32) (xd : Int32) (xe : Int32) (w : nc_H) : nc_Run m_X12_tasted 78 [some (.inr (.inr (12, aa))), some (.inl xb), some (.inl xc), some (.inl xd), some (.inl xe), none] [] w =
  nc_bd 2 513 fun j1 =>
  if (1 <<< ((w.1 874 aa j1) &&& 31)) ≤ xe then
    if xc ≠ 0 then
      nc_lt (nc_si w 12 aa 33 1) fun w2 =>
      nc_lt (nc_si w2 12 aa 31 xd) fun w3 =>
      nc_lt (nc_si w3 12 aa 32 (-1)) fun w4 =>
      nc_Run m_X12_tasted 202 [some (.inr (.inr (12, aa))), none, some (.inl xc), none, some (.inl 0), none] [] w4
    else
      some (some (.inl 0), w)
  else
    nc_bI (nc_Call m_X12_mayHear [.inr (.inr (12, aa)), .inl xb, .inl xe] w) fun r6 w5 =>
    if r6 = 0 then
      nc_li (xe + 1) fun x7 =>
      nc_Run m_X12_tasted 78 [some (.inr (.inr (12, aa))), some (.inl xb), some (.inl xc), some (.inl xd), some (.inl x7), none] [] w5
    else
      nc_bI (nc_Call m_X12_milkWith [.inr (.inr (12, aa)), .inl xb, .inl xe] w5) fun r9 w8 =>
      nc_bI (nc_Call m_X12_octet [.inr (.inr (12, aa)), .inl 0] w8) fun r11 w10 =>
      if r9 = r11 then
        nc_li (xc + 1) fun x12 =>
        nc_li (xd &&& xe) fun x13 =>
        nc_Run m_X12_tasted 130 [some (.inr (.inr (12, aa))), some (.inl xb), some (.inl x12), some (.inl x13), some (.inl xe), some (.inl 0)] [] w10
      else
        nc_li (xe + 1) fun x14 =>
        nc_Run m_X12_tasted 78 [some (.inr (.inr (12, aa))), some (.inl xb), some (.inl xc), some (.inl xd), some (.inl x14), none] [] w10 :=
  (nc_Run_un [54, 78, 130, 202] 29).trans rfl
set_option maxRecDepth 100000 in
theorem qr_X12_tasted_202 (aa : Nat) (xc : Int32) (xe : Int32) (w : nc_H) : nc_Run m_X12_tasted 202 [some (.inr (.inr (12, aa))), none, some (.inl xc), none, some (.inl xe), none] [] w =
  nc_bd 2 513 fun j1 =>
  if (w.1 874 aa j1) ≤ xe then
    some (some (.inl xc), w)
  else
    if (w.1 12 aa 32) < 0 then
      nc_lt (nc_si w 12 aa 32 xe) fun w2 =>
      nc_li (xe + 1) fun x3 =>
      nc_Run m_X12_tasted 202 [some (.inr (.inr (12, aa))), none, some (.inl xc), none, some (.inl x3), none] [] w2
    else
      nc_bd xe 10 fun j4 =>
      nc_bI (nc_Call m_X12_absolute [.inl (xc - (2 * (w.1 902 aa j4)))] w) fun r6 w5 =>
      nc_bd (w5.1 12 aa 32) 10 fun j7 =>
      nc_bI (nc_Call m_X12_absolute [.inl (xc - (2 * (w5.1 902 aa j7)))] w5) fun r9 w8 =>
      if r9 ≤ r6 then
        nc_li (xe + 1) fun x10 =>
        nc_Run m_X12_tasted 202 [some (.inr (.inr (12, aa))), none, some (.inl xc), none, some (.inl x10), none] [] w8
      else
        nc_lt (nc_si w8 12 aa 32 xe) fun w11 =>
        nc_li (xe + 1) fun x12 =>
        nc_Run m_X12_tasted 202 [some (.inr (.inr (12, aa))), none, some (.inl xc), none, some (.inl x12), none] [] w11 :=
  (nc_Run_un [54, 78, 130, 202] 35).trans rfl
set_option maxRecDepth 100000 in
theorem qr_X12_tasted_130 (aa : Nat) (xb : Int32) (xc : Int32) (xd : Int32) (xe : Int32) (xf : Int32) (w : nc_H) : nc_Run m_X12_tasted 130 [some (.inr (.inr (12, aa))), some (.inl xb), some (.inl xc), some (.inl xd), some (.inl xe), some (.inl xf)] [] w =
  nc_bd 2 513 fun j1 =>
  if (w.1 874 aa j1) ≤ xf then
    nc_li (xe + 1) fun x2 =>
    nc_Run m_X12_tasted 78 [some (.inr (.inr (12, aa))), some (.inl xb), some (.inl xc), some (.inl xd), some (.inl x2), none] [] w
  else
    nc_bd xf 10 fun j3 =>
    nc_bI (nc_Call m_X12_bitOf [.inl xe, .inl xf] w) fun r5 w4 =>
    if r5 = 0 then
      nc_bd xf 10 fun j6 =>
      nc_lt (nc_si w4 902 aa j6 ((w.1 902 aa j3) + 0)) fun w7 =>
      nc_li (xf + 1) fun x8 =>
      nc_Run m_X12_tasted 130 [some (.inr (.inr (12, aa))), some (.inl xb), some (.inl xc), some (.inl xd), some (.inl xe), some (.inl x8)] [] w7
    else
      nc_bd xf 10 fun j9 =>
      nc_lt (nc_si w4 902 aa j9 ((w.1 902 aa j3) + 1)) fun w10 =>
      nc_li (xf + 1) fun x11 =>
      nc_Run m_X12_tasted 130 [some (.inr (.inr (12, aa))), some (.inl xb), some (.inl xc), some (.inl xd), some (.inl xe), some (.inl x11)] [] w10 :=
  (nc_Run_un [54, 78, 130, 202] 22).trans rfl
set_option maxRecDepth 100000 in
theorem qc_X12_dries (aa : Nat) (xb : Int32) (w : nc_H) : nc_Call m_X12_dries [.inr (.inr (12, aa)), .inl xb] w =
  nc_lt (nc_si w 12 aa 0 0) fun w1 =>
  nc_bI (nc_Call m_X12_isNews [.inr (.inr (12, aa)), .inl xb] w1) fun r3 w2 =>
  if r3 = 0 then
    some (some (.inl (-1)), w2)
  else
    nc_bI (nc_Call m_X12_whyFind [.inr (.inr (12, aa)), .inl xb] w2) fun r5 w4 =>
    if r5 ≠ 0 then
      some (some (.inl (-1)), w4)
    else
      nc_bI (nc_Call m_X12_driedBy [.inr (.inr (12, aa)), .inl xb] w4) fun r7 w6 =>
      some (some (.inl r7), w6) :=
  (nc_Call_eq _ _ _).trans ((if_pos (Nat.le_of_ble_eq_true rfl)).trans ((nc_Run_un [] 16).trans rfl))
set_option maxRecDepth 100000 in
theorem qc_X12_isPast (aa : Nat) (xb : Int32) (w : nc_H) : nc_Call m_X12_isPast [.inr (.inr (12, aa)), .inl xb] w =
  nc_bd 76 513 fun j1 =>
  nc_bI (nc_Call m_X12_greater [.inl 0, .inl ((w.1 874 aa j1) - 30)] w) fun r3 w2 =>
  nc_bd 76 513 fun j4 =>
  nc_bI (nc_Call m_X12_isIn [.inl xb, .inl r3, .inl ((w2.1 874 aa j4) - 1)] w2) fun r6 w5 =>
  nc_z r6 <| some (some (.inl r6), w5) :=
  (nc_Call_eq _ _ _).trans ((if_pos (Nat.le_of_ble_eq_true rfl)).trans ((nc_Run_un [] 17).trans rfl))
set_option maxRecDepth 100000 in
theorem qc_X12_week (aa : Nat) (xb : Int32) (w : nc_H) : nc_Call m_X12_week [.inr (.inr (12, aa)), .inl xb] w =
  nc_lt (nc_si w 12 aa 0 0) fun w1 =>
  nc_bV (nc_Call m_X12_taken [.inr (.inr (12, aa)), .inl 940] w1) fun w2 =>
  nc_bI (nc_Call m_X12_isFarm [.inr (.inr (12, aa)), .inl xb] w2) fun r4 w3 =>
  if r4 = 0 then
    some (some (.inl (-1)), w3)
  else
    nc_bI (nc_Call m_X12_isIn [.inl (w3.1 12 aa 3), .inl 1, .inl 7] w3) fun r6 w5 =>
    if r6 ≠ 0 then
      nc_bd 76 513 fun j7 =>
      nc_bI (nc_Call m_X12_greater [.inl 0, .inl ((w5.1 874 aa j7) - 30)] w5) fun r9 w8 =>
      nc_Run m_X12_week 50 [some (.inr (.inr (12, aa))), some (.inl xb), some (.inl r9), none, none] [] w8
    else
      some (some (.inl (-1)), w5) :=
  (nc_Call_eq _ _ _).trans ((if_pos (Nat.le_of_ble_eq_true rfl)).trans ((nc_Run_un [50, 71] 26).trans rfl))
set_option maxRecDepth 100000 in
theorem qr_X12_week_50 (aa : Nat) (xb : Int32) (xc : Int32) (w : nc_H) : nc_Run m_X12_week 50 [some (.inr (.inr (12, aa))), some (.inl xb), some (.inl xc), none, none] [] w =
  nc_bd 76 513 fun j1 =>
  if (w.1 874 aa j1) < (xc + (w.1 12 aa 3)) then
    some (some (.inl (-1)), w)
  else
    nc_Run m_X12_week 71 [some (.inr (.inr (12, aa))), some (.inl xb), some (.inl xc), some (.inl 1), some (.inl 0)] [] w :=
  (nc_Run_un [50, 71] 14).trans rfl
set_option maxRecDepth 100000 in
theorem qr_X12_week_71 (aa : Nat) (xb : Int32) (xc : Int32) (xd : Int32) (xe : Int32) (w : nc_H) : nc_Run m_X12_week 71 [some (.inr (.inr (12, aa))), some (.inl xb), some (.inl xc), some (.inl xd), some (.inl xe)] [] w =
  if (w.1 12 aa 3) ≤ xe then
    if xd = 0 then
      nc_li (xc + 1) fun x1 =>
      nc_Run m_X12_week 50 [some (.inr (.inr (12, aa))), some (.inl xb), some (.inl x1), none, none] [] w
    else
      some (some (.inl xc), w)
  else
    if xd = 0 then
      nc_li (xe + 1) fun x2 =>
      nc_Run m_X12_week 71 [some (.inr (.inr (12, aa))), some (.inl xb), some (.inl xc), some (.inl 0), some (.inl x2)] [] w
    else
      nc_bd ((212 + (30 * xb)) + ((xc + xe) - (xc + xe) / 30 * 30)) 513 fun j3 =>
      nc_bI (nc_Call m_X12_octet [.inr (.inr (12, aa)), .inl xe] w) fun r5 w4 =>
      if (w.1 874 aa j3) ≠ r5 then
        nc_li (xe + 1) fun x6 =>
        nc_Run m_X12_week 71 [some (.inr (.inr (12, aa))), some (.inl xb), some (.inl xc), some (.inl 0), some (.inl x6)] [] w4
      else
        nc_li (xe + 1) fun x7 =>
        nc_Run m_X12_week 71 [some (.inr (.inr (12, aa))), some (.inl xb), some (.inl xc), some (.inl 1), some (.inl x7)] [] w4 :=
  (nc_Run_un [50, 71] 30).trans rfl
set_option maxRecDepth 100000 in
theorem qc_X12_pails (aa : Nat) (xb : Int32) (xc : Int32) (w : nc_H) : nc_Call m_X12_pails [.inr (.inr (12, aa)), .inl xb, .inl xc] w =
  nc_lt (nc_si w 12 aa 0 0) fun w1 =>
  nc_bI (nc_Call m_X12_isFarm [.inr (.inr (12, aa)), .inl xb] w1) fun r3 w2 =>
  if r3 = 0 then
    some (some (.inl (-1)), w2)
  else
    nc_bI (nc_Call m_X12_isPast [.inr (.inr (12, aa)), .inl xc] w2) fun r5 w4 =>
    if r5 = 0 then
      some (some (.inl (-1)), w4)
    else
      nc_bd ((212 + (30 * xb)) + (xc - xc / 30 * 30)) 513 fun j6 =>
      some (some (.inl (w4.1 874 aa j6)), w4) :=
  (nc_Call_eq _ _ _).trans ((if_pos (Nat.le_of_ble_eq_true rfl)).trans ((nc_Run_un [] 25).trans rfl))
set_option maxRecDepth 100000 in
theorem qc_X12_ahead (aa : Nat) (xb : Int32) (w : nc_H) : nc_Call m_X12_ahead [.inr (.inr (12, aa)), .inl xb] w =
  nc_lt (nc_si w 12 aa 0 0) fun w1 =>
  nc_bI (nc_Call m_X12_isIn [.inl xb, .inl 1, .inl 60] w1) fun r3 w2 =>
  if r3 ≠ 0 then
    nc_bV (nc_Call m_X12_tries [.inr (.inr (12, aa))] w2) fun w4 =>
    nc_bI (nc_Call m_X12_allPails [.inr (.inr (12, aa))] w4) fun r6 w5 =>
    nc_bI (nc_Call m_X12_goesOn [.inr (.inr (12, aa)), .inl xb] w5) fun r8 w7 =>
    nc_bI (nc_Call m_X12_allPails [.inr (.inr (12, aa))] w7) fun r10 w9 =>
    nc_li (r10 - r6) fun x11 =>
    nc_bV (nc_Call m_X12_back [.inr (.inr (12, aa))] w9) fun w12 =>
    some (some (.inl x11), w12)
  else
    some (some (.inl (-1)), w2) :=
  (nc_Call_eq _ _ _).trans ((if_pos (Nat.le_of_ble_eq_true rfl)).trans ((nc_Run_un [] 26).trans rfl))
set_option maxRecDepth 100000 in
theorem qc_X12_draws (aa : Nat) (xb : Int32) (xc : Int32) (w : nc_H) : nc_Call m_X12_draws [.inr (.inr (12, aa)), .inl xb, .inl xc] w =
  nc_lt (nc_si w 12 aa 35 xc) fun w1 =>
  nc_Run m_X12_draws 7 [some (.inr (.inr (12, aa))), some (.inl xb), none, some (.inl 0), none, none] [] w1 :=
  (nc_Call_eq _ _ _).trans ((if_pos (Nat.le_of_ble_eq_true rfl)).trans ((nc_Run_un [7, 28] 6).trans rfl))
set_option maxRecDepth 100000 in
theorem qr_X12_draws_7 (aa : Nat) (xb : Int32) (xd : Int32) (w : nc_H) : nc_Run m_X12_draws 7 [some (.inr (.inr (12, aa))), some (.inl xb), none, some (.inl xd), none, none] [] w =
  if xb ≤ xd then
    some (some (.inl xd), w)
  else
    nc_bd 76 513 fun j1 =>
    if (400 : Int32) ≤ (w.1 874 aa j1) then
      some (some (.inl xd), w)
    else
      nc_Run m_X12_draws 28 [some (.inr (.inr (12, aa))), some (.inl xb), none, some (.inl xd), some (.inl 0), none] [] w :=
  (nc_Run_un [7, 28] 12).trans rfl
set_option maxRecDepth 100000 in
theorem qr_X12_draws_28 (aa : Nat) (xb : Int32) (xd : Int32) (xe : Int32) (w : nc_H) : nc_Run m_X12_draws 28 [some (.inr (.inr (12, aa))), some (.inl xb), none, some (.inl xd), some (.inl xe), none] [] w =
  nc_bd 1 513 fun j1 =>
  if (w.1 874 aa j1) ≤ xe then
    nc_bI (nc_Call m_X12_draw [.inr (.inr (12, aa)), .inl 12] w) fun r3 w2 =>
    if r3 ≠ 0 then
      nc_bV (nc_Call m_X12_day [.inr (.inr (12, aa))] w2) fun w4 =>
      nc_li (xd + 1) fun x5 =>
      nc_Run m_X12_draws 7 [some (.inr (.inr (12, aa))), some (.inl xb), none, some (.inl x5), none, none] [] w4
    else
      nc_bd 2 513 fun j6 =>
      nc_bI (nc_Call m_X12_draw [.inr (.inr (12, aa)), .inl (w2.1 874 aa j6)] w2) fun r8 w7 =>
      nc_bI (nc_Call m_X12_whyFind [.inr (.inr (12, aa)), .inl r8] w7) fun r10 w9 =>
      if r10 ≠ 0 then
        nc_bV (nc_Call m_X12_day [.inr (.inr (12, aa))] w9) fun w11 =>
        nc_li (xd + 1) fun x12 =>
        nc_Run m_X12_draws 7 [some (.inr (.inr (12, aa))), some (.inl xb), none, some (.inl x12), none, none] [] w11
      else
        nc_bV (nc_Call m_X12_finds [.inr (.inr (12, aa)), .inl r8] w9) fun w13 =>
        nc_bV (nc_Call m_X12_day [.inr (.inr (12, aa))] w13) fun w14 =>
        nc_li (xd + 1) fun x15 =>
        nc_Run m_X12_draws 7 [some (.inr (.inr (12, aa))), some (.inl xb), none, some (.inl x15), none, none] [] w14
  else
    nc_bI (nc_Call m_X12_draw [.inr (.inr (12, aa)), .inl 3] w) fun r17 w16 =>
    if r17 ≤ 0 then
      nc_bd 2 513 fun j18 =>
      nc_bI (nc_Call m_X12_draw [.inr (.inr (12, aa)), .inl (w16.1 874 aa j18)] w16) fun r20 w19 =>
      nc_bI (nc_Call m_X12_whyTell [.inr (.inr (12, aa)), .inl xe, .inl r20] w19) fun r22 w21 =>
      if r22 ≠ 0 then
        nc_li (xe + 1) fun x23 =>
        nc_Run m_X12_draws 28 [some (.inr (.inr (12, aa))), some (.inl xb), none, some (.inl xd), some (.inl x23), none] [] w21
      else
        nc_bV (nc_Call m_X12_tells [.inr (.inr (12, aa)), .inl xe, .inl r20] w21) fun w24 =>
        nc_li (xe + 1) fun x25 =>
        nc_Run m_X12_draws 28 [some (.inr (.inr (12, aa))), some (.inl xb), none, some (.inl xd), some (.inl x25), none] [] w24
    else
      nc_li (xe + 1) fun x26 =>
      nc_Run m_X12_draws 28 [some (.inr (.inr (12, aa))), some (.inl xb), none, some (.inl xd), some (.inl x26), none] [] w16 :=
  (nc_Run_un [7, 28] 29).trans rfl
set_option maxRecDepth 100000 in
theorem qc_X12_drawn (aa : Nat) (xb : Int32) (xc : Int32) (w : nc_H) : nc_Call m_X12_drawn [.inr (.inr (12, aa)), .inl xb, .inl xc] w =
  nc_lt (nc_si w 12 aa 0 0) fun w1 =>
  nc_bI (nc_Call m_X12_isIn [.inl xb, .inl 1, .inl 60] w1) fun r3 w2 =>
  if r3 = 0 then
    some (some (.inl (-1)), w2)
  else
    nc_bd 2 513 fun j4 =>
    if (w2.1 874 aa j4) ≠ 0 then
      nc_bd 76 513 fun j5 =>
      if (400 : Int32) ≤ (w2.1 874 aa j5) then
        nc_bI (nc_Call m_X12_draws [.inr (.inr (12, aa)), .inl xb, .inl xc] w2) fun r7 w6 =>
        some (some (.inl r7), w6)
      else
        nc_bV (nc_Call m_X12_keep [.inr (.inr (12, aa))] w2) fun w8 =>
        nc_bI (nc_Call m_X12_draws [.inr (.inr (12, aa)), .inl xb, .inl xc] w8) fun r10 w9 =>
        some (some (.inl r10), w9)
    else
      some (some (.inl (-1)), w2) :=
  (nc_Call_eq _ _ _).trans ((if_pos (Nat.le_of_ble_eq_true rfl)).trans ((nc_Run_un [] 26).trans rfl))
set_option maxRecDepth 100000 in
theorem qc_X12_odds (aa : Nat) (xb : Int32) (xc : Int32) (xd : Int32) (w : nc_H) : nc_Call m_X12_odds [.inr (.inr (12, aa)), .inl xb, .inl xc, .inl xd] w =
  nc_lt (nc_si w 12 aa 0 0) fun w1 =>
  nc_bI (nc_Call m_X12_isCow [.inr (.inr (12, aa)), .inl xb] w1) fun r3 w2 =>
  if r3 = 0 then
    some (some (.inl (-1)), w2)
  else
    nc_bI (nc_Call m_X12_isIn [.inl xc, .inl 1, .inl 30] w2) fun r5 w4 =>
    if r5 = 0 then
      some (some (.inl (-1)), w4)
    else
      nc_bd 2 513 fun j6 =>
      if (w4.1 874 aa j6) ≠ 0 then
        nc_bV (nc_Call m_X12_tries [.inr (.inr (12, aa))] w4) fun w7 =>
        nc_Run m_X12_odds 44 [some (.inr (.inr (12, aa))), some (.inl xb), some (.inl xc), some (.inl xd), some (.inl 0), some (.inl 0)] [] w7
      else
        some (some (.inl (-1)), w4) :=
  (nc_Call_eq _ _ _).trans ((if_pos (Nat.le_of_ble_eq_true rfl)).trans ((nc_Run_un [44] 24).trans rfl))
set_option maxRecDepth 100000 in
theorem qr_X12_odds_44 (aa : Nat) (xb : Int32) (xc : Int32) (xd : Int32) (xe : Int32) (xf : Int32) (w : nc_H) : nc_Run m_X12_odds 44 [some (.inr (.inr (12, aa))), some (.inl xb), some (.inl xc), some (.inl xd), some (.inl xe), some (.inl xf)] [] w =
  if xc ≤ xf then
    some (some (.inl xe), w)
  else
    nc_bI (nc_Call m_X12_draws [.inr (.inr (12, aa)), .inl 20, .inl (xd + xf)] w) fun r2 w1 =>
    nc_bI (nc_Call m_X12_isDry [.inr (.inr (12, aa)), .inl xb] w1) fun r4 w3 =>
    if r4 = 0 then
      nc_li (xe + 0) fun x5 =>
      nc_bV (nc_Call m_X12_back [.inr (.inr (12, aa))] w3) fun w6 =>
      nc_li (xf + 1) fun x7 =>
      nc_Run m_X12_odds 44 [some (.inr (.inr (12, aa))), some (.inl xb), some (.inl xc), some (.inl xd), some (.inl x5), some (.inl x7)] [] w6
    else
      nc_li (xe + 1) fun x8 =>
      nc_bV (nc_Call m_X12_back [.inr (.inr (12, aa))] w3) fun w9 =>
      nc_li (xf + 1) fun x10 =>
      nc_Run m_X12_odds 44 [some (.inr (.inr (12, aa))), some (.inl xb), some (.inl xc), some (.inl xd), some (.inl x8), some (.inl x10)] [] w9 :=
  (nc_Run_un [44] 24).trans rfl
set_option maxRecDepth 100000 in
theorem qc_X12_bookLine (aa : Nat) (w : nc_H) : nc_Call m_X12_bookLine [.inr (.inr (12, aa))] w =
  nc_li (3 * (w.1 12 aa 36)) fun x1 =>
  nc_bI (nc_Call m_X12_isWord [.inr (.inr (12, aa)), .inr (.inl 439956631140)] w) fun r3 w2 =>
  nc_bI (nc_Call m_X12_isWord [.inr (.inr (12, aa)), .inr (.inl 6578553)] w2) fun r5 w4 =>
  if r3 ≠ 0 then
    nc_Run m_X12_bookLine 47 [some (.inr (.inr (12, aa))), some (.inl x1), some (.inl r3), some (.inl r5)] [] w4
  else
    if r5 ≠ 0 then
      nc_Run m_X12_bookLine 47 [some (.inr (.inr (12, aa))), some (.inl x1), some (.inl r3), some (.inl r5)] [] w4
    else
      nc_bd 1 513 fun j6 =>
      nc_bI (nc_Call m_X12_looksAt [.inr (.inr (12, aa)), .inl 4, .inl (w4.1 874 aa j6)] w4) fun r8 w7 =>
      if r8 ≠ 0 then
        nc_Run m_X12_bookLine 47 [some (.inr (.inr (12, aa))), some (.inl x1), some (.inl r3), some (.inl r5)] [] w7
      else
        some (some (.inl 0), w7) :=
  (nc_Call_eq _ _ _).trans ((if_pos (Nat.le_of_ble_eq_true rfl)).trans ((nc_Run_un [47, 84] 27).trans rfl))
set_option maxRecDepth 100000 in
theorem qr_X12_bookLine_47 (aa : Nat) (xb : Int32) (xc : Int32) (xd : Int32) (w : nc_H) : nc_Run m_X12_bookLine 47 [some (.inr (.inr (12, aa))), some (.inl xb), some (.inl xc), some (.inl xd)] [] w =
  if (w.1 12 aa 36) ≠ 40 then
    if xc = 0 then
      if xd = 0 then
        nc_Run m_X12_bookLine 84 [some (.inr (.inr (12, aa))), some (.inl xb), some (.inl xc), some (.inl xd)] [.inl 0, .inl xb, .inr (.inr (876, aa))] w
      else
        nc_Run m_X12_bookLine 84 [some (.inr (.inr (12, aa))), some (.inl xb), some (.inl xc), some (.inl xd)] [.inl 2, .inl xb, .inr (.inr (876, aa))] w
    else
      nc_Run m_X12_bookLine 84 [some (.inr (.inr (12, aa))), some (.inl xb), some (.inl xc), some (.inl xd)] [.inl 1, .inl xb, .inr (.inr (876, aa))] w
  else
    nc_bI (nc_Call m_X12_bad [.inr (.inr (12, aa)), .inl 4] w) fun r2 w1 =>
    nc_z r2 <| some (some (.inl r2), w1) :=
  (nc_Run_un [47, 84] 14).trans rfl
set_option maxRecDepth 100000 in
theorem qr_X12_bookLine_84 (aa : Nat) (xb : Int32) (xc : Int32) (xd : Int32) (za : Int32) (zb : Int32) (bc : Nat) (w : nc_H) : nc_Run m_X12_bookLine 84 [some (.inr (.inr (12, aa))), some (.inl xb), some (.inl xc), some (.inl xd)] [.inl za, .inl zb, .inr (.inr (876, bc))] w =
  nc_bd zb 135 fun j1 =>
  nc_lt (nc_si w 876 bc j1 za) fun w2 =>
  nc_bd (xb + 1) 135 fun j3 =>
  nc_lt (nc_si w2 876 aa j3 (w2.1 12 aa 18)) fun w4 =>
  nc_bV (nc_Call m_X12_next [.inr (.inr (12, aa))] w4) fun w5 =>
  if xd = 0 then
    if xc ≠ 0 then
      nc_bd 2 513 fun j6 =>
      nc_bI (nc_Call m_X12_takesName [.inr (.inr (12, aa)), .inl 12, .inl (w5.1 874 aa j6)] w5) fun r8 w7 =>
      if r8 ≠ 0 then
        nc_bd (xb + 2) 135 fun j9 =>
        nc_lt (nc_si w7 876 aa j9 (w7.1 12 aa 18)) fun w10 =>
        some (some (.inl 1), w10)
      else
        some (some (.inl 0), w7)
    else
      nc_bI (nc_Call m_X12_isWord [.inr (.inr (12, aa)), .inr (.inl 448377483891)] w5) fun r12 w11 =>
      if r12 ≠ 0 then
        nc_bV (nc_Call m_X12_next [.inr (.inr (12, aa))] w11) fun w13 =>
        nc_bd 2 513 fun j14 =>
        nc_bI (nc_Call m_X12_takesName [.inr (.inr (12, aa)), .inl 12, .inl (w13.1 874 aa j14)] w13) fun r16 w15 =>
        if r16 ≠ 0 then
          nc_bd (xb + 2) 135 fun j17 =>
          nc_lt (nc_si w15 876 aa j17 (w15.1 12 aa 18)) fun w18 =>
          some (some (.inl 1), w18)
        else
          some (some (.inl 0), w15)
      else
        nc_bI (nc_Call m_X12_bad [.inr (.inr (12, aa)), .inl 1] w11) fun r20 w19 =>
        nc_z r20 <| some (some (.inl r20), w19)
  else
    nc_bI (nc_Call m_X12_takes [.inr (.inr (12, aa)), .inl 1, .inl 60] w5) fun r22 w21 =>
    if r22 ≠ 0 then
      nc_bd (xb + 1) 135 fun j23 =>
      nc_lt (nc_si w21 876 aa j23 (w21.1 12 aa 18)) fun w24 =>
      some (some (.inl 1), w24)
    else
      some (some (.inl 0), w21) :=
  (nc_Run_un [47, 84] 39).trans rfl
set_option maxRecDepth 100000 in
theorem qc_X12_does (aa : Nat) (xb : Int32) (xc : Int32) (xd : Int32) (w : nc_H) : nc_Call m_X12_does [.inr (.inr (12, aa)), .inl xb, .inl xc, .inl xd] w =
  if xb ≠ 2 then
    if xb ≠ 0 then
      nc_bI (nc_Call m_X12_whyFind [.inr (.inr (12, aa)), .inl xd] w) fun r2 w1 =>
      if r2 ≤ 0 then
        if xb ≠ 0 then
          nc_bV (nc_Call m_X12_finds [.inr (.inr (12, aa)), .inl xd] w1) fun w3 =>
          some (some (.inl 0), w3)
        else
          nc_bV (nc_Call m_X12_tells [.inr (.inr (12, aa)), .inl xc, .inl xd] w1) fun w4 =>
          some (some (.inl 0), w4)
      else
        some (some (.inl ((10 * xb) + r2)), w1)
    else
      nc_bI (nc_Call m_X12_whyTell [.inr (.inr (12, aa)), .inl xc, .inl xd] w) fun r6 w5 =>
      if r6 ≤ 0 then
        if xb ≠ 0 then
          nc_bV (nc_Call m_X12_finds [.inr (.inr (12, aa)), .inl xd] w5) fun w7 =>
          some (some (.inl 0), w7)
        else
          nc_bV (nc_Call m_X12_tells [.inr (.inr (12, aa)), .inl xc, .inl xd] w5) fun w8 =>
          some (some (.inl 0), w8)
      else
        some (some (.inl ((10 * xb) + r6)), w5)
  else
    nc_bd 76 513 fun j9 =>
    if ((w.1 874 aa j9) + xc) ≤ 400 then
      nc_bI (nc_Call m_X12_goesOn [.inr (.inr (12, aa)), .inl xc] w) fun r11 w10 =>
      some (some (.inl 0), w10)
    else
      some (some (.inl 21), w) :=
  (nc_Call_eq _ _ _).trans ((if_pos (Nat.le_of_ble_eq_true rfl)).trans ((nc_Run_un [] 22).trans rfl))
set_option maxRecDepth 100000 in
theorem qc_X12_book (aa : Nat) (xb : Int32) (w : nc_H) : nc_Call m_X12_book [.inr (.inr (12, aa)), .inl xb] w =
  nc_lt (nc_si w 12 aa 0 0) fun w1 =>
  nc_bI (nc_Call m_X12_isIn [.inl xb, .inl 0, .inl 1] w1) fun r3 w2 =>
  if r3 ≠ 0 then
    nc_bV (nc_Call m_X12_taken [.inr (.inr (12, aa)), .inl 400] w2) fun w4 =>
    nc_lt (nc_si w4 12 aa 15 0) fun w5 =>
    nc_lt (nc_si w5 12 aa 36 0) fun w6 =>
    nc_bV (nc_Call m_X12_next [.inr (.inr (12, aa))] w6) fun w7 =>
    nc_Run m_X12_book 39 [some (.inr (.inr (12, aa))), some (.inl xb), none, none] [] w7
  else
    some (some (.inl (-1000)), w2) :=
  (nc_Call_eq _ _ _).trans ((if_pos (Nat.le_of_ble_eq_true rfl)).trans ((nc_Run_un [39, 89, 111, 242] 20).trans rfl))
set_option maxRecDepth 100000 in
theorem qr_X12_book_39 (aa : Nat) (xb : Int32) (w : nc_H) : nc_Run m_X12_book 39 [some (.inr (.inr (12, aa))), some (.inl xb), none, none] [] w =
  if (w.1 12 aa 11) = 0 then
    nc_bV (nc_Call m_X12_tries [.inr (.inr (12, aa))] w) fun w1 =>
    nc_Run m_X12_book 89 [some (.inr (.inr (12, aa))), some (.inl xb), some (.inl 0), none] [] w1
  else
    nc_bI (nc_Call m_X12_bookLine [.inr (.inr (12, aa))] w) fun r3 w2 =>
    if r3 = 0 then
      some (some (.inl ((-2) - (w2.1 12 aa 16))), w2)
    else
      nc_bI (nc_Call m_X12_sign [.inr (.inr (12, aa)), .inl 59] w2) fun r5 w4 =>
      if r5 ≠ 0 then
        nc_lt (nc_si w4 12 aa 36 ((w4.1 12 aa 36) + 1)) fun w6 =>
        nc_Run m_X12_book 39 [some (.inr (.inr (12, aa))), some (.inl xb), none, none] [] w6
      else
        some (some (.inl ((-2) - (w4.1 12 aa 16))), w4) :=
  (nc_Run_un [39, 89, 111, 242] 18).trans rfl
set_option maxRecDepth 100000 in
theorem qr_X12_book_89 (aa : Nat) (xb : Int32) (xc : Int32) (w : nc_H) : nc_Run m_X12_book 89 [some (.inr (.inr (12, aa))), some (.inl xb), some (.inl xc), none] [] w =
  if (4 : Int32) ≤ xc then
    nc_Run m_X12_book 111 [some (.inr (.inr (12, aa))), some (.inl xb), some (.inl (-1)), some (.inl 0)] [] w
  else
    nc_bd xc 4 fun j1 =>
    nc_lt (nc_si w 905 aa j1 0) fun w2 =>
    nc_li (xc + 1) fun x3 =>
    nc_Run m_X12_book 89 [some (.inr (.inr (12, aa))), some (.inl xb), some (.inl x3), none] [] w2 :=
  (nc_Run_un [39, 89, 111, 242] 11).trans rfl
set_option maxRecDepth 100000 in
theorem qr_X12_book_111 (aa : Nat) (xb : Int32) (xc : Int32) (xd : Int32) (w : nc_H) : nc_Run m_X12_book 111 [some (.inr (.inr (12, aa))), some (.inl xb), some (.inl xc), some (.inl xd)] [] w =
  if (w.1 12 aa 36) ≤ xd then
    nc_bd 76 513 fun j1 =>
    nc_bd 2 4 fun j2 =>
    nc_lt (nc_si w 905 aa j2 (w.1 874 aa j1)) fun w3 =>
    nc_bd 77 513 fun j4 =>
    nc_bd 3 4 fun j5 =>
    nc_lt (nc_si w3 905 aa j5 (w3.1 874 aa j4)) fun w6 =>
    nc_lt (nc_si w6 12 aa 38 1) fun w7 =>
    if xb ≠ 1 then
      if xb ≠ 0 then
        some (some (.inl xc), w7)
      else
        nc_bV (nc_Call m_X12_back [.inr (.inr (12, aa))] w7) fun w8 =>
        some (some (.inl xc), w8)
    else
      nc_bd 1 4 fun j9 =>
      if (w7.1 905 aa j9) ≤ 0 then
        if xb ≠ 0 then
          some (some (.inl xc), w7)
        else
          nc_bV (nc_Call m_X12_back [.inr (.inr (12, aa))] w7) fun w10 =>
          some (some (.inl xc), w10)
      else
        nc_bV (nc_Call m_X12_keep [.inr (.inr (12, aa))] w7) fun w11 =>
        nc_Run m_X12_book 242 [some (.inr (.inr (12, aa))), some (.inl xb), some (.inl xc), some (.inl 0)] [] w11
  else
    if (0 : Int32) ≤ xc then
      nc_bd 76 513 fun j12 =>
      nc_bd 2 4 fun j13 =>
      nc_lt (nc_si w 905 aa j13 (w.1 874 aa j12)) fun w14 =>
      nc_bd 77 513 fun j15 =>
      nc_bd 3 4 fun j16 =>
      nc_lt (nc_si w14 905 aa j16 (w14.1 874 aa j15)) fun w17 =>
      nc_lt (nc_si w17 12 aa 38 1) fun w18 =>
      if xb ≠ 1 then
        if xb ≠ 0 then
          some (some (.inl xc), w18)
        else
          nc_bV (nc_Call m_X12_back [.inr (.inr (12, aa))] w18) fun w19 =>
          some (some (.inl xc), w19)
      else
        nc_bd 1 4 fun j20 =>
        if (w18.1 905 aa j20) ≤ 0 then
          if xb ≠ 0 then
            some (some (.inl xc), w18)
          else
            nc_bV (nc_Call m_X12_back [.inr (.inr (12, aa))] w18) fun w21 =>
            some (some (.inl xc), w21)
        else
          nc_bV (nc_Call m_X12_keep [.inr (.inr (12, aa))] w18) fun w22 =>
          nc_Run m_X12_book 242 [some (.inr (.inr (12, aa))), some (.inl xb), some (.inl xc), some (.inl 0)] [] w22
    else
      nc_bd (3 * xd) 135 fun j23 =>
      nc_bd ((3 * xd) + 1) 135 fun j24 =>
      nc_bd ((3 * xd) + 2) 135 fun j25 =>
      nc_bI (nc_Call m_X12_does [.inr (.inr (12, aa)), .inl (w.1 876 aa j23), .inl (w.1 876 aa j24), .inl (w.1 876 aa j25)] w) fun r27 w26 =>
      nc_bd 0 4 fun j28 =>
      nc_lt (nc_si w26 905 aa j28 r27) fun w29 =>
      nc_bd 0 4 fun j30 =>
      if (w29.1 905 aa j30) ≤ 0 then
        nc_bd 1 4 fun j31 =>
        nc_bd 1 4 fun j32 =>
        nc_lt (nc_si w29 905 aa j32 ((w29.1 905 aa j31) + 1)) fun w33 =>
        nc_li (xd + 1) fun x34 =>
        nc_Run m_X12_book 111 [some (.inr (.inr (12, aa))), some (.inl xb), some (.inl xc), some (.inl x34)] [] w33
      else
        nc_li (xd + 1) fun x35 =>
        nc_Run m_X12_book 111 [some (.inr (.inr (12, aa))), some (.inl xb), some (.inl xd), some (.inl x35)] [] w29 :=
  (nc_Run_un [39, 89, 111, 242] 50).trans rfl
set_option maxRecDepth 100000 in
theorem qr_X12_book_242 (aa : Nat) (xb : Int32) (xc : Int32) (xd : Int32) (w : nc_H) : nc_Run m_X12_book 242 [some (.inr (.inr (12, aa))), some (.inl xb), some (.inl xc), some (.inl xd)] [] w =
  if (256 : Int32) ≤ xd then
    if xb ≠ 0 then
      some (some (.inl xc), w)
    else
      nc_bV (nc_Call m_X12_back [.inr (.inr (12, aa))] w) fun w1 =>
      some (some (.inl xc), w1)
  else
    nc_bd xd 256 fun j2 =>
    nc_bd ((256 * ((w.1 12 aa 24) - 1)) + xd) 2048 fun j3 =>
    nc_lt (nc_si w 890 aa j3 (w.1 891 aa j2)) fun w4 =>
    nc_li (xd + 1) fun x5 =>
    nc_Run m_X12_book 242 [some (.inr (.inr (12, aa))), some (.inl xb), some (.inl xc), some (.inl x5)] [] w4 :=
  (nc_Run_un [39, 89, 111, 242] 21).trans rfl
set_option maxRecDepth 100000 in
theorem qc_X12_written (aa : Nat) (xb : Int32) (w : nc_H) : nc_Call m_X12_written [.inr (.inr (12, aa)), .inl xb] w =
  nc_lt (nc_si w 12 aa 0 0) fun w1 =>
  if (w1.1 12 aa 38) = 0 then
    some (some (.inl (-1)), w1)
  else
    nc_bI (nc_Call m_X12_isIn [.inl xb, .inl 0, .inl 3] w1) fun r3 w2 =>
    if r3 = 0 then
      some (some (.inl (-1)), w2)
    else
      nc_bd xb 4 fun j4 =>
      some (some (.inl (w2.1 905 aa j4)), w2) :=
  (nc_Call_eq _ _ _).trans ((if_pos (Nat.le_of_ble_eq_true rfl)).trans ((nc_Run_un [] 17).trans rfl))
set_option maxRecDepth 100000 in
theorem qc_X12_joins (aa : Nat) (xb : Int32) (w : nc_H) : nc_Call m_X12_joins [.inr (.inr (12, aa)), .inl xb] w =
  if (w.1 12 aa 42) ≤ 0 then
    some (none, w)
  else
    nc_bd ((w.1 12 aa 42) - 1) 45 fun j1 =>
    if (w.1 907 aa j1) = 21 then
      nc_lt (nc_si w 12 aa 42 ((w.1 12 aa 42) - 1)) fun w2 =>
      nc_bd (w2.1 12 aa 42) 45 fun j3 =>
      nc_bV (nc_Call m_X12_code [.inr (.inr (12, aa)), .inl (w2.1 907 aa j3), .inl 0, .inl 0] w2) fun w4 =>
      nc_Run m_X12_joins 0 [some (.inr (.inr (12, aa))), some (.inl xb)] [] w4
    else
      nc_bd ((w.1 12 aa 42) - 1) 45 fun j5 =>
      if (w.1 907 aa j5) ≠ 22 then
        some (none, w)
      else
        if xb ≠ 22 then
          some (none, w)
        else
          nc_lt (nc_si w 12 aa 42 ((w.1 12 aa 42) - 1)) fun w6 =>
          nc_bd (w6.1 12 aa 42) 45 fun j7 =>
          nc_bV (nc_Call m_X12_code [.inr (.inr (12, aa)), .inl (w6.1 907 aa j7), .inl 0, .inl 0] w6) fun w8 =>
          nc_Run m_X12_joins 0 [some (.inr (.inr (12, aa))), some (.inl xb)] [] w8 :=
  (nc_Call_eq _ _ _).trans ((if_pos (Nat.le_of_ble_eq_true rfl)).trans ((nc_Run_un [0] 41).trans rfl))
set_option maxRecDepth 100000 in
theorem qr_X12_joins_0 (aa : Nat) (xb : Int32) (w : nc_H) : nc_Run m_X12_joins 0 [some (.inr (.inr (12, aa))), some (.inl xb)] [] w =
  if (w.1 12 aa 42) ≤ 0 then
    some (none, w)
  else
    nc_bd ((w.1 12 aa 42) - 1) 45 fun j1 =>
    if (w.1 907 aa j1) = 21 then
      nc_lt (nc_si w 12 aa 42 ((w.1 12 aa 42) - 1)) fun w2 =>
      nc_bd (w2.1 12 aa 42) 45 fun j3 =>
      nc_bV (nc_Call m_X12_code [.inr (.inr (12, aa)), .inl (w2.1 907 aa j3), .inl 0, .inl 0] w2) fun w4 =>
      nc_Run m_X12_joins 0 [some (.inr (.inr (12, aa))), some (.inl xb)] [] w4
    else
      nc_bd ((w.1 12 aa 42) - 1) 45 fun j5 =>
      if (w.1 907 aa j5) ≠ 22 then
        some (none, w)
      else
        if xb ≠ 22 then
          some (none, w)
        else
          nc_lt (nc_si w 12 aa 42 ((w.1 12 aa 42) - 1)) fun w6 =>
          nc_bd (w6.1 12 aa 42) 45 fun j7 =>
          nc_bV (nc_Call m_X12_code [.inr (.inr (12, aa)), .inl (w6.1 907 aa j7), .inl 0, .inl 0] w6) fun w8 =>
          nc_Run m_X12_joins 0 [some (.inr (.inr (12, aa))), some (.inl xb)] [] w8 :=
  (nc_Run_un [0] 41).trans rfl
set_option maxRecDepth 100000 in
theorem qc_X12_nots (aa : Nat) (w : nc_H) : nc_Call m_X12_nots [.inr (.inr (12, aa))] w =
  if (w.1 12 aa 42) ≤ 0 then
    some (none, w)
  else
    nc_bd ((w.1 12 aa 42) - 1) 45 fun j1 =>
    if (w.1 907 aa j1) ≠ 20 then
      some (none, w)
    else
      nc_lt (nc_si w 12 aa 42 ((w.1 12 aa 42) - 1)) fun w2 =>
      nc_lt (nc_si w2 12 aa 43 ((w2.1 12 aa 43) - 1)) fun w3 =>
      nc_bV (nc_Call m_X12_code [.inr (.inr (12, aa)), .inl 20, .inl 0, .inl 0] w3) fun w4 =>
      nc_Run m_X12_nots 0 [some (.inr (.inr (12, aa)))] [] w4 :=
  (nc_Call_eq _ _ _).trans ((if_pos (Nat.le_of_ble_eq_true rfl)).trans ((nc_Run_un [0] 31).trans rfl))
set_option maxRecDepth 100000 in
theorem qr_X12_nots_0 (aa : Nat) (w : nc_H) : nc_Run m_X12_nots 0 [some (.inr (.inr (12, aa)))] [] w =
  if (w.1 12 aa 42) ≤ 0 then
    some (none, w)
  else
    nc_bd ((w.1 12 aa 42) - 1) 45 fun j1 =>
    if (w.1 907 aa j1) ≠ 20 then
      some (none, w)
    else
      nc_lt (nc_si w 12 aa 42 ((w.1 12 aa 42) - 1)) fun w2 =>
      nc_lt (nc_si w2 12 aa 43 ((w2.1 12 aa 43) - 1)) fun w3 =>
      nc_bV (nc_Call m_X12_code [.inr (.inr (12, aa)), .inl 20, .inl 0, .inl 0] w3) fun w4 =>
      nc_Run m_X12_nots 0 [some (.inr (.inr (12, aa)))] [] w4 :=
  (nc_Run_un [0] 31).trans rfl
set_option maxRecDepth 100000 in
theorem qc_X12_leafOf (aa : Nat) (w : nc_H) : nc_Call m_X12_leafOf [.inr (.inr (12, aa))] w =
  nc_bI (nc_Call m_X12_isWord [.inr (.inr (12, aa)), .inr (.inl 6582905)] w) fun r2 w1 =>
  if r2 = 0 then
    nc_bI (nc_Call m_X12_isWord [.inr (.inr (12, aa)), .inr (.inl 27995156865901924)] w1) fun r4 w3 =>
    if r4 = 0 then
      nc_bI (nc_Call m_X12_isWord [.inr (.inr (12, aa)), .inr (.inl 24948)] w3) fun r6 w5 =>
      if r6 = 0 then
        nc_bI (nc_Call m_X12_isWord [.inr (.inr (12, aa)), .inr (.inl 461414299507)] w5) fun r8 w7 =>
        if r8 = 0 then
          nc_bI (nc_Call m_X12_isWord [.inr (.inr (12, aa)), .inr (.inl 448377483876)] w7) fun r10 w9 =>
          if r10 = 0 then
            nc_bI (nc_Call m_X12_isWord [.inr (.inr (12, aa)), .inr (.inl 1835625579)] w9) fun r12 w11 =>
            if r12 = 0 then
              nc_bI (nc_Call m_X12_isWord [.inr (.inr (12, aa)), .inr (.inl 444150998382)] w11) fun r14 w13 =>
              if r14 = 0 then
                nc_bI (nc_Call m_X12_isWord [.inr (.inr (12, aa)), .inr (.inl 110429873534067)] w13) fun r16 w15 =>
                if r16 = 0 then
                  nc_bI (nc_Call m_X12_isWord [.inr (.inr (12, aa)), .inr (.inl 121450625394034)] w15) fun r18 w17 =>
                  if r18 = 0 then
                    some (some (.inl (-1)), w17)
                  else
                    some (some (.inl 8), w17)
                else
                  some (some (.inl 7), w15)
              else
                some (some (.inl 6), w13)
            else
              some (some (.inl 5), w11)
          else
            some (some (.inl 4), w9)
        else
          some (some (.inl 3), w7)
      else
        some (some (.inl 2), w5)
    else
      some (some (.inl 1), w3)
  else
    some (some (.inl 0), w1) :=
  (nc_Call_eq _ _ _).trans ((if_pos (Nat.le_of_ble_eq_true rfl)).trans ((nc_Run_un [] 39).trans rfl))
set_option maxRecDepth 100000 in
theorem qc_X12_operand (aa : Nat) (w : nc_H) : nc_Call m_X12_operand [.inr (.inr (12, aa))] w =
  nc_bI (nc_Call m_X12_isWord [.inr (.inr (12, aa)), .inr (.inl 7237492)] w) fun r2 w1 =>
  nc_bI (nc_Call m_X12_isSign [.inr (.inr (12, aa)), .inl 40] w1) fun r4 w3 =>
  nc_bI (nc_Call m_X12_leafOf [.inr (.inr (12, aa))] w3) fun r6 w5 =>
  if r2 ≠ 0 then
    nc_Run m_X12_operand 38 [some (.inr (.inr (12, aa))), some (.inl r2), some (.inl r4), some (.inl r6), none] [] w5
  else
    if r4 ≠ 0 then
      nc_Run m_X12_operand 38 [some (.inr (.inr (12, aa))), some (.inl r2), some (.inl r4), some (.inl r6), none] [] w5
    else
      if (0 : Int32) ≤ r6 then
        nc_Run m_X12_operand 38 [some (.inr (.inr (12, aa))), some (.inl r2), some (.inl r4), some (.inl r6), none] [] w5
      else
        nc_bI (nc_Call m_X12_bad [.inr (.inr (12, aa)), .inl 1] w5) fun r8 w7 =>
        nc_z r8 <| some (some (.inl r8), w7) :=
  (nc_Call_eq _ _ _).trans ((if_pos (Nat.le_of_ble_eq_true rfl)).trans ((nc_Run_un [38] 21).trans rfl))
set_option maxRecDepth 100000 in
theorem qr_X12_operand_38 (aa : Nat) (xb : Int32) (xc : Int32) (xd : Int32) (w : nc_H) : nc_Run m_X12_operand 38 [some (.inr (.inr (12, aa))), some (.inl xb), some (.inl xc), some (.inl xd), none] [] w =
  if (w.1 12 aa 41) = 20 then
    nc_bI (nc_Call m_X12_bad [.inr (.inr (12, aa)), .inl 4] w) fun r2 w1 =>
    nc_z r2 <| some (some (.inl r2), w1)
  else
    if (w.1 12 aa 43) ≤ 8 then
      nc_lt (nc_si w 12 aa 41 ((w.1 12 aa 41) + 1)) fun w3 =>
      nc_bV (nc_Call m_X12_next [.inr (.inr (12, aa))] w3) fun w4 =>
      if xb ≠ 0 then
        if xb = 0 then
          nc_bd (w4.1 12 aa 42) 45 fun j5 =>
          nc_lt (nc_si w4 907 aa j5 23) fun w6 =>
          nc_lt (nc_si w6 12 aa 42 ((w6.1 12 aa 42) + 1)) fun w7 =>
          nc_lt (nc_si w7 12 aa 43 ((w7.1 12 aa 43) + 1)) fun w8 =>
          some (some (.inl 1), w8)
        else
          nc_bd (w4.1 12 aa 42) 45 fun j9 =>
          nc_lt (nc_si w4 907 aa j9 20) fun w10 =>
          nc_lt (nc_si w10 12 aa 42 ((w10.1 12 aa 42) + 1)) fun w11 =>
          nc_lt (nc_si w11 12 aa 43 ((w11.1 12 aa 43) + 1)) fun w12 =>
          some (some (.inl 1), w12)
      else
        if xc = 0 then
          nc_lt (nc_si w4 12 aa 44 1) fun w13 =>
          if (2 : Int32) ≤ xd then
            if (5 : Int32) ≤ xd then
              if (w13.1 12 aa 11) ≠ 3 then
                nc_bI (nc_Call m_X12_bad [.inr (.inr (12, aa)), .inl 1] w13) fun r15 w14 =>
                nc_z r15 <| some (some (.inl r15), w14)
              else
                if (w13.1 12 aa 14) < 60 then
                  nc_bI (nc_Call m_X12_bad [.inr (.inr (12, aa)), .inl 1] w13) fun r17 w16 =>
                  nc_z r17 <| some (some (.inl r17), w16)
                else
                  if (w13.1 12 aa 14) ≤ 62 then
                    nc_li (w13.1 12 aa 14) fun x18 =>
                    nc_bV (nc_Call m_X12_next [.inr (.inr (12, aa))] w13) fun w19 =>
                    if (w19.1 12 aa 11) = 2 then
                      nc_bV (nc_Call m_X12_code [.inr (.inr (12, aa)), .inl xd, .inl x18, .inl (w19.1 12 aa 14)] w19) fun w20 =>
                      nc_bV (nc_Call m_X12_next [.inr (.inr (12, aa))] w20) fun w21 =>
                      some (some (.inl 1), w21)
                    else
                      nc_bI (nc_Call m_X12_bad [.inr (.inr (12, aa)), .inl 1] w19) fun r23 w22 =>
                      nc_z r23 <| some (some (.inl r23), w22)
                  else
                    nc_bI (nc_Call m_X12_bad [.inr (.inr (12, aa)), .inl 1] w13) fun r25 w24 =>
                    nc_z r25 <| some (some (.inl r25), w24)
            else
              if xd ≠ 2 then
                if xd ≠ 2 then
                  nc_bd 2 513 fun j26 =>
                  nc_bI (nc_Call m_X12_looksAt [.inr (.inr (12, aa)), .inl 12, .inl (w13.1 874 aa j26)] w13) fun r28 w27 =>
                  if r28 ≠ 0 then
                    nc_bV (nc_Call m_X12_code [.inr (.inr (12, aa)), .inl xd, .inl 0, .inl (w27.1 12 aa 18)] w27) fun w29 =>
                    nc_bV (nc_Call m_X12_next [.inr (.inr (12, aa))] w29) fun w30 =>
                    some (some (.inl 1), w30)
                  else
                    some (some (.inl 0), w27)
                else
                  nc_bd 0 513 fun j31 =>
                  nc_bI (nc_Call m_X12_looksAt [.inr (.inr (12, aa)), .inl 12, .inl (w13.1 874 aa j31)] w13) fun r33 w32 =>
                  if r33 ≠ 0 then
                    nc_bV (nc_Call m_X12_code [.inr (.inr (12, aa)), .inl xd, .inl 0, .inl (w32.1 12 aa 18)] w32) fun w34 =>
                    nc_bV (nc_Call m_X12_next [.inr (.inr (12, aa))] w34) fun w35 =>
                    some (some (.inl 1), w35)
                  else
                    some (some (.inl 0), w32)
              else
                if xd ≠ 2 then
                  nc_bd 2 513 fun j36 =>
                  nc_bI (nc_Call m_X12_looksAt [.inr (.inr (12, aa)), .inl 0, .inl (w13.1 874 aa j36)] w13) fun r38 w37 =>
                  if r38 ≠ 0 then
                    nc_bV (nc_Call m_X12_code [.inr (.inr (12, aa)), .inl xd, .inl 0, .inl (w37.1 12 aa 18)] w37) fun w39 =>
                    nc_bV (nc_Call m_X12_next [.inr (.inr (12, aa))] w39) fun w40 =>
                    some (some (.inl 1), w40)
                  else
                    some (some (.inl 0), w37)
                else
                  nc_bd 0 513 fun j41 =>
                  nc_bI (nc_Call m_X12_looksAt [.inr (.inr (12, aa)), .inl 0, .inl (w13.1 874 aa j41)] w13) fun r43 w42 =>
                  if r43 ≠ 0 then
                    nc_bV (nc_Call m_X12_code [.inr (.inr (12, aa)), .inl xd, .inl 0, .inl (w42.1 12 aa 18)] w42) fun w44 =>
                    nc_bV (nc_Call m_X12_next [.inr (.inr (12, aa))] w44) fun w45 =>
                    some (some (.inl 1), w45)
                  else
                    some (some (.inl 0), w42)
          else
            nc_bV (nc_Call m_X12_code [.inr (.inr (12, aa)), .inl xd, .inl 0, .inl 0] w13) fun w46 =>
            some (some (.inl 1), w46)
        else
          if xb = 0 then
            nc_bd (w4.1 12 aa 42) 45 fun j47 =>
            nc_lt (nc_si w4 907 aa j47 23) fun w48 =>
            nc_lt (nc_si w48 12 aa 42 ((w48.1 12 aa 42) + 1)) fun w49 =>
            nc_lt (nc_si w49 12 aa 43 ((w49.1 12 aa 43) + 1)) fun w50 =>
            some (some (.inl 1), w50)
          else
            nc_bd (w4.1 12 aa 42) 45 fun j51 =>
            nc_lt (nc_si w4 907 aa j51 20) fun w52 =>
            nc_lt (nc_si w52 12 aa 42 ((w52.1 12 aa 42) + 1)) fun w53 =>
            nc_lt (nc_si w53 12 aa 43 ((w53.1 12 aa 43) + 1)) fun w54 =>
            some (some (.inl 1), w54)
    else
      nc_bI (nc_Call m_X12_bad [.inr (.inr (12, aa)), .inl 4] w) fun r56 w55 =>
      nc_z r56 <| some (some (.inl r56), w55) :=
  (nc_Run_un [38] 60).trans rfl
set_option maxRecDepth 100000 in
theorem qc_X12_behind (aa : Nat) (w : nc_H) : nc_Call m_X12_behind [.inr (.inr (12, aa))] w =
  nc_bV (nc_Call m_X12_nots [.inr (.inr (12, aa))] w) fun w1 =>
  nc_bI (nc_Call m_X12_isWord [.inr (.inr (12, aa)), .inr (.inl 6385252)] w1) fun r3 w2 =>
  if r3 ≠ 0 then
    nc_bI (nc_Call m_X12_isWord [.inr (.inr (12, aa)), .inr (.inl 6385252)] w2) fun r5 w4 =>
    if r5 = 0 then
      nc_bV (nc_Call m_X12_joins [.inr (.inr (12, aa)), .inl 22] w4) fun w6 =>
      nc_bI (nc_Call m_X12_isWord [.inr (.inr (12, aa)), .inr (.inl 6385252)] w6) fun r8 w7 =>
      if r8 = 0 then
        nc_bd (w6.1 12 aa 42) 45 fun j9 =>
        nc_lt (nc_si w7 907 aa j9 22) fun w10 =>
        nc_lt (nc_si w10 12 aa 42 ((w10.1 12 aa 42) + 1)) fun w11 =>
        nc_lt (nc_si w11 12 aa 44 0) fun w12 =>
        nc_bV (nc_Call m_X12_next [.inr (.inr (12, aa))] w12) fun w13 =>
        some (some (.inl 1), w13)
      else
        nc_bd (w6.1 12 aa 42) 45 fun j14 =>
        nc_lt (nc_si w7 907 aa j14 21) fun w15 =>
        nc_lt (nc_si w15 12 aa 42 ((w15.1 12 aa 42) + 1)) fun w16 =>
        nc_lt (nc_si w16 12 aa 44 0) fun w17 =>
        nc_bV (nc_Call m_X12_next [.inr (.inr (12, aa))] w17) fun w18 =>
        some (some (.inl 1), w18)
    else
      nc_bV (nc_Call m_X12_joins [.inr (.inr (12, aa)), .inl 21] w4) fun w19 =>
      nc_bI (nc_Call m_X12_isWord [.inr (.inr (12, aa)), .inr (.inl 6385252)] w19) fun r21 w20 =>
      if r21 = 0 then
        nc_bd (w19.1 12 aa 42) 45 fun j22 =>
        nc_lt (nc_si w20 907 aa j22 22) fun w23 =>
        nc_lt (nc_si w23 12 aa 42 ((w23.1 12 aa 42) + 1)) fun w24 =>
        nc_lt (nc_si w24 12 aa 44 0) fun w25 =>
        nc_bV (nc_Call m_X12_next [.inr (.inr (12, aa))] w25) fun w26 =>
        some (some (.inl 1), w26)
      else
        nc_bd (w19.1 12 aa 42) 45 fun j27 =>
        nc_lt (nc_si w20 907 aa j27 21) fun w28 =>
        nc_lt (nc_si w28 12 aa 42 ((w28.1 12 aa 42) + 1)) fun w29 =>
        nc_lt (nc_si w29 12 aa 44 0) fun w30 =>
        nc_bV (nc_Call m_X12_next [.inr (.inr (12, aa))] w30) fun w31 =>
        some (some (.inl 1), w31)
  else
    nc_bI (nc_Call m_X12_isWord [.inr (.inr (12, aa)), .inr (.inl 28530)] w2) fun r33 w32 =>
    if r33 = 0 then
      nc_bV (nc_Call m_X12_joins [.inr (.inr (12, aa)), .inl 22] w32) fun w34 =>
      nc_bI (nc_Call m_X12_isSign [.inr (.inr (12, aa)), .inl 41] w34) fun r36 w35 =>
      if r36 = 0 then
        nc_bI (nc_Call m_X12_bad [.inr (.inr (12, aa)), .inl 1] w35) fun r38 w37 =>
        nc_z r38 <| some (some (.inl r38), w37)
      else
        if (w35.1 12 aa 42) ≠ 0 then
          nc_lt (nc_si w35 12 aa 42 ((w35.1 12 aa 42) - 1)) fun w39 =>
          nc_lt (nc_si w39 12 aa 43 ((w39.1 12 aa 43) - 1)) fun w40 =>
          nc_bV (nc_Call m_X12_next [.inr (.inr (12, aa))] w40) fun w41 =>
          some (some (.inl 1), w41)
        else
          nc_bI (nc_Call m_X12_bad [.inr (.inr (12, aa)), .inl 1] w35) fun r43 w42 =>
          nc_z r43 <| some (some (.inl r43), w42)
    else
      nc_bI (nc_Call m_X12_isWord [.inr (.inr (12, aa)), .inr (.inl 6385252)] w32) fun r45 w44 =>
      if r45 = 0 then
        nc_bV (nc_Call m_X12_joins [.inr (.inr (12, aa)), .inl 22] w44) fun w46 =>
        nc_bI (nc_Call m_X12_isWord [.inr (.inr (12, aa)), .inr (.inl 6385252)] w46) fun r48 w47 =>
        if r48 = 0 then
          nc_bd (w46.1 12 aa 42) 45 fun j49 =>
          nc_lt (nc_si w47 907 aa j49 22) fun w50 =>
          nc_lt (nc_si w50 12 aa 42 ((w50.1 12 aa 42) + 1)) fun w51 =>
          nc_lt (nc_si w51 12 aa 44 0) fun w52 =>
          nc_bV (nc_Call m_X12_next [.inr (.inr (12, aa))] w52) fun w53 =>
          some (some (.inl 1), w53)
        else
          nc_bd (w46.1 12 aa 42) 45 fun j54 =>
          nc_lt (nc_si w47 907 aa j54 21) fun w55 =>
          nc_lt (nc_si w55 12 aa 42 ((w55.1 12 aa 42) + 1)) fun w56 =>
          nc_lt (nc_si w56 12 aa 44 0) fun w57 =>
          nc_bV (nc_Call m_X12_next [.inr (.inr (12, aa))] w57) fun w58 =>
          some (some (.inl 1), w58)
      else
        nc_bV (nc_Call m_X12_joins [.inr (.inr (12, aa)), .inl 21] w44) fun w59 =>
        nc_bI (nc_Call m_X12_isWord [.inr (.inr (12, aa)), .inr (.inl 6385252)] w59) fun r61 w60 =>
        if r61 = 0 then
          nc_bd (w59.1 12 aa 42) 45 fun j62 =>
          nc_lt (nc_si w60 907 aa j62 22) fun w63 =>
          nc_lt (nc_si w63 12 aa 42 ((w63.1 12 aa 42) + 1)) fun w64 =>
          nc_lt (nc_si w64 12 aa 44 0) fun w65 =>
          nc_bV (nc_Call m_X12_next [.inr (.inr (12, aa))] w65) fun w66 =>
          some (some (.inl 1), w66)
        else
          nc_bd (w59.1 12 aa 42) 45 fun j67 =>
          nc_lt (nc_si w60 907 aa j67 21) fun w68 =>
          nc_lt (nc_si w68 12 aa 42 ((w68.1 12 aa 42) + 1)) fun w69 =>
          nc_lt (nc_si w69 12 aa 44 0) fun w70 =>
          nc_bV (nc_Call m_X12_next [.inr (.inr (12, aa))] w70) fun w71 =>
          some (some (.inl 1), w71) :=
  (nc_Call_eq _ _ _).trans ((if_pos (Nat.le_of_ble_eq_true rfl)).trans ((nc_Run_un [] 42).trans rfl))
set_option maxRecDepth 100000 in
theorem qc_X12_sentence (aa : Nat) (w : nc_H) : nc_Call m_X12_sentence [.inr (.inr (12, aa))] w =
  nc_lt (nc_si w 12 aa 0 0) fun w1 =>
  nc_bV (nc_Call m_X12_taken [.inr (.inr (12, aa)), .inl 200] w1) fun w2 =>
  nc_lt (nc_si w2 12 aa 15 0) fun w3 =>
  nc_lt (nc_si w3 12 aa 40 0) fun w4 =>
  nc_lt (nc_si w4 12 aa 41 0) fun w5 =>
  nc_lt (nc_si w5 12 aa 42 0) fun w6 =>
  nc_lt (nc_si w6 12 aa 43 1) fun w7 =>
  nc_lt (nc_si w7 12 aa 44 0) fun w8 =>
  nc_bV (nc_Call m_X12_next [.inr (.inr (12, aa))] w8) fun w9 =>
  nc_Run m_X12_sentence 48 [some (.inr (.inr (12, aa))), some (.inl 1), none] [] w9 :=
  (nc_Call_eq _ _ _).trans ((if_pos (Nat.le_of_ble_eq_true rfl)).trans ((nc_Run_un [48, 146] 29).trans rfl))
set_option maxRecDepth 100000 in
theorem qr_X12_sentence_48 (aa : Nat) (xb : Int32) (w : nc_H) : nc_Run m_X12_sentence 48 [some (.inr (.inr (12, aa))), some (.inl xb), none] [] w =
  if xb = 0 then
    nc_bd 332 513 fun j1 =>
    nc_lt (nc_si w 874 aa j1 (w.1 12 aa 40)) fun w2 =>
    nc_Run m_X12_sentence 146 [some (.inr (.inr (12, aa))), none, some (.inl 0)] [] w2
  else
    if (w.1 12 aa 44) = 0 then
      if (w.1 12 aa 44) = 0 then
        nc_bI (nc_Call m_X12_operand [.inr (.inr (12, aa))] w) fun r4 w3 =>
        if r4 ≠ 0 then
          nc_Run m_X12_sentence 48 [some (.inr (.inr (12, aa))), some (.inl xb), none] [] w3
        else
          some (some (.inl ((-1) - (w3.1 12 aa 16))), w3)
      else
        nc_bI (nc_Call m_X12_behind [.inr (.inr (12, aa))] w) fun r6 w5 =>
        if r6 ≠ 0 then
          nc_Run m_X12_sentence 48 [some (.inr (.inr (12, aa))), some (.inl xb), none] [] w5
        else
          some (some (.inl ((-1) - (w5.1 12 aa 16))), w5)
    else
      if (w.1 12 aa 11) ≠ 0 then
        if (w.1 12 aa 44) = 0 then
          nc_bI (nc_Call m_X12_operand [.inr (.inr (12, aa))] w) fun r8 w7 =>
          if r8 ≠ 0 then
            nc_Run m_X12_sentence 48 [some (.inr (.inr (12, aa))), some (.inl xb), none] [] w7
          else
            some (some (.inl ((-1) - (w7.1 12 aa 16))), w7)
        else
          nc_bI (nc_Call m_X12_behind [.inr (.inr (12, aa))] w) fun r10 w9 =>
          if r10 ≠ 0 then
            nc_Run m_X12_sentence 48 [some (.inr (.inr (12, aa))), some (.inl xb), none] [] w9
          else
            some (some (.inl ((-1) - (w9.1 12 aa 16))), w9)
      else
        nc_bV (nc_Call m_X12_nots [.inr (.inr (12, aa))] w) fun w11 =>
        nc_bV (nc_Call m_X12_joins [.inr (.inr (12, aa)), .inl 22] w11) fun w12 =>
        if (w12.1 12 aa 42) ≤ 0 then
          nc_Run m_X12_sentence 48 [some (.inr (.inr (12, aa))), some (.inl 0), none] [] w12
        else
          nc_bI (nc_Call m_X12_bad [.inr (.inr (12, aa)), .inl 1] w12) fun r14 w13 =>
          some (some (.inl ((-1) - (w13.1 12 aa 16))), w13) :=
  (nc_Run_un [48, 146] 25).trans rfl
set_option maxRecDepth 100000 in
theorem qr_X12_sentence_146 (aa : Nat) (xc : Int32) (w : nc_H) : nc_Run m_X12_sentence 146 [some (.inr (.inr (12, aa))), none, some (.inl xc)] [] w =
  if (3 * (w.1 12 aa 40)) ≤ xc then
    some (some (.inl (w.1 12 aa 41)), w)
  else
    nc_bd xc 135 fun j1 =>
    nc_bd (333 + xc) 513 fun j2 =>
    nc_lt (nc_si w 874 aa j2 (w.1 876 aa j1)) fun w3 =>
    nc_li (xc + 1) fun x4 =>
    nc_Run m_X12_sentence 146 [some (.inr (.inr (12, aa))), none, some (.inl x4)] [] w3 :=
  (nc_Run_un [48, 146] 19).trans rfl
set_option maxRecDepth 100000 in
theorem qc_X12_isLeaf (aa : Nat) (xb : Int32) (xc : Int32) (xd : Int32) (xe : Int32) (w : nc_H) : nc_Call m_X12_isLeaf [.inr (.inr (12, aa)), .inl xb, .inl xc, .inl xd, .inl xe] w =
  if xc = 0 then
    nc_bI (nc_Call m_X12_isDry [.inr (.inr (12, aa)), .inl xb] w) fun r2 w1 =>
    nc_z r2 <| some (some (.inl r2), w1)
  else
  if xc = 1 then
    nc_bI (nc_Call m_X12_isCurdled [.inr (.inr (12, aa)), .inl xb] w) fun r4 w3 =>
    nc_z r4 <| some (some (.inl r4), w3)
  else
  if xc = 2 then
    nc_bd (5 + xb) 513 fun j5 =>
    if (w.1 874 aa j5) ≠ xe then
      some (some (.inl 0), w)
    else
      some (some (.inl 1), w)
  else
  if xc = 3 then
    nc_bI (nc_Call m_X12_knows [.inr (.inr (12, aa)), .inl xb, .inl xe] w) fun r7 w6 =>
    nc_z r7 <| some (some (.inl r7), w6)
  else
  if xc = 4 then
    nc_bd (100 + xb) 513 fun j8 =>
    nc_bI (nc_Call m_X12_bitOf [.inl (w.1 874 aa j8), .inl xe] w) fun r10 w9 =>
    nc_z r10 <| some (some (.inl r10), w9)
  else
    if xc ≠ 5 then
      if xc ≠ 6 then
        if xc ≠ 7 then
          if xd ≠ 60 then
            if xd ≠ 61 then
              if xb ≤ xe then
                some (some (.inl 0), w)
              else
                some (some (.inl 1), w)
            else
              if xb ≠ xe then
                some (some (.inl 0), w)
              else
                some (some (.inl 1), w)
          else
            if xe ≤ xb then
              some (some (.inl 0), w)
            else
              some (some (.inl 1), w)
        else
          nc_bd (79 + xb) 513 fun j11 =>
          nc_li (w.1 874 aa j11) fun x12 =>
          if xd ≠ 60 then
            if xd ≠ 61 then
              if x12 ≤ xe then
                some (some (.inl 0), w)
              else
                some (some (.inl 1), w)
            else
              if x12 ≠ xe then
                some (some (.inl 0), w)
              else
                some (some (.inl 1), w)
          else
            if xe ≤ x12 then
              some (some (.inl 0), w)
            else
              some (some (.inl 1), w)
      else
        nc_bd (87 + xb) 513 fun j13 =>
        nc_li (w.1 874 aa j13) fun x14 =>
        if xd ≠ 60 then
          if xd ≠ 61 then
            if x14 ≤ xe then
              some (some (.inl 0), w)
            else
              some (some (.inl 1), w)
          else
            if x14 ≠ xe then
              some (some (.inl 0), w)
            else
              some (some (.inl 1), w)
        else
          if xe ≤ x14 then
            some (some (.inl 0), w)
          else
            some (some (.inl 1), w)
    else
      nc_bI (nc_Call m_X12_milk [.inr (.inr (12, aa)), .inl xb] w) fun r16 w15 =>
      if xd ≠ 60 then
        if xd ≠ 61 then
          if r16 ≤ xe then
            some (some (.inl 0), w15)
          else
            some (some (.inl 1), w15)
        else
          if r16 ≠ xe then
            some (some (.inl 0), w15)
          else
            some (some (.inl 1), w15)
      else
        if xe ≤ r16 then
          some (some (.inl 0), w15)
        else
          some (some (.inl 1), w15) :=
  (nc_Call_eq _ _ _).trans ((if_pos (Nat.le_of_ble_eq_true rfl)).trans ((nc_Run_un [] 31).trans rfl))
set_option maxRecDepth 100000 in
theorem qc_X12_isSaid (aa : Nat) (xb : Int32) (w : nc_H) : nc_Call m_X12_isSaid [.inr (.inr (12, aa)), .inl xb] w =
  nc_Run m_X12_isSaid 4 [some (.inr (.inr (12, aa))), some (.inl xb), some (.inl 0), some (.inl 0), none] [] w :=
  (nc_Call_eq _ _ _).trans ((if_pos (Nat.le_of_ble_eq_true rfl)).trans ((nc_Run_un [4] 5).trans rfl))
set_option maxRecDepth 100000 in
theorem qr_X12_isSaid_4 (aa : Nat) (xb : Int32) (xc : Int32) (xd : Int32) (w : nc_H) : nc_Run m_X12_isSaid 4 [some (.inr (.inr (12, aa))), some (.inl xb), some (.inl xc), some (.inl xd), none] [] w =
  nc_bd 332 513 fun j1 =>
  if (w.1 874 aa j1) ≤ xd then
    nc_bd 0 45 fun j2 =>
    nc_z (w.1 913 aa j2) <| some (some (.inl (w.1 913 aa j2)), w)
  else
    nc_li (333 + (3 * xd)) fun x3 =>
    nc_bd x3 513 fun j4 =>
    if (w.1 874 aa j4) ≠ 20 then
      nc_bd x3 513 fun j5 =>
      if (w.1 874 aa j5) = 21 then
        nc_li (xc + (-1)) fun x6 =>
        nc_bd x3 513 fun j7 =>
        if (w.1 874 aa j7) ≠ 21 then
          nc_bd (x6 - 1) 45 fun j8 =>
          if (w.1 913 aa j8) ≠ 0 then
            nc_bd (x6 - 1) 45 fun j9 =>
            nc_lt (nc_si w 913 aa j9 1) fun w10 =>
            nc_li (xd + 1) fun x11 =>
            nc_Run m_X12_isSaid 4 [some (.inr (.inr (12, aa))), some (.inl xb), some (.inl x6), some (.inl x11), none] [] w10
          else
            nc_bd x6 45 fun j12 =>
            if (w.1 913 aa j12) = 0 then
              nc_bd (x6 - 1) 45 fun j13 =>
              nc_lt (nc_si w 913 aa j13 0) fun w14 =>
              nc_li (xd + 1) fun x15 =>
              nc_Run m_X12_isSaid 4 [some (.inr (.inr (12, aa))), some (.inl xb), some (.inl x6), some (.inl x15), none] [] w14
            else
              nc_bd (x6 - 1) 45 fun j16 =>
              nc_lt (nc_si w 913 aa j16 1) fun w17 =>
              nc_li (xd + 1) fun x18 =>
              nc_Run m_X12_isSaid 4 [some (.inr (.inr (12, aa))), some (.inl xb), some (.inl x6), some (.inl x18), none] [] w17
        else
          nc_bd (x6 - 1) 45 fun j19 =>
          if (w.1 913 aa j19) = 0 then
            nc_bd (x6 - 1) 45 fun j20 =>
            nc_lt (nc_si w 913 aa j20 0) fun w21 =>
            nc_li (xd + 1) fun x22 =>
            nc_Run m_X12_isSaid 4 [some (.inr (.inr (12, aa))), some (.inl xb), some (.inl x6), some (.inl x22), none] [] w21
          else
            nc_bd x6 45 fun j23 =>
            if (w.1 913 aa j23) = 0 then
              nc_bd (x6 - 1) 45 fun j24 =>
              nc_lt (nc_si w 913 aa j24 0) fun w25 =>
              nc_li (xd + 1) fun x26 =>
              nc_Run m_X12_isSaid 4 [some (.inr (.inr (12, aa))), some (.inl xb), some (.inl x6), some (.inl x26), none] [] w25
            else
              nc_bd (x6 - 1) 45 fun j27 =>
              nc_lt (nc_si w 913 aa j27 1) fun w28 =>
              nc_li (xd + 1) fun x29 =>
              nc_Run m_X12_isSaid 4 [some (.inr (.inr (12, aa))), some (.inl xb), some (.inl x6), some (.inl x29), none] [] w28
      else
        nc_bd x3 513 fun j30 =>
        if (w.1 874 aa j30) ≠ 22 then
          nc_bd x3 513 fun j31 =>
          nc_bd (x3 + 1) 513 fun j32 =>
          nc_bd (x3 + 2) 513 fun j33 =>
          nc_bI (nc_Call m_X12_isLeaf [.inr (.inr (12, aa)), .inl xb, .inl (w.1 874 aa j31), .inl (w.1 874 aa j32), .inl (w.1 874 aa j33)] w) fun r35 w34 =>
          nc_bd xc 45 fun j36 =>
          nc_z r35 <|
          nc_lt (nc_si w34 913 aa j36 r35) fun w37 =>
          nc_li (xc + 1) fun x38 =>
          nc_li (xd + 1) fun x39 =>
          nc_Run m_X12_isSaid 4 [some (.inr (.inr (12, aa))), some (.inl xb), some (.inl x38), some (.inl x39), none] [] w37
        else
          nc_li (xc + (-1)) fun x40 =>
          nc_bd x3 513 fun j41 =>
          if (w.1 874 aa j41) ≠ 21 then
            nc_bd (x40 - 1) 45 fun j42 =>
            if (w.1 913 aa j42) ≠ 0 then
              nc_bd (x40 - 1) 45 fun j43 =>
              nc_lt (nc_si w 913 aa j43 1) fun w44 =>
              nc_li (xd + 1) fun x45 =>
              nc_Run m_X12_isSaid 4 [some (.inr (.inr (12, aa))), some (.inl xb), some (.inl x40), some (.inl x45), none] [] w44
            else
              nc_bd x40 45 fun j46 =>
              if (w.1 913 aa j46) = 0 then
                nc_bd (x40 - 1) 45 fun j47 =>
                nc_lt (nc_si w 913 aa j47 0) fun w48 =>
                nc_li (xd + 1) fun x49 =>
                nc_Run m_X12_isSaid 4 [some (.inr (.inr (12, aa))), some (.inl xb), some (.inl x40), some (.inl x49), none] [] w48
              else
                nc_bd (x40 - 1) 45 fun j50 =>
                nc_lt (nc_si w 913 aa j50 1) fun w51 =>
                nc_li (xd + 1) fun x52 =>
                nc_Run m_X12_isSaid 4 [some (.inr (.inr (12, aa))), some (.inl xb), some (.inl x40), some (.inl x52), none] [] w51
          else
            nc_bd (x40 - 1) 45 fun j53 =>
            if (w.1 913 aa j53) = 0 then
              nc_bd (x40 - 1) 45 fun j54 =>
              nc_lt (nc_si w 913 aa j54 0) fun w55 =>
              nc_li (xd + 1) fun x56 =>
              nc_Run m_X12_isSaid 4 [some (.inr (.inr (12, aa))), some (.inl xb), some (.inl x40), some (.inl x56), none] [] w55
            else
              nc_bd x40 45 fun j57 =>
              if (w.1 913 aa j57) = 0 then
                nc_bd (x40 - 1) 45 fun j58 =>
                nc_lt (nc_si w 913 aa j58 0) fun w59 =>
                nc_li (xd + 1) fun x60 =>
                nc_Run m_X12_isSaid 4 [some (.inr (.inr (12, aa))), some (.inl xb), some (.inl x40), some (.inl x60), none] [] w59
              else
                nc_bd (x40 - 1) 45 fun j61 =>
                nc_lt (nc_si w 913 aa j61 1) fun w62 =>
                nc_li (xd + 1) fun x63 =>
                nc_Run m_X12_isSaid 4 [some (.inr (.inr (12, aa))), some (.inl xb), some (.inl x40), some (.inl x63), none] [] w62
    else
      nc_bd (xc - 1) 45 fun j64 =>
      if (w.1 913 aa j64) ≠ 0 then
        nc_bd (xc - 1) 45 fun j65 =>
        nc_lt (nc_si w 913 aa j65 0) fun w66 =>
        nc_li (xd + 1) fun x67 =>
        nc_Run m_X12_isSaid 4 [some (.inr (.inr (12, aa))), some (.inl xb), some (.inl xc), some (.inl x67), none] [] w66
      else
        nc_bd (xc - 1) 45 fun j68 =>
        nc_lt (nc_si w 913 aa j68 1) fun w69 =>
        nc_li (xd + 1) fun x70 =>
        nc_Run m_X12_isSaid 4 [some (.inr (.inr (12, aa))), some (.inl xb), some (.inl xc), some (.inl x70), none] [] w69 :=
  (nc_Run_un [4] 61).trans rfl
set_option maxRecDepth 100000 in
theorem qc_X12_said (aa : Nat) (xb : Int32) (w : nc_H) : nc_Call m_X12_said [.inr (.inr (12, aa)), .inl xb] w =
  nc_lt (nc_si w 12 aa 0 0) fun w1 =>
  nc_bd 332 513 fun j2 =>
  if (w1.1 874 aa j2) = 0 then
    some (some (.inl (-1)), w1)
  else
    if (-1 : Int32) ≤ xb then
      nc_Run m_X12_said 27 [some (.inr (.inr (12, aa))), some (.inl xb), some (.inl 0), some (.inl 0)] [] w1
    else
      some (some (.inl (-1)), w1) :=
  (nc_Call_eq _ _ _).trans ((if_pos (Nat.le_of_ble_eq_true rfl)).trans ((nc_Run_un [27] 16).trans rfl))
set_option maxRecDepth 100000 in
theorem qr_X12_said_27 (aa : Nat) (xb : Int32) (xc : Int32) (xd : Int32) (w : nc_H) : nc_Run m_X12_said 27 [some (.inr (.inr (12, aa))), some (.inl xb), some (.inl xc), some (.inl xd)] [] w =
  nc_bd 1 513 fun j1 =>
  if (w.1 874 aa j1) ≤ xd then
    if xb ≠ (-1) then
      some (some (.inl (-1)), w)
    else
      some (some (.inl xc), w)
  else
    nc_bI (nc_Call m_X12_isSaid [.inr (.inr (12, aa)), .inl xd] w) fun r3 w2 =>
    if r3 ≠ 0 then
      if xc ≠ xb then
        nc_li (xc + 1) fun x4 =>
        nc_li (xd + 1) fun x5 =>
        nc_Run m_X12_said 27 [some (.inr (.inr (12, aa))), some (.inl xb), some (.inl x4), some (.inl x5)] [] w2
      else
        some (some (.inl xd), w2)
    else
      nc_li (xd + 1) fun x6 =>
      nc_Run m_X12_said 27 [some (.inr (.inr (12, aa))), some (.inl xb), some (.inl xc), some (.inl x6)] [] w2 :=
  (nc_Run_un [27] 17).trans rfl
set_option maxRecDepth 100000 in
theorem qc_X12_image (aa : Nat) (xb : Int32) (w : nc_H) : nc_Call m_X12_image [.inr (.inr (12, aa)), .inl xb] w =
  nc_lt (nc_si w 12 aa 0 0) fun w1 =>
  nc_bI (nc_Call m_X12_isIn [.inl xb, .inl 0, .inl 1] w1) fun r3 w2 =>
  if r3 ≠ 0 then
    nc_Run m_X12_image 18 [some (.inr (.inr (12, aa))), some (.inl xb), some (.inl 0)] [] w2
  else
    some (some (.inl 0), w2) :=
  (nc_Call_eq _ _ _).trans ((if_pos (Nat.le_of_ble_eq_true rfl)).trans ((nc_Run_un [18, 51] 11).trans rfl))
set_option maxRecDepth 100000 in
theorem qr_X12_image_18 (aa : Nat) (xb : Int32) (xc : Int32) (w : nc_H) : nc_Run m_X12_image 18 [some (.inr (.inr (12, aa))), some (.inl xb), some (.inl xc)] [] w =
  if (513 : Int32) ≤ xc then
    nc_Run m_X12_image 51 [some (.inr (.inr (12, aa))), some (.inl xb), some (.inl 0)] [] w
  else
    nc_bd xc 513 fun j1 =>
    nc_bd ((513 * xb) + xc) 1026 fun j2 =>
    nc_lt (nc_si w 914 aa j2 (w.1 874 aa j1)) fun w3 =>
    nc_li (xc + 1) fun x4 =>
    nc_Run m_X12_image 18 [some (.inr (.inr (12, aa))), some (.inl xb), some (.inl x4)] [] w3 :=
  (nc_Run_un [18, 51] 18).trans rfl
set_option maxRecDepth 100000 in
theorem qr_X12_image_51 (aa : Nat) (xb : Int32) (xc : Int32) (w : nc_H) : nc_Run m_X12_image 51 [some (.inr (.inr (12, aa))), some (.inl xb), some (.inl xc)] [] w =
  if (22 : Int32) ≤ xc then
    nc_bd xb 2 fun j1 =>
    nc_lt (nc_si w 916 aa j1 1) fun w2 =>
    some (some (.inl 1), w2)
  else
    nc_bd xc 44 fun j3 =>
    nc_bd ((22 * xb) + xc) 44 fun j4 =>
    nc_lt (nc_sl w 915 aa j4 (w.2 877 aa j3)) fun w5 =>
    nc_li (xc + 1) fun x6 =>
    nc_Run m_X12_image 51 [some (.inr (.inr (12, aa))), some (.inl xb), some (.inl x6)] [] w5 :=
  (nc_Run_un [18, 51] 18).trans rfl
set_option maxRecDepth 100000 in
theorem qc_X12_restore (aa : Nat) (xb : Int32) (w : nc_H) : nc_Call m_X12_restore [.inr (.inr (12, aa)), .inl xb] w =
  nc_lt (nc_si w 12 aa 0 0) fun w1 =>
  nc_bI (nc_Call m_X12_isIn [.inl xb, .inl 0, .inl 1] w1) fun r3 w2 =>
  if r3 = 0 then
    some (some (.inl 0), w2)
  else
    nc_bd xb 2 fun j4 =>
    if (w2.1 916 aa j4) ≠ 0 then
      nc_Run m_X12_restore 27 [some (.inr (.inr (12, aa))), some (.inl xb), some (.inl 0)] [] w2
    else
      some (some (.inl 0), w2) :=
  (nc_Call_eq _ _ _).trans ((if_pos (Nat.le_of_ble_eq_true rfl)).trans ((nc_Run_un [27, 60] 16).trans rfl))
set_option maxRecDepth 100000 in
theorem qr_X12_restore_27 (aa : Nat) (xb : Int32) (xc : Int32) (w : nc_H) : nc_Run m_X12_restore 27 [some (.inr (.inr (12, aa))), some (.inl xb), some (.inl xc)] [] w =
  if (513 : Int32) ≤ xc then
    nc_Run m_X12_restore 60 [some (.inr (.inr (12, aa))), some (.inl xb), some (.inl 0)] [] w
  else
    nc_bd ((513 * xb) + xc) 1026 fun j1 =>
    nc_bd xc 513 fun j2 =>
    nc_lt (nc_si w 874 aa j2 (w.1 914 aa j1)) fun w3 =>
    nc_li (xc + 1) fun x4 =>
    nc_Run m_X12_restore 27 [some (.inr (.inr (12, aa))), some (.inl xb), some (.inl x4)] [] w3 :=
  (nc_Run_un [27, 60] 18).trans rfl
set_option maxRecDepth 100000 in
theorem qr_X12_restore_60 (aa : Nat) (xb : Int32) (xc : Int32) (w : nc_H) : nc_Run m_X12_restore 60 [some (.inr (.inr (12, aa))), some (.inl xb), some (.inl xc)] [] w =
  if (22 : Int32) ≤ xc then
    nc_lt (nc_si w 12 aa 24 0) fun w1 =>
    some (some (.inl 1), w1)
  else
    nc_bd ((22 * xb) + xc) 44 fun j2 =>
    nc_bd xc 44 fun j3 =>
    nc_lt (nc_sl w 877 aa j3 (w.2 915 aa j2)) fun w4 =>
    nc_li (xc + 1) fun x5 =>
    nc_Run m_X12_restore 60 [some (.inr (.inr (12, aa))), some (.inl xb), some (.inl x5)] [] w4 :=
  (nc_Run_un [27, 60] 18).trans rfl
set_option maxRecDepth 100000 in
theorem qc_X12_count (aa : Nat) (xb : Int32) (w : nc_H) : nc_Call m_X12_count [.inr (.inr (12, aa)), .inl xb] w =
  nc_lt (nc_si w 12 aa 0 0) fun w1 =>
  if xb ≠ 5 then
    nc_bI (nc_Call m_X12_isIn [.inl xb, .inl 0, .inl 4] w1) fun r3 w2 =>
    if r3 = 0 then
      some (some (.inl (-1)), w2)
    else
      nc_bd xb 513 fun j4 =>
      some (some (.inl (w2.1 874 aa j4)), w2)
  else
    some (some (.inl (w1.1 12 aa 2)), w1) :=
  (nc_Call_eq _ _ _).trans ((if_pos (Nat.le_of_ble_eq_true rfl)).trans ((nc_Run_un [] 17).trans rfl))
