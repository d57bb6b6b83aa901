set_option maxRecDepth 100000 in
theorem qc_X1_setAfter (xa : Int32) (xb : Int32) (w : nc_H) : nc_Call m_X1_setAfter [.inl xa, .inl xb] w =
  some (some (.inl ((xa - xb) &&& xb)), w) :=
  (nc_Call_eq _ _ _).trans ((if_pos (Nat.le_of_ble_eq_true rfl)).trans ((nc_Run_un [] 6).trans rfl))
set_option maxRecDepth 100000 in
theorem qc_X1_countNews (aa : Nat) (xb : Int32) (w : nc_H) : nc_Call m_X1_countNews [.inr (.inr (1, aa)), .inl xb] w =
  nc_Run m_X1_countNews 2 [some (.inr (.inr (1, aa))), some (.inl xb), some (.inl 0)] [] w :=
  (nc_Call_eq _ _ _).trans ((if_pos (Nat.le_of_ble_eq_true rfl)).trans ((nc_Run_un [2] 3).trans rfl))
set_option maxRecDepth 100000 in
theorem qr_X1_countNews_2 (aa : Nat) (xb : Int32) (xc : Int32) (w : nc_H) : nc_Run m_X1_countNews 2 [some (.inr (.inr (1, aa))), some (.inl xb), some (.inl xc)] [] w =
  if (w.1 2 0 3) ≤ xc then
    some (none, w)
  else
    nc_bd xc 10 fun j1 =>
    nc_bd xc 10 fun j2 =>
    nc_lt (nc_si w 167 aa j2 ((w.1 167 aa j1) + ((xb >>> (xc &&& 31)) &&& 1))) fun w3 =>
    nc_li (xc + 1) fun x4 =>
    nc_Run m_X1_countNews 2 [some (.inr (.inr (1, aa))), some (.inl xb), some (.inl x4)] [] w3 :=
  (nc_Run_un [2] 20).trans rfl
set_option maxRecDepth 100000 in
theorem qc_X2_isLie (aa : Nat) (xb : Int32) (w : nc_H) : nc_Call m_X2_isLie [.inr (.inr (2, aa)), .inl xb] w =
  if (((w.1 2 aa 6) >>> (xb &&& 31)) &&& 1) ≠ 1 then
    some (some (.inl 0), w)
  else
    some (some (.inl 1), w) :=
  (nc_Call_eq _ _ _).trans ((if_pos (Nat.le_of_ble_eq_true rfl)).trans ((nc_Run_un [] 11).trans rfl))
set_option maxRecDepth 100000 in
theorem qc_X2_allCows (aa : Nat) (w : nc_H) : nc_Call m_X2_allCows [.inr (.inr (2, aa))] w =
  some (some (.inl ((1 <<< ((w.1 2 aa 2) &&& 31)) - 1)), w) :=
  (nc_Call_eq _ _ _).trans ((if_pos (Nat.le_of_ble_eq_true rfl)).trans ((nc_Run_un [] 7).trans rfl))
set_option maxRecDepth 100000 in
theorem qc_X2_allNews (aa : Nat) (w : nc_H) : nc_Call m_X2_allNews [.inr (.inr (2, aa))] w =
  some (some (.inl ((1 <<< ((w.1 2 aa 3) &&& 31)) - 1)), w) :=
  (nc_Call_eq _ _ _).trans ((if_pos (Nat.le_of_ble_eq_true rfl)).trans ((nc_Run_un [] 7).trans rfl))
set_option maxRecDepth 100000 in
theorem qc_X2_slotOf (aa : Nat) (yb : Int64) (w : nc_H) : nc_Call m_X2_slotOf [.inr (.inr (2, aa)), .inr (.inl yb)] w =
  nc_Run m_X2_slotOf 2 [some (.inr (.inr (2, aa))), some (.inr (.inl yb)), none, some (.inl 0)] [] w :=
  (nc_Call_eq _ _ _).trans ((if_pos (Nat.le_of_ble_eq_true rfl)).trans ((nc_Run_un [2] 3).trans rfl))
set_option maxRecDepth 100000 in
theorem qr_X2_slotOf_2 (aa : Nat) (yb : Int64) (xd : Int32) (w : nc_H) : nc_Run m_X2_slotOf 2 [some (.inr (.inr (2, aa))), some (.inr (.inl yb)), none, some (.inl xd)] [] w =
  if (22 : Int32) ≤ xd then
    some (some (.inl (-1)), w)
  else
    nc_bd xd 22 fun j1 =>
    if (lg_cmp (w.2 236 aa j1) yb) ≠ 0 then
      nc_li (xd + 1) fun x2 =>
      nc_Run m_X2_slotOf 2 [some (.inr (.inr (2, aa))), some (.inr (.inl yb)), none, some (.inl x2)] [] w
    else
      some (some (.inl xd), w) :=
  (nc_Run_un [2] 13).trans rfl
set_option maxRecDepth 100000 in
theorem qc_X2_hedgesOf (aa : Nat) (xb : Int32) (w : nc_H) : nc_Call m_X2_hedgesOf [.inr (.inr (2, aa)), .inl xb] w =
  nc_Run m_X2_hedgesOf 4 [some (.inr (.inr (2, aa))), some (.inl xb), some (.inl 0), some (.inl 0)] [] w :=
  (nc_Call_eq _ _ _).trans ((if_pos (Nat.le_of_ble_eq_true rfl)).trans ((nc_Run_un [4] 5).trans rfl))
set_option maxRecDepth 100000 in
theorem qr_X2_hedgesOf_4 (aa : Nat) (xb : Int32) (xc : Int32) (xd : Int32) (w : nc_H) : nc_Run m_X2_hedgesOf 4 [some (.inr (.inr (2, aa))), some (.inl xb), some (.inl xc), some (.inl xd)] [] w =
  if (w.1 2 aa 4) ≤ xd then
    some (some (.inl xc), w)
  else
    nc_bd xd 6 fun j1 =>
    if (w.1 244 aa j1) = xb then
      nc_li (xc ||| (1 <<< (xd &&& 31))) fun x2 =>
      nc_li (xd + 1) fun x3 =>
      nc_Run m_X2_hedgesOf 4 [some (.inr (.inr (2, aa))), some (.inl xb), some (.inl x2), some (.inl x3)] [] w
    else
      nc_bd xd 6 fun j4 =>
      if (w.1 245 aa j4) ≠ xb then
        nc_li (xd + 1) fun x5 =>
        nc_Run m_X2_hedgesOf 4 [some (.inr (.inr (2, aa))), some (.inl xb), some (.inl xc), some (.inl x5)] [] w
      else
        nc_li (xc ||| (1 <<< (xd &&& 31))) fun x6 =>
        nc_li (xd + 1) fun x7 =>
        nc_Run m_X2_hedgesOf 4 [some (.inr (.inr (2, aa))), some (.inl xb), some (.inl x6), some (.inl x7)] [] w :=
  (nc_Run_un [4] 25).trans rfl
set_option maxRecDepth 100000 in
theorem qc_X2_comesTo (aa : Nat) (xb : Int32) (xc : Int32) (xd : Int32) (w : nc_H) : nc_Call m_X2_comesTo [.inr (.inr (2, aa)), .inl xb, .inl xc, .inl xd] w =
  nc_li (1 <<< (xb &&& 31)) fun x1 =>
  nc_Run m_X2_comesTo 8 [some (.inr (.inr (2, aa))), none, some (.inl xc), some (.inl xd), some (.inl x1), some (.inl 1), none, none] [] w :=
  (nc_Call_eq _ _ _).trans ((if_pos (Nat.le_of_ble_eq_true rfl)).trans ((nc_Run_un [8, 20] 7).trans rfl))
set_option maxRecDepth 100000 in
theorem qr_X2_comesTo_8 (aa : Nat) (xc : Int32) (xd : Int32) (xe : Int32) (xf : Int32) (w : nc_H) : nc_Run m_X2_comesTo 8 [some (.inr (.inr (2, aa))), none, some (.inl xc), some (.inl xd), some (.inl xe), some (.inl xf), none, none] [] w =
  if (w.1 2 aa 1) ≤ xf then
    if ((xe >>> (xc &&& 31)) &&& 1) ≠ 1 then
      some (some (.inl 0), w)
    else
      some (some (.inl 1), w)
  else
    nc_Run m_X2_comesTo 20 [some (.inr (.inr (2, aa))), none, some (.inl xc), some (.inl xd), some (.inl xe), some (.inl xf), some (.inl 0), none] [] w :=
  (nc_Run_un [8, 20] 14).trans rfl
set_option maxRecDepth 100000 in
theorem qr_X2_comesTo_20 (aa : Nat) (xc : Int32) (xd : Int32) (xe : Int32) (xf : Int32) (xg : Int32) (w : nc_H) : nc_Run m_X2_comesTo 20 [some (.inr (.inr (2, aa))), none, some (.inl xc), some (.inl xd), some (.inl xe), some (.inl xf), some (.inl xg), none] [] w =
  if (w.1 2 aa 4) ≤ xg then
    nc_li (xf + 1) fun x1 =>
    nc_Run m_X2_comesTo 8 [some (.inr (.inr (2, aa))), none, some (.inl xc), some (.inl xd), some (.inl xe), some (.inl x1), none, none] [] w
  else
    nc_bd xg 6 fun j2 =>
    nc_bd xg 6 fun j3 =>
    nc_li ((1 <<< ((w.1 244 aa j2) &&& 31)) ||| (1 <<< ((w.1 245 aa j3) &&& 31))) fun x4 =>
    if ((xd >>> (xg &&& 31)) &&& 1) ≠ 0 then
      nc_li (xg + 1) fun x5 =>
      nc_Run m_X2_comesTo 20 [some (.inr (.inr (2, aa))), none, some (.inl xc), some (.inl xd), some (.inl xe), some (.inl xf), some (.inl x5), none] [] w
    else
      if (xe &&& x4) = 0 then
        nc_li (xg + 1) fun x6 =>
        nc_Run m_X2_comesTo 20 [some (.inr (.inr (2, aa))), none, some (.inl xc), some (.inl xd), some (.inl xe), some (.inl xf), some (.inl x6), none] [] w
      else
        nc_li (xe ||| x4) fun x7 =>
        nc_li (xg + 1) fun x8 =>
        nc_Run m_X2_comesTo 20 [some (.inr (.inr (2, aa))), none, some (.inl xc), some (.inl xd), some (.inl x7), some (.inl xf), some (.inl x8), none] [] w :=
  (nc_Run_un [8, 20] 35).trans rfl
set_option maxRecDepth 100000 in
theorem qc_X4_draw (aa : Nat) (xb : Int32) (w : nc_H) : nc_Call m_X4_draw [.inr (.inr (4, aa)), .inl xb] w =
  nc_lt (nc_si w 4 aa 0 (((w.1 4 aa 0) * 1103515245) + 12345)) fun w1 =>
  if xb ≤ 0 then
    some (some (.inl 0), w1)
  else
    if xb = 0 then none else
    some (some (.inl ((((w1.1 4 aa 0).toUInt32 >>> ((8 : Int32).toUInt32 &&& Int32.toUInt32 31)).toInt32) - (((w1.1 4 aa 0).toUInt32 >>> ((8 : Int32).toUInt32 &&& Int32.toUInt32 31)).toInt32) / xb * xb)), w1) :=
  (nc_Call_eq _ _ _).trans ((if_pos (Nat.le_of_ble_eq_true rfl)).trans ((nc_Run_un [] 18).trans rfl))
set_option maxRecDepth 100000 in
theorem qc_X5_clear (aa : Nat) (w : nc_H) : nc_Call m_X5_clear [.inr (.inr (5, aa))] w =
  nc_lt (nc_si w 5 aa 2 0) fun w1 =>
  some (none, w1) :=
  (nc_Call_eq _ _ _).trans ((if_pos (Nat.le_of_ble_eq_true rfl)).trans ((nc_Run_un [] 4).trans rfl))
set_option maxRecDepth 100000 in
theorem qc_X7_isDry (aa : Nat) (xb : Int32) (w : nc_H) : nc_Call m_X7_isDry [.inr (.inr (7, aa)), .inl xb] w =
  if (((w.1 7 aa 3) >>> (xb &&& 31)) &&& 1) ≠ 1 then
    some (some (.inl 0), w)
  else
    some (some (.inl 1), w) :=
  (nc_Call_eq _ _ _).trans ((if_pos (Nat.le_of_ble_eq_true rfl)).trans ((nc_Run_un [] 11).trans rfl))
set_option maxRecDepth 100000 in
theorem qc_X7_isCurdled (aa : Nat) (xb : Int32) (w : nc_H) : nc_Call m_X7_isCurdled [.inr (.inr (7, aa)), .inl xb] w =
  nc_bd xb 8 fun j1 =>
  if (6 : Int32) < ((w.1 7 aa 1) - (w.1 558 aa j1)) then
    some (some (.inl 0), w)
  else
    some (some (.inl 1), w) :=
  (nc_Call_eq _ _ _).trans ((if_pos (Nat.le_of_ble_eq_true rfl)).trans ((nc_Run_un [] 12).trans rfl))
set_option maxRecDepth 100000 in
theorem qc_X7_comes (aa : Nat) (xb : Int32) (xc : Int32) (w : nc_H) : nc_Call m_X7_comes [.inr (.inr (7, aa)), .inl xb, .inl xc] w =
  nc_bd xb 8 fun j1 =>
  nc_bd xb 8 fun j2 =>
  nc_lt (nc_si w 554 aa j2 ((w.1 554 aa j1) ||| (1 <<< (xc &&& 31)))) fun w3 =>
  nc_bd ((xb * 10) + xc) 80 fun j4 =>
  nc_lt (nc_si w3 553 aa j4 (w3.1 7 aa 1)) fun w5 =>
  some (none, w5) :=
  (nc_Call_eq _ _ _).trans ((if_pos (Nat.le_of_ble_eq_true rfl)).trans ((nc_Run_un [] 21).trans rfl))
set_option maxRecDepth 100000 in
theorem qc_X7_addedBy (aa : Nat) (xb : Int32) (xc : Int32) (xd : Int32) (w : nc_H) : nc_Call m_X7_addedBy [.inr (.inr (7, aa)), .inl xb, .inl xc, .inl xd] w =
  nc_bd xb 10 fun j1 =>
  if (w.1 242 (nc_ld aa) j1) = 0 then
    nc_Run m_X7_addedBy 27 [some (.inr (.inr (7, aa))), some (.inl xb), some (.inl xc), some (.inl xd), none] [] w
  else
    nc_bd xb 10 fun j2 =>
    if (w.1 242 (nc_ld aa) j2) = 1 then
      nc_Run m_X7_addedBy 27 [some (.inr (.inr (7, aa))), some (.inl xb), some (.inl xc), some (.inl xd), none] [] w
    else
      some (some (.inl 0), w) :=
  (nc_Call_eq _ _ _).trans ((if_pos (Nat.le_of_ble_eq_true rfl)).trans ((nc_Run_un [27] 15).trans rfl))
set_option maxRecDepth 100000 in
theorem qr_X7_addedBy_27 (aa : Nat) (xb : Int32) (xc : Int32) (xd : Int32) (w : nc_H) : nc_Run m_X7_addedBy 27 [some (.inr (.inr (7, aa))), some (.inl xb), some (.inl xc), some (.inl xd), none] [] w =
  nc_bd xb 10 fun j1 =>
  nc_li (w.1 243 (nc_ld aa) j1) fun x2 =>
  if ((((w.1 2 (nc_ld aa) 6) &&& ((w.1 7 aa 4) ^^^ (-1))) >>> (xb &&& 31)) &&& 1) ≠ 1 then
    nc_bd xb 10 fun j3 =>
    if (w.1 242 (nc_ld aa) j3) ≠ 1 then
      if ((xd >>> (xb &&& 31)) &&& 1) ≠ 1 then
        some (some (.inl x2), w)
      else
        some (some (.inl (x2 / 2)), w)
    else
      if ((xc >>> (xb &&& 31)) &&& 1) ≠ 1 then
        if ((xd >>> (xb &&& 31)) &&& 1) ≠ 1 then
          some (some (.inl x2), w)
        else
          some (some (.inl (x2 / 2)), w)
      else
        nc_li (x2 * 2) fun x4 =>
        if ((xd >>> (xb &&& 31)) &&& 1) ≠ 1 then
          some (some (.inl x4), w)
        else
          some (some (.inl (x4 / 2)), w)
  else
    nc_li (x2 + 5) fun x5 =>
    nc_bd xb 10 fun j6 =>
    if (w.1 242 (nc_ld aa) j6) ≠ 1 then
      if ((xd >>> (xb &&& 31)) &&& 1) ≠ 1 then
        some (some (.inl x5), w)
      else
        some (some (.inl (x5 / 2)), w)
    else
      if ((xc >>> (xb &&& 31)) &&& 1) ≠ 1 then
        if ((xd >>> (xb &&& 31)) &&& 1) ≠ 1 then
          some (some (.inl x5), w)
        else
          some (some (.inl (x5 / 2)), w)
      else
        nc_li (x5 * 2) fun x7 =>
        if ((xd >>> (xb &&& 31)) &&& 1) ≠ 1 then
          some (some (.inl x7), w)
        else
          some (some (.inl (x7 / 2)), w) :=
  (nc_Run_un [27] 51).trans rfl
set_option maxRecDepth 100000 in
theorem qc_X7_heardByOthers (aa : Nat) (xb : Int32) (w : nc_H) : nc_Call m_X7_heardByOthers [.inr (.inr (7, aa)), .inl xb] w =
  nc_Run m_X7_heardByOthers 4 [some (.inr (.inr (7, aa))), some (.inl xb), some (.inl 0), some (.inl 0)] [] w :=
  (nc_Call_eq _ _ _).trans ((if_pos (Nat.le_of_ble_eq_true rfl)).trans ((nc_Run_un [4] 5).trans rfl))
set_option maxRecDepth 100000 in
theorem qr_X7_heardByOthers_4 (aa : Nat) (xb : Int32) (xc : Int32) (xd : Int32) (w : nc_H) : nc_Run m_X7_heardByOthers 4 [some (.inr (.inr (7, aa))), some (.inl xb), some (.inl xc), some (.inl xd)] [] w =
  if (w.1 2 (nc_ld aa) 2) ≤ xd then
    some (some (.inl xc), w)
  else
    if xd = xb then
      nc_li (xd + 1) fun x1 =>
      nc_Run m_X7_heardByOthers 4 [some (.inr (.inr (7, aa))), some (.inl xb), some (.inl xc), some (.inl x1)] [] w
    else
      nc_bd xd 8 fun j2 =>
      nc_bd xb 8 fun j3 =>
      if (w.1 238 (nc_ld aa) j2) ≠ (w.1 238 (nc_ld aa) j3) then
        nc_li (xd + 1) fun x4 =>
        nc_Run m_X7_heardByOthers 4 [some (.inr (.inr (7, aa))), some (.inl xb), some (.inl xc), some (.inl x4)] [] w
      else
        nc_bd xd 8 fun j5 =>
        nc_li (xc ||| (w.1 555 aa j5)) fun x6 =>
        nc_li (xd + 1) fun x7 =>
        nc_Run m_X7_heardByOthers 4 [some (.inr (.inr (7, aa))), some (.inl xb), some (.inl x6), some (.inl x7)] [] w :=
  (nc_Run_un [4] 29).trans rfl
set_option maxRecDepth 100000 in
theorem qc_X7_talking (aa : Nat) (w : nc_H) : nc_Call m_X7_talking [.inr (.inr (7, aa))] w =
  nc_Run m_X7_talking 4 [some (.inr (.inr (7, aa))), some (.inl 0), some (.inl 0), none] [] w :=
  (nc_Call_eq _ _ _).trans ((if_pos (Nat.le_of_ble_eq_true rfl)).trans ((nc_Run_un [4] 5).trans rfl))
set_option maxRecDepth 100000 in
theorem qr_X7_talking_4 (aa : Nat) (xb : Int32) (xc : Int32) (w : nc_H) : nc_Run m_X7_talking 4 [some (.inr (.inr (7, aa))), some (.inl xb), some (.inl xc), none] [] w =
  if (w.1 2 (nc_ld aa) 4) ≤ xc then
    some (some (.inl xb), w)
  else
    nc_bd xc 6 fun j1 =>
    nc_li (w.1 246 (nc_ld aa) j1) fun x2 =>
    if x2 ≤ 0 then
      nc_li (xc + 1) fun x3 =>
      nc_Run m_X7_talking 4 [some (.inr (.inr (7, aa))), some (.inl xb), some (.inl x3), none] [] w
    else
      if x2 = 0 then none else
      if (((w.1 7 aa 1) + 1) - ((w.1 7 aa 1) + 1) / x2 * x2) ≠ 0 then
        nc_li (xc + 1) fun x4 =>
        nc_Run m_X7_talking 4 [some (.inr (.inr (7, aa))), some (.inl xb), some (.inl x4), none] [] w
      else
        nc_li (xb ||| (1 <<< (xc &&& 31))) fun x5 =>
        nc_li (xc + 1) fun x6 =>
        nc_Run m_X7_talking 4 [some (.inr (.inr (7, aa))), some (.inl x5), some (.inl x6), none] [] w :=
  (nc_Run_un [4] 29).trans rfl
set_option maxRecDepth 100000 in
theorem qc_X7_forget (aa : Nat) (xb : Int32) (w : nc_H) : nc_Call m_X7_forget [.inr (.inr (7, aa)), .inl xb] w =
  nc_Run m_X7_forget 2 [some (.inr (.inr (7, aa))), some (.inl xb), some (.inl 0)] [] w :=
  (nc_Call_eq _ _ _).trans ((if_pos (Nat.le_of_ble_eq_true rfl)).trans ((nc_Run_un [2] 3).trans rfl))
set_option maxRecDepth 100000 in
theorem qr_X7_forget_2 (aa : Nat) (xb : Int32) (xc : Int32) (w : nc_H) : nc_Run m_X7_forget 2 [some (.inr (.inr (7, aa))), some (.inl xb), some (.inl xc)] [] w =
  if (w.1 2 (nc_ld aa) 3) ≤ xc then
    some (none, w)
  else
    nc_bd xb 8 fun j1 =>
    if ((w.1 554 aa j1) >>> (xc &&& 31)) = 0 then
      some (none, w)
    else
      nc_bd ((xb * 10) + xc) 80 fun j2 =>
      nc_bd xb 8 fun j3 =>
      if ((w.1 7 aa 1) - (w.1 553 aa j2)) ≤ (w.1 241 (nc_ld aa) j3) then
        nc_li (xc + 1) fun x4 =>
        nc_Run m_X7_forget 2 [some (.inr (.inr (7, aa))), some (.inl xb), some (.inl x4)] [] w
      else
        nc_bd xb 8 fun j5 =>
        nc_bd xb 8 fun j6 =>
        nc_lt (nc_si w 554 aa j6 ((w.1 554 aa j5) &&& ((1 <<< (xc &&& 31)) ^^^ (-1)))) fun w7 =>
        nc_li (xc + 1) fun x8 =>
        nc_Run m_X7_forget 2 [some (.inr (.inr (7, aa))), some (.inl xb), some (.inl x8)] [] w7 :=
  (nc_Run_un [2] 44).trans rfl
set_option maxRecDepth 100000 in
theorem qc_X7_allPails (aa : Nat) (w : nc_H) : nc_Call m_X7_allPails [.inr (.inr (7, aa))] w =
  nc_Run m_X7_allPails 4 [some (.inr (.inr (7, aa))), some (.inl 0), some (.inl 0)] [] w :=
  (nc_Call_eq _ _ _).trans ((if_pos (Nat.le_of_ble_eq_true rfl)).trans ((nc_Run_un [4] 5).trans rfl))
set_option maxRecDepth 100000 in
theorem qr_X7_allPails_4 (aa : Nat) (xb : Int32) (xc : Int32) (w : nc_H) : nc_Run m_X7_allPails 4 [some (.inr (.inr (7, aa))), some (.inl xb), some (.inl xc)] [] w =
  if (4 : Int32) ≤ xc then
    some (some (.inl xb), w)
  else
    nc_bd xc 4 fun j1 =>
    nc_li (xb + (w.1 561 aa j1)) fun x2 =>
    nc_li (xc + 1) fun x3 =>
    nc_Run m_X7_allPails 4 [some (.inr (.inr (7, aa))), some (.inl x2), some (.inl x3)] [] w :=
  (nc_Run_un [4] 13).trans rfl
set_option maxRecDepth 100000 in
theorem qc_X7_pailsOn (aa : Nat) (xb : Int32) (xc : Int32) (w : nc_H) : nc_Call m_X7_pailsOn [.inr (.inr (7, aa)), .inl xb, .inl xc] w =
  if xc < 0 then
    some (some (.inl (-1)), w)
  else
    if (w.1 7 aa 1) ≤ xc then
      some (some (.inl (-1)), w)
    else
      if ((w.1 7 aa 1) - 30) ≤ xc then
        nc_bd (((xc - xc / 30 * 30) * 4) + xb) 120 fun j1 =>
        some (some (.inl (w.1 562 aa j1)), w)
      else
        some (some (.inl (-1)), w) :=
  (nc_Call_eq _ _ _).trans ((if_pos (Nat.le_of_ble_eq_true rfl)).trans ((nc_Run_un [] 23).trans rfl))
set_option maxRecDepth 100000 in
theorem qc_X9_clear (aa : Nat) (w : nc_H) : nc_Call m_X9_clear [.inr (.inr (9, aa))] w =
  nc_lt (nc_si w 9 aa 3 0) fun w1 =>
  nc_lt (nc_si w1 9 aa 4 0) fun w2 =>
  some (none, w2) :=
  (nc_Call_eq _ _ _).trans ((if_pos (Nat.le_of_ble_eq_true rfl)).trans ((nc_Run_un [] 7).trans rfl))
set_option maxRecDepth 100000 in
theorem qc_X9_put (aa : Nat) (xb : Int32) (xc : Int32) (xd : Int32) (w : nc_H) : nc_Call m_X9_put [.inr (.inr (9, aa)), .inl xb, .inl xc, .inl xd] w =
  if (40 : Int32) ≤ (w.1 9 aa 3) then
    some (none, w)
  else
    nc_bd (w.1 9 aa 3) 40 fun j1 =>
    nc_lt (nc_si w 676 aa j1 xb) fun w2 =>
    nc_bd (w2.1 9 aa 3) 40 fun j3 =>
    nc_lt (nc_si w2 677 aa j3 xc) fun w4 =>
    nc_bd (w4.1 9 aa 3) 40 fun j5 =>
    nc_lt (nc_si w4 678 aa j5 xd) fun w6 =>
    nc_lt (nc_si w6 9 aa 3 ((w6.1 9 aa 3) + 1)) fun w7 =>
    some (none, w7) :=
  (nc_Call_eq _ _ _).trans ((if_pos (Nat.le_of_ble_eq_true rfl)).trans ((nc_Run_un [] 29).trans rfl))
set_option maxRecDepth 100000 in
theorem qc_X9_compares (aa : Nat) (xb : Int32) (xc : Int32) (w : nc_H) : nc_Call m_X9_compares [.inr (.inr (9, aa)), .inl xb, .inl xc] w =
  nc_bd xc 40 fun j1 =>
  if (w.1 677 aa j1) ≠ 60 then
    nc_bd xc 40 fun j2 =>
    if (w.1 677 aa j2) ≠ 62 then
      nc_bd xc 40 fun j3 =>
      if xb ≠ (w.1 678 aa j3) then
        some (some (.inl 0), w)
      else
        some (some (.inl 1), w)
    else
      nc_bd xc 40 fun j4 =>
      if xb ≤ (w.1 678 aa j4) then
        some (some (.inl 0), w)
      else
        some (some (.inl 1), w)
  else
    nc_bd xc 40 fun j5 =>
    if (w.1 678 aa j5) ≤ xb then
      some (some (.inl 0), w)
    else
      some (some (.inl 1), w) :=
  (nc_Call_eq _ _ _).trans ((if_pos (Nat.le_of_ble_eq_true rfl)).trans ((nc_Run_un [] 21).trans rfl))
set_option maxRecDepth 100000 in
theorem qc_X10_withLetter (ya : Int64) (xc : Int32) (w : nc_H) : nc_Call m_X10_withLetter [.inr (.inl ya), .inl xc] w =
  some (some (.inr (.inl ((ya <<< ((5 : Int32).toInt64 &&& 63)) ||| ((xc &&& 31).toInt64)))), w) :=
  (nc_Call_eq _ _ _).trans ((if_pos (Nat.le_of_ble_eq_true rfl)).trans ((nc_Run_un [] 9).trans rfl))
set_option maxRecDepth 100000 in
theorem qc_X10_isLetter (xa : Int32) (w : nc_H) : nc_Call m_X10_isLetter [.inl xa] w =
  if xa < 97 then
    some (some (.inl 0), w)
  else
    if (122 : Int32) < xa then
      some (some (.inl 0), w)
    else
      some (some (.inl 1), w) :=
  (nc_Call_eq _ _ _).trans ((if_pos (Nat.le_of_ble_eq_true rfl)).trans ((nc_Run_un [] 9).trans rfl))
set_option maxRecDepth 100000 in
theorem qc_X10_isDigit (xa : Int32) (w : nc_H) : nc_Call m_X10_isDigit [.inl xa] w =
  if xa < 48 then
    some (some (.inl 0), w)
  else
    if (57 : Int32) < xa then
      some (some (.inl 0), w)
    else
      some (some (.inl 1), w) :=
  (nc_Call_eq _ _ _).trans ((if_pos (Nat.le_of_ble_eq_true rfl)).trans ((nc_Run_un [] 9).trans rfl))
set_option maxRecDepth 100000 in
theorem qc_X10_append (aa : Nat) (xb : Int32) (w : nc_H) : nc_Call m_X10_append [.inr (.inr (10, aa)), .inl xb] w =
  nc_Run m_X10_append 3 [some (.inr (.inr (10, aa))), some (.inl xb), some (.inl 24)] [] w :=
  (nc_Call_eq _ _ _).trans ((if_pos (Nat.le_of_ble_eq_true rfl)).trans ((nc_Run_un [3] 3).trans rfl))
set_option maxRecDepth 100000 in
theorem qr_X10_append_3 (aa : Nat) (xb : Int32) (xc : Int32) (w : nc_H) : nc_Run m_X10_append 3 [some (.inr (.inr (10, aa))), some (.inl xb), some (.inl xc)] [] w =
  if xc < 0 then
    some (none, w)
  else
    if (940 : Int32) ≤ (w.1 10 aa 1) then
      nc_li (xc + (-8)) fun x1 =>
      nc_Run m_X10_append 3 [some (.inr (.inr (10, aa))), some (.inl xb), some (.inl x1)] [] w
    else
      nc_bd (w.1 10 aa 1) 940 fun j2 =>
      nc_lt (nc_si w 740 aa j2 ((((xb.toUInt32 >>> (xc.toUInt32 &&& Int32.toUInt32 31)).toInt32).toInt8.toInt32).toInt8.toInt32)) fun w3 =>
      nc_lt (nc_si w3 10 aa 1 ((w3.1 10 aa 1) + 1)) fun w4 =>
      nc_li (xc + (-8)) fun x5 =>
      nc_Run m_X10_append 3 [some (.inr (.inr (10, aa))), some (.inl xb), some (.inl x5)] [] w4 :=
  (nc_Run_un [3] 24).trans rfl
set_option maxRecDepth 100000 in
theorem qc_X10_at (aa : Nat) (xb : Int32) (w : nc_H) : nc_Call m_X10_at [.inr (.inr (10, aa)), .inl xb] w =
  if xb < 0 then
    some (some (.inl (-1)), w)
  else
    if (940 : Int32) ≤ xb then
      some (some (.inl (-1)), w)
    else
      nc_bd xb 940 fun j1 =>
      some (some (.inl ((w.1 740 aa j1) &&& 255)), w) :=
  (nc_Call_eq _ _ _).trans ((if_pos (Nat.le_of_ble_eq_true rfl)).trans ((nc_Run_un [] 13).trans rfl))
set_option maxRecDepth 100000 in
theorem qc_X10_toldWord (aa : Nat) (yb : Int64) (w : nc_H) : nc_Call m_X10_toldWord [.inr (.inr (10, aa)), .inr (.inl yb)] w =
  nc_Run m_X10_toldWord 2 [some (.inr (.inr (10, aa))), some (.inr (.inl yb)), none, some (.inl 0)] [] w :=
  (nc_Call_eq _ _ _).trans ((if_pos (Nat.le_of_ble_eq_true rfl)).trans ((nc_Run_un [2] 3).trans rfl))
set_option maxRecDepth 100000 in
theorem qr_X10_toldWord_2 (aa : Nat) (yb : Int64) (xd : Int32) (w : nc_H) : nc_Run m_X10_toldWord 2 [some (.inr (.inr (10, aa))), some (.inr (.inl yb)), none, some (.inl xd)] [] w =
  if (24 : Int32) ≤ xd then
    some (some (.inl (-1)), w)
  else
    nc_bd xd 24 fun j1 =>
    if (lg_cmp (w.2 742 aa j1) yb) ≠ 0 then
      nc_li (xd + 1) fun x2 =>
      nc_Run m_X10_toldWord 2 [some (.inr (.inr (10, aa))), some (.inr (.inl yb)), none, some (.inl x2)] [] w
    else
      some (some (.inl xd), w) :=
  (nc_Run_un [2] 13).trans rfl
set_option maxRecDepth 100000 in
theorem qc_X10_add (aa : Nat) (xb : Int32) (xc : Int32) (xd : Int32) (ye : Int64) (w : nc_H) : nc_Call m_X10_add [.inr (.inr (10, aa)), .inl xb, .inl xc, .inl xd, .inr (.inl ye)] w =
  if (901 : Int32) ≤ (w.1 10 aa 7) then
    some (none, w)
  else
    nc_bd (w.1 10 aa 7) 901 fun j1 =>
    nc_lt (nc_si w 743 aa j1 xb) fun w2 =>
    nc_bd (w2.1 10 aa 7) 901 fun j3 =>
    nc_lt (nc_si w2 744 aa j3 xc) fun w4 =>
    nc_bd (w4.1 10 aa 7) 901 fun j5 =>
    nc_lt (nc_si w4 745 aa j5 xd) fun w6 =>
    nc_bd (w6.1 10 aa 7) 901 fun j7 =>
    nc_lt (nc_sl w6 746 aa j7 ye) fun w8 =>
    nc_lt (nc_si w8 10 aa 7 ((w8.1 10 aa 7) + 1)) fun w9 =>
    some (none, w9) :=
  (nc_Call_eq _ _ _).trans ((if_pos (Nat.le_of_ble_eq_true rfl)).trans ((nc_Run_un [] 35).trans rfl))
set_option maxRecDepth 100000 in
theorem qc_X10_next (aa : Nat) (w : nc_H) : nc_Call m_X10_next [.inr (.inr (10, aa))] w =
  if (w.1 10 aa 8) < 0 then
    some (none, w)
  else
    if (w.1 10 aa 7) ≤ (w.1 10 aa 8) then
      some (none, w)
    else
      if (901 : Int32) ≤ (w.1 10 aa 8) then
        some (none, w)
      else
        nc_bd (w.1 10 aa 8) 901 fun j1 =>
        nc_lt (nc_si w 10 aa 10 (w.1 743 aa j1)) fun w2 =>
        nc_bd (w2.1 10 aa 8) 901 fun j3 =>
        nc_lt (nc_si w2 10 aa 11 (w2.1 744 aa j3)) fun w4 =>
        nc_bd (w4.1 10 aa 8) 901 fun j5 =>
        nc_lt (nc_si w4 10 aa 12 (w4.1 745 aa j5)) fun w6 =>
        nc_bd (w6.1 10 aa 8) 901 fun j7 =>
        nc_lt (nc_sl w6 10 aa 13 (w6.2 746 aa j7)) fun w8 =>
        nc_lt (nc_si w8 10 aa 8 ((w8.1 10 aa 8) + 1)) fun w9 =>
        some (none, w9) :=
  (nc_Call_eq _ _ _).trans ((if_pos (Nat.le_of_ble_eq_true rfl)).trans ((nc_Run_un [] 47).trans rfl))
set_option maxRecDepth 100000 in
theorem qc_X10_fail (aa : Nat) (xb : Int32) (w : nc_H) : nc_Call m_X10_fail [.inr (.inr (10, aa)), .inl xb] w =
  nc_lt (nc_si w 10 aa 14 xb) fun w1 =>
  nc_lt (nc_si w1 10 aa 15 (w1.1 10 aa 10)) fun w2 =>
  some (some (.inl 0), w2) :=
  (nc_Call_eq _ _ _).trans ((if_pos (Nat.le_of_ble_eq_true rfl)).trans ((nc_Run_un [] 9).trans rfl))
set_option maxRecDepth 100000 in
theorem qc_X10_word (aa : Nat) (w : nc_H) : nc_Call m_X10_word [.inr (.inr (10, aa))] w =
  if (w.1 10 aa 11) ≠ 2 then
    some (some (.inl (-1)), w)
  else
    some (some (.inl (w.1 10 aa 12)), w) :=
  (nc_Call_eq _ _ _).trans ((if_pos (Nat.le_of_ble_eq_true rfl)).trans ((nc_Run_un [] 8).trans rfl))
set_option maxRecDepth 100000 in
theorem qc_X10_isSign (aa : Nat) (xb : Int32) (w : nc_H) : nc_Call m_X10_isSign [.inr (.inr (10, aa)), .inl xb] w =
  if (w.1 10 aa 11) ≠ 5 then
    some (some (.inl 0), w)
  else
    if (w.1 10 aa 12) ≠ xb then
      some (some (.inl 0), w)
    else
      some (some (.inl 1), w) :=
  (nc_Call_eq _ _ _).trans ((if_pos (Nat.le_of_ble_eq_true rfl)).trans ((nc_Run_un [] 11).trans rfl))
set_option maxRecDepth 100000 in
theorem qc_X11_end (aa : Nat) (xb : Int32) (w : nc_H) : nc_Call m_X11_end [.inr (.inr (11, aa)), .inl xb] w =
  if xb < 0 then
    some (some (.inl 0), w)
  else
    if xb ≤ (w.1 10 0 1) then
      nc_lt (nc_si w 10 0 1 xb) fun w1 =>
      some (some (.inl 1), w1)
    else
      some (some (.inl 0), w) :=
  (nc_Call_eq _ _ _).trans ((if_pos (Nat.le_of_ble_eq_true rfl)).trans ((nc_Run_un [] 13).trans rfl))
set_option maxRecDepth 100000 in
theorem qc_X11_fault (aa : Nat) (w : nc_H) : nc_Call m_X11_fault [.inr (.inr (11, aa))] w =
  some (some (.inl (w.1 10 0 14)), w) :=
  (nc_Call_eq _ _ _).trans ((if_pos (Nat.le_of_ble_eq_true rfl)).trans ((nc_Run_un [] 4).trans rfl))
set_option maxRecDepth 100000 in
theorem qc_X11_told (aa : Nat) (w : nc_H) : nc_Call m_X11_told [.inr (.inr (11, aa))] w =
  some (some (.inl (w.1 1 0 8)), w) :=
  (nc_Call_eq _ _ _).trans ((if_pos (Nat.le_of_ble_eq_true rfl)).trans ((nc_Run_un [] 4).trans rfl))
set_option maxRecDepth 100000 in
theorem qc_X11_planAt (aa : Nat) (xb : Int32) (w : nc_H) : nc_Call m_X11_planAt [.inr (.inr (11, aa)), .inl xb] w =
  if xb < 0 then
    some (some (.inl (-1)), w)
  else
    if (w.1 8 0 5) ≤ xb then
      some (some (.inl (-1)), w)
    else
      nc_bd xb 3 fun j1 =>
      some (some (.inl (w.1 616 0 j1)), w) :=
  (nc_Call_eq _ _ _).trans ((if_pos (Nat.le_of_ble_eq_true rfl)).trans ((nc_Run_un [] 14).trans rfl))
set_option maxRecDepth 100000 in
theorem qc_X11_parted (aa : Nat) (w : nc_H) : nc_Call m_X11_parted [.inr (.inr (11, aa))] w =
  some (some (.inl (w.1 11 aa 15)), w) :=
  (nc_Call_eq _ _ _).trans ((if_pos (Nat.le_of_ble_eq_true rfl)).trans ((nc_Run_un [] 3).trans rfl))
set_option maxRecDepth 100000 in
theorem qc_X11_surely (aa : Nat) (w : nc_H) : nc_Call m_X11_surely [.inr (.inr (11, aa))] w =
  some (some (.inl (w.1 1 0 9)), w) :=
  (nc_Call_eq _ _ _).trans ((if_pos (Nat.le_of_ble_eq_true rfl)).trans ((nc_Run_un [] 4).trans rfl))
set_option maxRecDepth 100000 in
theorem qc_X11_ask (aa : Nat) (w : nc_H) : nc_Call m_X11_ask [.inr (.inr (11, aa))] w =
  some (some (.inl (w.1 1 0 10)), w) :=
  (nc_Call_eq _ _ _).trans ((if_pos (Nat.le_of_ble_eq_true rfl)).trans ((nc_Run_un [] 4).trans rfl))
set_option maxRecDepth 100000 in
theorem qc_X11_written (aa : Nat) (xb : Int32) (w : nc_H) : nc_Call m_X11_written [.inr (.inr (11, aa)), .inl xb] w =
  if (w.1 0 0 4) ≠ 0 then
    if xb = 0 then
      some (some (.inl (w.1 0 0 5)), w)
    else
    if xb = 1 then
      some (some (.inl (w.1 0 0 6)), w)
    else
    if xb = 2 then
      some (some (.inl (w.1 0 0 7)), w)
    else
    if xb = 3 then
      some (some (.inl (w.1 0 0 8)), w)
    else
      some (some (.inl (-1)), w)
  else
    some (some (.inl (-1)), w) :=
  (nc_Call_eq _ _ _).trans ((if_pos (Nat.le_of_ble_eq_true rfl)).trans ((nc_Run_un [] 10).trans rfl))
set_option maxRecDepth 100000 in
theorem qc_X11_count (aa : Nat) (xb : Int32) (w : nc_H) : nc_Call m_X11_count [.inr (.inr (11, aa)), .inl xb] w =
  if xb = 0 then
    some (some (.inl (w.1 2 0 1)), w)
  else
  if xb = 1 then
    some (some (.inl (w.1 2 0 2)), w)
  else
  if xb = 2 then
    some (some (.inl (w.1 2 0 3)), w)
  else
  if xb = 3 then
    some (some (.inl (w.1 2 0 4)), w)
  else
  if xb = 4 then
    some (some (.inl (w.1 2 0 5)), w)
  else
  if xb = 5 then
    some (some (.inl (w.1 10 0 1)), w)
  else
    some (some (.inl (-1)), w) :=
  (nc_Call_eq _ _ _).trans ((if_pos (Nat.le_of_ble_eq_true rfl)).trans ((nc_Run_un [] 6).trans rfl))
set_option maxRecDepth 100000 in
theorem qc_X11_isFarm (aa : Nat) (xb : Int32) (w : nc_H) : nc_Call m_X11_isFarm [.inr (.inr (11, aa)), .inl xb] w =
  if xb < 0 then
    some (some (.inl 0), w)
  else
    if (w.1 2 0 1) ≤ xb then
      some (some (.inl 0), w)
    else
      some (some (.inl 1), w) :=
  (nc_Call_eq _ _ _).trans ((if_pos (Nat.le_of_ble_eq_true rfl)).trans ((nc_Run_un [] 10).trans rfl))
set_option maxRecDepth 100000 in
theorem qc_X11_isCow (aa : Nat) (xb : Int32) (w : nc_H) : nc_Call m_X11_isCow [.inr (.inr (11, aa)), .inl xb] w =
  if xb < 0 then
    some (some (.inl 0), w)
  else
    if (w.1 2 0 2) ≤ xb then
      some (some (.inl 0), w)
    else
      some (some (.inl 1), w) :=
  (nc_Call_eq _ _ _).trans ((if_pos (Nat.le_of_ble_eq_true rfl)).trans ((nc_Run_un [] 10).trans rfl))
set_option maxRecDepth 100000 in
theorem qc_X11_isNews (aa : Nat) (xb : Int32) (w : nc_H) : nc_Call m_X11_isNews [.inr (.inr (11, aa)), .inl xb] w =
  if xb < 0 then
    some (some (.inl 0), w)
  else
    if (w.1 2 0 3) ≤ xb then
      some (some (.inl 0), w)
    else
      some (some (.inl 1), w) :=
  (nc_Call_eq _ _ _).trans ((if_pos (Nat.le_of_ble_eq_true rfl)).trans ((nc_Run_un [] 10).trans rfl))
set_option maxRecDepth 100000 in
theorem qc_X11_cowsWith (aa : Nat) (tb : Nat) (ab : Nat) (xc : Int32) (w : nc_H) : nc_Call m_X11_cowsWith [.inr (.inr (11, aa)), .inr (.inr (tb, ab)), .inl xc] w =
  nc_Run m_X11_cowsWith 5 [some (.inr (.inr (11, aa))), some (.inr (.inr (tb, ab))), some (.inl xc), some (.inl 0), some (.inl 0)] [] w :=
  (nc_Call_eq _ _ _).trans ((if_pos (Nat.le_of_ble_eq_true rfl)).trans ((nc_Run_un [5] 5).trans rfl))
set_option maxRecDepth 100000 in
theorem qr_X11_cowsWith_5 (aa : Nat) (tb : Nat) (ab : Nat) (xc : Int32) (xd : Int32) (xe : Int32) (w : nc_H) : nc_Run m_X11_cowsWith 5 [some (.inr (.inr (11, aa))), some (.inr (.inr (tb, ab))), some (.inl xc), some (.inl xd), some (.inl xe)] [] w =
  if (w.1 2 0 2) ≤ xe then
    some (some (.inl xd), w)
  else
    cond (Nat.beq (nc_ak tb) 0) (
    nc_bd xe (nc_al tb) fun j1 =>
    nc_li (xd ||| ((((w.1 tb ab j1) >>> (xc &&& 31)) &&& 1) <<< (xe &&& 31))) fun x2 =>
    nc_li (xe + 1) fun x3 =>
    nc_Run m_X11_cowsWith 5 [some (.inr (.inr (11, aa))), some (.inr (.inr (tb, ab))), some (.inl xc), some (.inl x2), some (.inl x3)] [] w) none :=
  (nc_Run_un [5] 20).trans rfl
set_option maxRecDepth 100000 in
theorem qc_J6_bitCount_0f7a4 (xa : Int32) (w : nc_H) : nc_Call m_J6_bitCount_0f7a4 [.inl xa] w =
  nc_li (xa - (((xa.toUInt32 >>> ((1 : Int32).toUInt32 &&& Int32.toUInt32 31)).toInt32) &&& 1431655765)) fun x1 =>
  nc_li ((x1 &&& 858993459) + (((x1.toUInt32 >>> ((2 : Int32).toUInt32 &&& Int32.toUInt32 31)).toInt32) &&& 858993459)) fun x2 =>
  nc_li ((x2 + ((x2.toUInt32 >>> ((4 : Int32).toUInt32 &&& Int32.toUInt32 31)).toInt32)) &&& 252645135) fun x3 =>
  nc_li (x3 + ((x3.toUInt32 >>> ((8 : Int32).toUInt32 &&& Int32.toUInt32 31)).toInt32)) fun x4 =>
  nc_li (x4 + ((x4.toUInt32 >>> ((16 : Int32).toUInt32 &&& Int32.toUInt32 31)).toInt32)) fun x5 =>
  some (some (.inl (x5 &&& 63)), w) :=
  (nc_Call_eq _ _ _).trans ((if_pos (Nat.le_of_ble_eq_true rfl)).trans ((nc_Run_un [] 42).trans rfl))
set_option maxRecDepth 100000 in
theorem qc_J7_fill_d0a16 (ta : Nat) (aa : Nat) (yb : Int64) (w : nc_H) : nc_Call m_J7_fill_d0a16 [.inr (.inr (ta, aa)), .inr (.inl yb)] w =
  cond (Nat.ble (nc_ak ta) 4) (
  nc_li (Int32.ofNat (nc_al ta)) fun x1 =>
  nc_Run m_J7_fill_d0a16 6 [some (.inr (.inr (ta, aa))), some (.inr (.inl yb)), none, some (.inl 0), some (.inl x1)] [] w) none :=
  (nc_Call_eq _ _ _).trans ((if_pos (Nat.le_of_ble_eq_true rfl)).trans ((nc_Run_un [6] 6).trans rfl))
set_option maxRecDepth 100000 in
theorem qr_J7_fill_d0a16_6 (ta : Nat) (aa : Nat) (yb : Int64) (xd : Int32) (xe : Int32) (w : nc_H) : nc_Run m_J7_fill_d0a16 6 [some (.inr (.inr (ta, aa))), some (.inr (.inl yb)), none, some (.inl xd), some (.inl xe)] [] w =
  if xe ≤ xd then
    some (none, w)
  else
    cond (Nat.beq (nc_ak ta) 3) (
    nc_bd xd (nc_al ta) fun j1 =>
    nc_lt (nc_sl w ta aa j1 yb) fun w2 =>
    nc_li (xd + 1) fun x3 =>
    nc_Run m_J7_fill_d0a16 6 [some (.inr (.inr (ta, aa))), some (.inr (.inl yb)), none, some (.inl x3), some (.inl xe)] [] w2) none :=
  (nc_Run_un [6] 10).trans rfl
set_option maxRecDepth 100000 in
theorem qc_J7_fill_53178 (ta : Nat) (aa : Nat) (xb : Int32) (w : nc_H) : nc_Call m_J7_fill_53178 [.inr (.inr (ta, aa)), .inl xb] w =
  cond (Nat.ble (nc_ak ta) 4) (
  nc_li (Int32.ofNat (nc_al ta)) fun x1 =>
  nc_Run m_J7_fill_53178 5 [some (.inr (.inr (ta, aa))), some (.inl xb), some (.inl 0), some (.inl x1)] [] w) none :=
  (nc_Call_eq _ _ _).trans ((if_pos (Nat.le_of_ble_eq_true rfl)).trans ((nc_Run_un [5] 6).trans rfl))
set_option maxRecDepth 100000 in
theorem qr_J7_fill_53178_5 (ta : Nat) (aa : Nat) (xb : Int32) (xc : Int32) (xd : Int32) (w : nc_H) : nc_Run m_J7_fill_53178 5 [some (.inr (.inr (ta, aa))), some (.inl xb), some (.inl xc), some (.inl xd)] [] w =
  if xd ≤ xc then
    some (none, w)
  else
    cond (Nat.beq (nc_ak ta) 0) (
    nc_bd xc (nc_al ta) fun j1 =>
    nc_lt (nc_si w ta aa j1 xb) fun w2 =>
    nc_li (xc + 1) fun x3 =>
    nc_Run m_J7_fill_53178 5 [some (.inr (.inr (ta, aa))), some (.inl xb), some (.inl x3), some (.inl xd)] [] w2) none :=
  (nc_Run_un [5] 10).trans rfl
set_option maxRecDepth 100000 in
theorem qc_X10_mustBeSign (aa : Nat) (xb : Int32) (w : nc_H) : nc_Call m_X10_mustBeSign [.inr (.inr (10, aa)), .inl xb] w =
  nc_bI (nc_Call m_X10_isSign [.inr (.inr (10, aa)), .inl xb] w) fun r2 w1 =>
  if r2 ≠ 0 then
    some (some (.inl 1), w1)
  else
    nc_bI (nc_Call m_X10_fail [.inr (.inr (10, aa)), .inl 1] w1) fun r4 w3 =>
    if r4 = 0 then
      some (some (.inl 0), w3)
    else
      some (some (.inl 1), w3) :=
  (nc_Call_eq _ _ _).trans ((if_pos (Nat.le_of_ble_eq_true rfl)).trans ((nc_Run_un [] 11).trans rfl))
set_option maxRecDepth 100000 in
theorem qc_X2_named (aa : Nat) (ab : Nat) (xc : Int32) (xd : Int32) (w : nc_H) : nc_Call m_X2_named [.inr (.inr (2, aa)), .inr (.inr (10, ab)), .inl xc, .inl xd] w =
  if (w.1 10 ab 11) = 3 then
    nc_bI (nc_Call m_X2_slotOf [.inr (.inr (2, aa)), .inr (.inl (w.2 10 ab 13))] w) fun r2 w1 =>
    nc_li (r2 - xc) fun x3 =>
    if x3 < 0 then
      nc_bI (nc_Call m_X10_fail [.inr (.inr (10, ab)), .inl 3] w1) fun r5 w4 =>
      some (some (.inl (-1)), w4)
    else
      if x3 < xd then
        some (some (.inl x3), w1)
      else
        nc_bI (nc_Call m_X10_fail [.inr (.inr (10, ab)), .inl 3] w1) fun r7 w6 =>
        some (some (.inl (-1)), w6)
  else
    nc_bI (nc_Call m_X10_fail [.inr (.inr (10, ab)), .inl 1] w) fun r9 w8 =>
    some (some (.inl (-1)), w8) :=
  (nc_Call_eq _ _ _).trans ((if_pos (Nat.le_of_ble_eq_true rfl)).trans ((nc_Run_un [] 22).trans rfl))
set_option maxRecDepth 100000 in
theorem qc_X10_nextNumber (aa : Nat) (xb : Int32) (xc : Int32) (w : nc_H) : nc_Call m_X10_nextNumber [.inr (.inr (10, aa)), .inl xb, .inl xc] w =
  nc_bV (nc_Call m_X10_next [.inr (.inr (10, aa))] w) fun w1 =>
  if (w1.1 10 aa 11) = 4 then
    if (w1.1 10 aa 12) < xb then
      nc_bI (nc_Call m_X10_fail [.inr (.inr (10, aa)), .inl 2] w1) fun r3 w2 =>
      if r3 = 0 then
        some (some (.inl 0), w2)
      else
        some (some (.inl 1), w2)
    else
      if (w1.1 10 aa 12) ≤ xc then
        some (some (.inl 1), w1)
      else
        nc_bI (nc_Call m_X10_fail [.inr (.inr (10, aa)), .inl 2] w1) fun r5 w4 =>
        if r5 = 0 then
          some (some (.inl 0), w4)
        else
          some (some (.inl 1), w4)
  else
    nc_bI (nc_Call m_X10_fail [.inr (.inr (10, aa)), .inl 1] w1) fun r7 w6 =>
    nc_z r7 <| some (some (.inl r7), w6) :=
  (nc_Call_eq _ _ _).trans ((if_pos (Nat.le_of_ble_eq_true rfl)).trans ((nc_Run_un [] 21).trans rfl))
set_option maxRecDepth 100000 in
theorem qc_X9_readPlainOne (aa : Nat) (ab : Nat) (ac : Nat) (xd : Int32) (w : nc_H) : nc_Call m_X9_readPlainOne [.inr (.inr (9, aa)), .inr (.inr (10, ab)), .inr (.inr (2, ac)), .inl xd] w =
  if xd ≠ 17 then
    if xd = 18 then
      nc_bV (nc_Call m_X10_next [.inr (.inr (10, ab))] w) fun w1 =>
      nc_bI (nc_Call m_X2_named [.inr (.inr (2, ac)), .inr (.inr (10, ab)), .inl 12, .inl 10] w1) fun r3 w2 =>
      nc_bV (nc_Call m_X9_put [.inr (.inr (9, aa)), .inl xd, .inl 0, .inl r3] w2) fun w4 =>
      if r3 < 0 then
        some (some (.inl 0), w4)
      else
        some (some (.inl 1), w4)
    else
      if xd ≠ 19 then
        if xd = 15 then
          nc_bV (nc_Call m_X9_put [.inr (.inr (9, aa)), .inl xd, .inl 0, .inl 0] w) fun w5 =>
          some (some (.inl 1), w5)
        else
          if xd = 16 then
            nc_bV (nc_Call m_X9_put [.inr (.inr (9, aa)), .inl xd, .inl 0, .inl 0] w) fun w6 =>
            some (some (.inl 1), w6)
          else
            nc_bV (nc_Call m_X10_next [.inr (.inr (10, ab))] w) fun w7 =>
            nc_li (w7.1 10 ab 12) fun x8 =>
            nc_bI (nc_Call m_X10_isSign [.inr (.inr (10, ab)), .inl 60] w7) fun r10 w9 =>
            if r10 ≠ 0 then
              nc_bI (nc_Call m_X10_nextNumber [.inr (.inr (10, ab)), .inl 0, .inl 999] w9) fun r12 w11 =>
              if r12 = 0 then
                nc_bV (nc_Call m_X9_put [.inr (.inr (9, aa)), .inl xd, .inl x8, .inl (-1)] w11) fun w13 =>
                some (some (.inl 0), w13)
              else
                nc_li (w11.1 10 ab 12) fun x14 =>
                nc_bV (nc_Call m_X9_put [.inr (.inr (9, aa)), .inl xd, .inl x8, .inl x14] w11) fun w15 =>
                if x14 < 0 then
                  some (some (.inl 0), w15)
                else
                  some (some (.inl 1), w15)
            else
              nc_bI (nc_Call m_X10_isSign [.inr (.inr (10, ab)), .inl 61] w9) fun r17 w16 =>
              if r17 ≠ 0 then
                nc_bI (nc_Call m_X10_nextNumber [.inr (.inr (10, ab)), .inl 0, .inl 999] w16) fun r19 w18 =>
                if r19 = 0 then
                  nc_bV (nc_Call m_X9_put [.inr (.inr (9, aa)), .inl xd, .inl x8, .inl (-1)] w18) fun w20 =>
                  some (some (.inl 0), w20)
                else
                  nc_li (w18.1 10 ab 12) fun x21 =>
                  nc_bV (nc_Call m_X9_put [.inr (.inr (9, aa)), .inl xd, .inl x8, .inl x21] w18) fun w22 =>
                  if x21 < 0 then
                    some (some (.inl 0), w22)
                  else
                    some (some (.inl 1), w22)
              else
                nc_bI (nc_Call m_X10_isSign [.inr (.inr (10, ab)), .inl 62] w16) fun r24 w23 =>
                if r24 ≠ 0 then
                  nc_bI (nc_Call m_X10_nextNumber [.inr (.inr (10, ab)), .inl 0, .inl 999] w23) fun r26 w25 =>
                  if r26 = 0 then
                    nc_bV (nc_Call m_X9_put [.inr (.inr (9, aa)), .inl xd, .inl x8, .inl (-1)] w25) fun w27 =>
                    some (some (.inl 0), w27)
                  else
                    nc_li (w25.1 10 ab 12) fun x28 =>
                    nc_bV (nc_Call m_X9_put [.inr (.inr (9, aa)), .inl xd, .inl x8, .inl x28] w25) fun w29 =>
                    if x28 < 0 then
                      some (some (.inl 0), w29)
                    else
                      some (some (.inl 1), w29)
                else
                  nc_bI (nc_Call m_X10_fail [.inr (.inr (10, ab)), .inl 1] w23) fun r31 w30 =>
                  nc_z r31 <| some (some (.inl r31), w30)
      else
        nc_bV (nc_Call m_X10_next [.inr (.inr (10, ab))] w) fun w32 =>
        nc_bI (nc_Call m_X2_named [.inr (.inr (2, ac)), .inr (.inr (10, ab)), .inl 12, .inl 10] w32) fun r34 w33 =>
        nc_bV (nc_Call m_X9_put [.inr (.inr (9, aa)), .inl xd, .inl 0, .inl r34] w33) fun w35 =>
        if r34 < 0 then
          some (some (.inl 0), w35)
        else
          some (some (.inl 1), w35)
  else
    nc_bV (nc_Call m_X10_next [.inr (.inr (10, ab))] w) fun w36 =>
    nc_bI (nc_Call m_X2_named [.inr (.inr (2, ac)), .inr (.inr (10, ab)), .inl 0, .inl 4] w36) fun r38 w37 =>
    nc_bV (nc_Call m_X9_put [.inr (.inr (9, aa)), .inl xd, .inl 0, .inl r38] w37) fun w39 =>
    if r38 < 0 then
      some (some (.inl 0), w39)
    else
      some (some (.inl 1), w39) :=
  (nc_Call_eq _ _ _).trans ((if_pos (Nat.le_of_ble_eq_true rfl)).trans ((nc_Run_un [] 55).trans rfl))
set_option maxRecDepth 100000 in
theorem qc_X7_sumOf (aa : Nat) (xb : Int32) (w : nc_H) : nc_Call m_X7_sumOf [.inr (.inr (7, aa)), .inl xb] w =
  nc_bd xb 8 fun j1 =>
  nc_li (w.1 239 (nc_ld aa) j1) fun x2 =>
  nc_bI (nc_Call m_X7_heardByOthers [.inr (.inr (7, aa)), .inl xb] w) fun r4 w3 =>
  nc_Run m_X7_sumOf 19 [some (.inr (.inr (7, aa))), some (.inl xb), some (.inl x2), some (.inl r4), some (.inl 0)] [] w3 :=
  (nc_Call_eq _ _ _).trans ((if_pos (Nat.le_of_ble_eq_true rfl)).trans ((nc_Run_un [19] 13).trans rfl))
set_option maxRecDepth 100000 in
theorem qr_X7_sumOf_19 (aa : Nat) (xb : Int32) (xc : Int32) (xd : Int32) (xe : Int32) (w : nc_H) : nc_Run m_X7_sumOf 19 [some (.inr (.inr (7, aa))), some (.inl xb), some (.inl xc), some (.inl xd), some (.inl xe)] [] w =
  if (w.1 2 (nc_ld aa) 3) ≤ xe then
    some (some (.inl xc), w)
  else
    nc_bd xb 8 fun j1 =>
    if (((w.1 555 aa j1) >>> (xe &&& 31)) &&& 1) ≠ 1 then
      nc_bd xb 8 fun j2 =>
      if (((w.1 557 aa j2) >>> (xe &&& 31)) &&& 1) ≠ 1 then
        nc_li (xe + 1) fun x3 =>
        nc_Run m_X7_sumOf 19 [some (.inr (.inr (7, aa))), some (.inl xb), some (.inl xc), some (.inl xd), some (.inl x3)] [] w
      else
        nc_bd xe 10 fun j4 =>
        if (w.1 242 (nc_ld aa) j4) ≠ 3 then
          nc_li (xe + 1) fun x5 =>
          nc_Run m_X7_sumOf 19 [some (.inr (.inr (7, aa))), some (.inl xb), some (.inl xc), some (.inl xd), some (.inl x5)] [] w
        else
          if (((w.1 2 (nc_ld aa) 6) >>> (xe &&& 31)) &&& 1) ≠ 1 then
            nc_bd xe 10 fun j6 =>
            nc_li (xc + (w.1 243 (nc_ld aa) j6)) fun x7 =>
            nc_li (xe + 1) fun x8 =>
            nc_Run m_X7_sumOf 19 [some (.inr (.inr (7, aa))), some (.inl xb), some (.inl x7), some (.inl xd), some (.inl x8)] [] w
          else
            nc_bd xe 10 fun j9 =>
            nc_li (xc + (-(w.1 243 (nc_ld aa) j9))) fun x10 =>
            nc_li (xe + 1) fun x11 =>
            nc_Run m_X7_sumOf 19 [some (.inr (.inr (7, aa))), some (.inl xb), some (.inl x10), some (.inl xd), some (.inl x11)] [] w
    else
      nc_bd xb 8 fun j12 =>
      nc_bI (nc_Call m_X7_addedBy [.inr (.inr (7, aa)), .inl xe, .inl xd, .inl (w.1 556 aa j12)] w) fun r14 w13 =>
      nc_li (xc + r14) fun x15 =>
      nc_bd xb 8 fun j16 =>
      if (((w13.1 557 aa j16) >>> (xe &&& 31)) &&& 1) ≠ 1 then
        nc_li (xe + 1) fun x17 =>
        nc_Run m_X7_sumOf 19 [some (.inr (.inr (7, aa))), some (.inl xb), some (.inl x15), some (.inl xd), some (.inl x17)] [] w13
      else
        nc_bd xe 10 fun j18 =>
        if (w13.1 242 (nc_ld aa) j18) ≠ 3 then
          nc_li (xe + 1) fun x19 =>
          nc_Run m_X7_sumOf 19 [some (.inr (.inr (7, aa))), some (.inl xb), some (.inl x15), some (.inl xd), some (.inl x19)] [] w13
        else
          if (((w13.1 2 (nc_ld aa) 6) >>> (xe &&& 31)) &&& 1) ≠ 1 then
            nc_bd xe 10 fun j20 =>
            nc_li (x15 + (w13.1 243 (nc_ld aa) j20)) fun x21 =>
            nc_li (xe + 1) fun x22 =>
            nc_Run m_X7_sumOf 19 [some (.inr (.inr (7, aa))), some (.inl xb), some (.inl x21), some (.inl xd), some (.inl x22)] [] w13
          else
            nc_bd xe 10 fun j23 =>
            nc_li (x15 + (-(w13.1 243 (nc_ld aa) j23))) fun x24 =>
            nc_li (xe + 1) fun x25 =>
            nc_Run m_X7_sumOf 19 [some (.inr (.inr (7, aa))), some (.inl xb), some (.inl x24), some (.inl xd), some (.inl x25)] [] w13 :=
  (nc_Run_un [19] 65).trans rfl
set_option maxRecDepth 100000 in
theorem qc_X7_whyNotTold (aa : Nat) (xb : Int32) (xc : Int32) (w : nc_H) : nc_Call m_X7_whyNotTold [.inr (.inr (7, aa)), .inl xb, .inl xc] w =
  nc_bI (nc_Call m_X7_isDry [.inr (.inr (7, aa)), .inl xb] w) fun r2 w1 =>
  if r2 = 0 then
    nc_bd xb 8 fun j3 =>
    if (((w1.1 555 aa j3) >>> (xc &&& 31)) &&& 1) ≠ 1 then
      nc_bd xb 8 fun j4 =>
      nc_bI (nc_Call m_J6_bitCount_0f7a4 [.inl (w1.1 555 aa j4)] w1) fun r6 w5 =>
      if r6 < (w5.1 2 (nc_ld aa) 5) then
        some (some (.inl 0), w5)
      else
        some (some (.inl 3), w5)
    else
      some (some (.inl 2), w1)
  else
    some (some (.inl 1), w1) :=
  (nc_Call_eq _ _ _).trans ((if_pos (Nat.le_of_ble_eq_true rfl)).trans ((nc_Run_un [] 26).trans rfl))
set_option maxRecDepth 100000 in
theorem qc_X8_weigh (aa : Nat) (xb : Int32) (w : nc_H) : nc_Call m_X8_weigh [.inr (.inr (8, aa)), .inl xb] w =
  if xb ≤ (w.1 8 aa 6) then
    some (none, w)
  else
    nc_lt (nc_si w 8 aa 6 xb) fun w1 =>
    nc_lt (nc_cpi w1 615 aa 0 616 aa 0 3) fun w2 =>
    some (none, w2) :=
  (nc_Call_eq _ _ _).trans ((if_pos (Nat.le_of_ble_eq_true rfl)).trans ((nc_Run_un [] 16).trans rfl))
set_option maxRecDepth 100000 in
theorem qc_X7_milk (aa : Nat) (xb : Int32) (w : nc_H) : nc_Call m_X7_milk [.inr (.inr (7, aa)), .inl xb] w =
  nc_bI (nc_Call m_X7_isDry [.inr (.inr (7, aa)), .inl xb] w) fun r2 w1 =>
  if r2 ≠ 0 then
    some (some (.inl 0), w1)
  else
    nc_bI (nc_Call m_X7_isCurdled [.inr (.inr (7, aa)), .inl xb] w1) fun r4 w3 =>
    if r4 = 0 then
      nc_bI (nc_Call m_X7_sumOf [.inr (.inr (7, aa)), .inl xb] w3) fun r6 w5 =>
      some (some (.inl (if (0 : Int32) < r6 then r6 else (0 : Int32))), w5)
    else
      some (some (.inl 0), w3) :=
  (nc_Call_eq _ _ _).trans ((if_pos (Nat.le_of_ble_eq_true rfl)).trans ((nc_Run_un [] 14).trans rfl))
set_option maxRecDepth 100000 in
theorem qc_X8_goLast (aa : Nat) (ab : Nat) (xc : Int32) (xd : Int32) (xe : Int32) (w : nc_H) : nc_Call m_X8_goLast [.inr (.inr (8, aa)), .inr (.inr (7, ab)), .inl xc, .inl xd, .inl xe] w =
  nc_bI (nc_Call m_X7_isDry [.inr (.inr (7, ab)), .inl xc] w) fun r2 w1 =>
  if r2 ≠ 0 then
    nc_bI (nc_Call m_X7_sumOf [.inr (.inr (7, ab)), .inl xc] w1) fun r4 w3 =>
    nc_bI (nc_Call m_X7_heardByOthers [.inr (.inr (7, ab)), .inl xc] w3) fun r6 w5 =>
    nc_Run m_X8_goLast 40 [some (.inr (.inr (8, aa))), some (.inr (.inr (7, ab))), some (.inl xc), some (.inl xd), some (.inl xe), some (.inl 1), some (.inl r4), some (.inl r6), some (.inl 0), none, none] [] w5
  else
    nc_bI (nc_Call m_X7_isCurdled [.inr (.inr (7, ab)), .inl xc] w1) fun r8 w7 =>
    if r8 = 0 then
      nc_bI (nc_Call m_X7_sumOf [.inr (.inr (7, ab)), .inl xc] w7) fun r10 w9 =>
      nc_bI (nc_Call m_X7_heardByOthers [.inr (.inr (7, ab)), .inl xc] w9) fun r12 w11 =>
      nc_Run m_X8_goLast 40 [some (.inr (.inr (8, aa))), some (.inr (.inr (7, ab))), some (.inl xc), some (.inl xd), some (.inl xe), some (.inl 0), some (.inl r10), some (.inl r12), some (.inl 0), none, none] [] w11
    else
      nc_bI (nc_Call m_X7_sumOf [.inr (.inr (7, ab)), .inl xc] w7) fun r14 w13 =>
      nc_bI (nc_Call m_X7_heardByOthers [.inr (.inr (7, ab)), .inl xc] w13) fun r16 w15 =>
      nc_Run m_X8_goLast 40 [some (.inr (.inr (8, aa))), some (.inr (.inr (7, ab))), some (.inl xc), some (.inl xd), some (.inl xe), some (.inl 1), some (.inl r14), some (.inl r16), some (.inl 0), none, none] [] w15 :=
  (nc_Call_eq _ _ _).trans ((if_pos (Nat.le_of_ble_eq_true rfl)).trans ((nc_Run_un [40] 22).trans rfl))
set_option maxRecDepth 100000 in
theorem qr_X8_goLast_40 (aa : Nat) (ab : Nat) (xc : Int32) (xd : Int32) (xe : Int32) (xf : Int32) (xg : Int32) (xh : Int32) (xi : Int32) (w : nc_H) : nc_Run m_X8_goLast 40 [some (.inr (.inr (8, aa))), some (.inr (.inr (7, ab))), some (.inl xc), some (.inl xd), some (.inl xe), some (.inl xf), some (.inl xg), some (.inl xh), some (.inl xi), none, none] [] w =
  if (w.1 2 0 3) ≤ xi then
    nc_bd xd 3 fun j1 =>
    nc_lt (nc_si w 615 aa j1 (-1)) fun w2 =>
    nc_bI (nc_Call m_X7_milk [.inr (.inr (7, ab)), .inl xc] w2) fun r4 w3 =>
    nc_bV (nc_Call m_X8_weigh [.inr (.inr (8, aa)), .inl (xe + r4)] w3) fun w5 =>
    some (none, w5)
  else
    nc_bI (nc_Call m_X7_whyNotTold [.inr (.inr (7, ab)), .inl xc, .inl xi] w) fun r7 w6 =>
    if r7 ≠ 0 then
      nc_li (xi + 1) fun x8 =>
      nc_Run m_X8_goLast 40 [some (.inr (.inr (8, aa))), some (.inr (.inr (7, ab))), some (.inl xc), some (.inl xd), some (.inl xe), some (.inl xf), some (.inl xg), some (.inl xh), some (.inl x8), none, none] [] w6
    else
      nc_bd xd 3 fun j9 =>
      nc_lt (nc_si w6 615 aa j9 xi) fun w10 =>
      nc_bd xi 10 fun j11 =>
      if (w10.1 242 0 j11) ≠ 2 then
        nc_bd xc 8 fun j12 =>
        nc_bI (nc_Call m_X7_addedBy [.inr (.inr (7, ab)), .inl xi, .inl xh, .inl (w10.1 554 ab j12)] w10) fun r14 w13 =>
        if xf ≠ 0 then
          nc_bV (nc_Call m_X8_weigh [.inr (.inr (8, aa)), .inl (xe + 0)] w13) fun w15 =>
          nc_li (xi + 1) fun x16 =>
          nc_Run m_X8_goLast 40 [some (.inr (.inr (8, aa))), some (.inr (.inr (7, ab))), some (.inl xc), some (.inl xd), some (.inl xe), some (.inl xf), some (.inl xg), some (.inl xh), some (.inl x16), none, none] [] w15
        else
          nc_bV (nc_Call m_X8_weigh [.inr (.inr (8, aa)), .inl (xe + (if (0 : Int32) < (xg + r14) then (xg + r14) else (0 : Int32)))] w13) fun w17 =>
          nc_li (xi + 1) fun x18 =>
          nc_Run m_X8_goLast 40 [some (.inr (.inr (8, aa))), some (.inr (.inr (7, ab))), some (.inl xc), some (.inl xd), some (.inl xe), some (.inl xf), some (.inl xg), some (.inl xh), some (.inl x18), none, none] [] w17
      else
        nc_bd xc 8 fun j19 =>
        nc_bI (nc_Call m_X7_addedBy [.inr (.inr (7, ab)), .inl xi, .inl xh, .inl (w10.1 554 ab j19)] w10) fun r21 w20 =>
        if xf ≠ 0 then
          nc_bV (nc_Call m_X8_weigh [.inr (.inr (8, aa)), .inl (xe + 0)] w20) fun w22 =>
          nc_li (xi + 1) fun x23 =>
          nc_Run m_X8_goLast 40 [some (.inr (.inr (8, aa))), some (.inr (.inr (7, ab))), some (.inl xc), some (.inl xd), some (.inl xe), some (.inl xf), some (.inl xg), some (.inl xh), some (.inl x23), none, none] [] w22
        else
          nc_bV (nc_Call m_X8_weigh [.inr (.inr (8, aa)), .inl (xe + 0)] w20) fun w24 =>
          nc_li (xi + 1) fun x25 =>
          nc_Run m_X8_goLast 40 [some (.inr (.inr (8, aa))), some (.inr (.inr (7, ab))), some (.inl xc), some (.inl xd), some (.inl xe), some (.inl xf), some (.inl xg), some (.inl xh), some (.inl x25), none, none] [] w24 :=
  (nc_Run_un [40] 49).trans rfl
set_option maxRecDepth 100000 in
theorem qc_X7_copyFrom (aa : Nat) (ab : Nat) (w : nc_H) : nc_Call m_X7_copyFrom [.inr (.inr (7, aa)), .inr (.inr (7, ab))] w =
  nc_lt (nc_si w 7 aa 1 (w.1 7 ab 1)) fun w1 =>
  nc_lt (nc_si w1 7 aa 2 (w1.1 7 ab 2)) fun w2 =>
  nc_lt (nc_si w2 7 aa 3 (w2.1 7 ab 3)) fun w3 =>
  nc_lt (nc_si w3 7 aa 4 (w3.1 7 ab 4)) fun w4 =>
  nc_lt (nc_cpi w4 553 ab 0 553 aa 0 80) fun w5 =>
  nc_lt (nc_cpi w5 554 ab 0 554 aa 0 8) fun w6 =>
  nc_lt (nc_cpi w6 555 ab 0 555 aa 0 8) fun w7 =>
  nc_lt (nc_cpi w7 556 ab 0 556 aa 0 8) fun w8 =>
  nc_lt (nc_cpi w8 557 ab 0 557 aa 0 8) fun w9 =>
  nc_lt (nc_cpi w9 558 ab 0 558 aa 0 8) fun w10 =>
  nc_lt (nc_cpi w10 559 ab 0 559 aa 0 8) fun w11 =>
  nc_lt (nc_cpi w11 560 ab 0 560 aa 0 8) fun w12 =>
  nc_lt (nc_cpi w12 561 ab 0 561 aa 0 4) fun w13 =>
  nc_lt (nc_cpi w13 562 ab 0 562 aa 0 120) fun w14 =>
  some (none, w14) :=
  (nc_Call_eq _ _ _).trans ((if_pos (Nat.le_of_ble_eq_true rfl)).trans ((nc_Run_un [] 97).trans rfl))
set_option maxRecDepth 100000 in
theorem qc_X7_hear (aa : Nat) (xb : Int32) (xc : Int32) (w : nc_H) : nc_Call m_X7_hear [.inr (.inr (7, aa)), .inl xb, .inl xc] w =
  nc_li (1 <<< (xc &&& 31)) fun x1 =>
  nc_bd xb 8 fun j2 =>
  nc_bd xb 8 fun j3 =>
  nc_bd xb 8 fun j4 =>
  nc_lt (nc_si w 556 aa j4 ((w.1 556 aa j2) ||| ((w.1 554 aa j3) &&& x1))) fun w5 =>
  nc_bd xb 8 fun j6 =>
  nc_bd xb 8 fun j7 =>
  nc_lt (nc_si w5 555 aa j7 ((w5.1 555 aa j6) ||| x1)) fun w8 =>
  nc_bV (nc_Call m_X7_comes [.inr (.inr (7, aa)), .inl xb, .inl xc] w8) fun w9 =>
  nc_bd xc 10 fun j10 =>
  if (w9.1 242 (nc_ld aa) j10) ≠ 2 then
    nc_lt (nc_si w9 7 aa 2 ((w9.1 7 aa 2) + 1)) fun w11 =>
    some (none, w11)
  else
    nc_bd xb 8 fun j12 =>
    nc_lt (nc_si w9 558 aa j12 (w9.1 7 aa 1)) fun w13 =>
    nc_lt (nc_si w13 7 aa 2 ((w13.1 7 aa 2) + 1)) fun w14 =>
    some (none, w14) :=
  (nc_Call_eq _ _ _).trans ((if_pos (Nat.le_of_ble_eq_true rfl)).trans ((nc_Run_un [] 49).trans rfl))
set_option maxRecDepth 100000 in
theorem qc_X7_allComes (aa : Nat) (xb : Int32) (xc : Int32) (w : nc_H) : nc_Call m_X7_allComes [.inr (.inr (7, aa)), .inl xb, .inl xc] w =
  nc_Run m_X7_allComes 2 [some (.inr (.inr (7, aa))), some (.inl xb), some (.inl xc), some (.inl 0)] [] w :=
  (nc_Call_eq _ _ _).trans ((if_pos (Nat.le_of_ble_eq_true rfl)).trans ((nc_Run_un [2] 3).trans rfl))
set_option maxRecDepth 100000 in
theorem qr_X7_allComes_2 (aa : Nat) (xb : Int32) (xc : Int32) (xd : Int32) (w : nc_H) : nc_Run m_X7_allComes 2 [some (.inr (.inr (7, aa))), some (.inl xb), some (.inl xc), some (.inl xd)] [] w =
  if (w.1 2 (nc_ld aa) 3) ≤ xd then
    some (none, w)
  else
    if ((xc >>> (xd &&& 31)) &&& 1) ≠ 1 then
      nc_li (xd + 1) fun x1 =>
      nc_Run m_X7_allComes 2 [some (.inr (.inr (7, aa))), some (.inl xb), some (.inl xc), some (.inl x1)] [] w
    else
      nc_bV (nc_Call m_X7_comes [.inr (.inr (7, aa)), .inl xb, .inl xd] w) fun w2 =>
      nc_li (xd + 1) fun x3 =>
      nc_Run m_X7_allComes 2 [some (.inr (.inr (7, aa))), some (.inl xb), some (.inl xc), some (.inl x3)] [] w2 :=
  (nc_Run_un [2] 19).trans rfl
set_option maxRecDepth 100000 in
theorem qc_X7_talk (aa : Nat) (w : nc_H) : nc_Call m_X7_talk [.inr (.inr (7, aa))] w =
  nc_bI (nc_Call m_X7_talking [.inr (.inr (7, aa))] w) fun r2 w1 =>
  if r2 ≠ 0 then
    nc_bV (nc_Call m_J7_fill_53178 [.inr (.inr (563, aa)), .inl 0] w1) fun w3 =>
    nc_bV (nc_Call m_J7_fill_53178 [.inr (.inr (564, aa)), .inl 0] w3) fun w4 =>
    nc_Run m_X7_talk 28 [some (.inr (.inr (7, aa))), some (.inl r2), some (.inl 0)] [] w4
  else
    some (none, w1) :=
  (nc_Call_eq _ _ _).trans ((if_pos (Nat.le_of_ble_eq_true rfl)).trans ((nc_Run_un [28, 70, 160] 16).trans rfl))
set_option maxRecDepth 100000 in
theorem qr_X7_talk_28 (aa : Nat) (xb : Int32) (xc : Int32) (w : nc_H) : nc_Run m_X7_talk 28 [some (.inr (.inr (7, aa))), some (.inl xb), some (.inl xc)] [] w =
  if (w.1 2 (nc_ld aa) 2) ≤ xc then
    nc_Run m_X7_talk 70 [some (.inr (.inr (7, aa))), some (.inl xb), some (.inl 0)] [] w
  else
    nc_bd xc 8 fun j1 =>
    nc_bd (w.1 238 (nc_ld aa) j1) 4 fun j2 =>
    nc_bd xc 8 fun j3 =>
    nc_bd (w.1 238 (nc_ld aa) j1) 4 fun j4 =>
    nc_lt (nc_si w 563 aa j4 ((w.1 563 aa j2) ||| (w.1 554 aa j3))) fun w5 =>
    nc_li (xc + 1) fun x6 =>
    nc_Run m_X7_talk 28 [some (.inr (.inr (7, aa))), some (.inl xb), some (.inl x6)] [] w5 :=
  (nc_Run_un [28, 70, 160] 23).trans rfl
set_option maxRecDepth 100000 in
theorem qr_X7_talk_70 (aa : Nat) (xb : Int32) (xc : Int32) (w : nc_H) : nc_Run m_X7_talk 70 [some (.inr (.inr (7, aa))), some (.inl xb), some (.inl xc)] [] w =
  if (w.1 2 (nc_ld aa) 4) ≤ xc then
    nc_Run m_X7_talk 160 [some (.inr (.inr (7, aa))), none, some (.inl 0)] [] w
  else
    if ((xb >>> (xc &&& 31)) &&& 1) ≠ 1 then
      nc_li (xc + 1) fun x1 =>
      nc_Run m_X7_talk 70 [some (.inr (.inr (7, aa))), some (.inl xb), some (.inl x1)] [] w
    else
      nc_bd xc 6 fun j2 =>
      nc_bd (w.1 244 (nc_ld aa) j2) 4 fun j3 =>
      nc_bd xc 6 fun j4 =>
      nc_bd (w.1 245 (nc_ld aa) j4) 4 fun j5 =>
      nc_bd (w.1 244 (nc_ld aa) j2) 4 fun j6 =>
      nc_lt (nc_si w 564 aa j6 ((w.1 564 aa j3) ||| (w.1 563 aa j5))) fun w7 =>
      nc_bd xc 6 fun j8 =>
      nc_bd (w7.1 245 (nc_ld aa) j8) 4 fun j9 =>
      nc_bd xc 6 fun j10 =>
      nc_bd (w7.1 244 (nc_ld aa) j10) 4 fun j11 =>
      nc_bd (w7.1 245 (nc_ld aa) j8) 4 fun j12 =>
      nc_lt (nc_si w7 564 aa j12 ((w7.1 564 aa j9) ||| (w7.1 563 aa j11))) fun w13 =>
      nc_li (xc + 1) fun x14 =>
      nc_Run m_X7_talk 70 [some (.inr (.inr (7, aa))), some (.inl xb), some (.inl x14)] [] w13 :=
  (nc_Run_un [28, 70, 160] 53).trans rfl
set_option maxRecDepth 100000 in
theorem qr_X7_talk_160 (aa : Nat) (xc : Int32) (w : nc_H) : nc_Run m_X7_talk 160 [some (.inr (.inr (7, aa))), none, some (.inl xc)] [] w =
  if (w.1 2 (nc_ld aa) 2) ≤ xc then
    some (none, w)
  else
    nc_bd xc 8 fun j1 =>
    nc_bd (w.1 238 (nc_ld aa) j1) 4 fun j2 =>
    nc_bV (nc_Call m_X7_allComes [.inr (.inr (7, aa)), .inl xc, .inl (w.1 564 aa j2)] w) fun w3 =>
    nc_li (xc + 1) fun x4 =>
    nc_Run m_X7_talk 160 [some (.inr (.inr (7, aa))), none, some (.inl x4)] [] w3 :=
  (nc_Run_un [28, 70, 160] 19).trans rfl
set_option maxRecDepth 100000 in
theorem qc_X7_turn (aa : Nat) (w : nc_H) : nc_Call m_X7_turn [.inr (.inr (7, aa))] w =
  nc_lt (nc_si w 7 aa 1 ((w.1 7 aa 1) + 1)) fun w1 =>
  nc_Run m_X7_turn 12 [some (.inr (.inr (7, aa))), some (.inl 0)] [] w1 :=
  (nc_Call_eq _ _ _).trans ((if_pos (Nat.le_of_ble_eq_true rfl)).trans ((nc_Run_un [12] 9).trans rfl))
set_option maxRecDepth 100000 in
theorem qr_X7_turn_12 (aa : Nat) (xb : Int32) (w : nc_H) : nc_Run m_X7_turn 12 [some (.inr (.inr (7, aa))), some (.inl xb)] [] w =
  if (w.1 2 (nc_ld aa) 2) ≤ xb then
    some (none, w)
  else
    nc_bd xb 8 fun j1 =>
    nc_bd xb 8 fun j2 =>
    nc_lt (nc_si w 557 aa j2 (w.1 555 aa j1)) fun w3 =>
    nc_bd xb 8 fun j4 =>
    nc_lt (nc_si w3 555 aa j4 0) fun w5 =>
    nc_bd xb 8 fun j6 =>
    nc_lt (nc_si w5 556 aa j6 0) fun w7 =>
    nc_bV (nc_Call m_X7_forget [.inr (.inr (7, aa)), .inl xb] w7) fun w8 =>
    nc_li (xb + 1) fun x9 =>
    nc_Run m_X7_turn 12 [some (.inr (.inr (7, aa))), some (.inl x9)] [] w8 :=
  (nc_Run_un [12] 29).trans rfl
set_option maxRecDepth 100000 in
theorem qc_X9_readOne_9 (aa : Nat) (ab : Nat) (ac : Nat) (xd : Int32) (w : nc_H) : nc_Call m_X9_readOne_9 [.inr (.inr (9, aa)), .inr (.inr (10, ab)), .inr (.inr (2, ac)), .inl xd] w =
  nc_bI (nc_Call m_X10_isSign [.inr (.inr (10, ab)), .inl 40] w) fun r2 w1 =>
  nc_bI (nc_Call m_X10_word [.inr (.inr (10, ab))] w1) fun r4 w3 =>
  if r2 ≠ 0 then
    if (20 : Int32) ≤ (w3.1 9 aa 4) then
      nc_bI (nc_Call m_X10_fail [.inr (.inr (10, ab)), .inl 4] w3) fun r6 w5 =>
      nc_z r6 <| some (some (.inl r6), w5)
    else
      if xd ≤ 8 then
        nc_lt (nc_si w3 9 aa 4 ((w3.1 9 aa 4) + 1)) fun w7 =>
        if r2 = 0 then
          if r4 ≠ 14 then
            nc_bI (nc_Call m_X9_readPlainOne [.inr (.inr (9, aa)), .inr (.inr (10, ab)), .inr (.inr (2, ac)), .inl r4] w7) fun r9 w8 =>
            if r9 ≠ 0 then
              nc_bV (nc_Call m_X10_next [.inr (.inr (10, ab))] w8) fun w10 =>
              some (some (.inl 1), w10)
            else
              some (some (.inl 0), w8)
          else
            nc_bV (nc_Call m_X10_next [.inr (.inr (10, ab))] w7) fun w11 =>
            none
        else
          nc_bV (nc_Call m_X10_next [.inr (.inr (10, ab))] w7) fun w12 =>
          none
      else
        nc_bI (nc_Call m_X10_fail [.inr (.inr (10, ab)), .inl 4] w3) fun r14 w13 =>
        nc_z r14 <| some (some (.inl r14), w13)
  else
    if (14 : Int32) ≤ r4 then
      if (20 : Int32) ≤ (w3.1 9 aa 4) then
        nc_bI (nc_Call m_X10_fail [.inr (.inr (10, ab)), .inl 4] w3) fun r16 w15 =>
        nc_z r16 <| some (some (.inl r16), w15)
      else
        if xd ≤ 8 then
          nc_lt (nc_si w3 9 aa 4 ((w3.1 9 aa 4) + 1)) fun w17 =>
          if r2 = 0 then
            if r4 ≠ 14 then
              nc_bI (nc_Call m_X9_readPlainOne [.inr (.inr (9, aa)), .inr (.inr (10, ab)), .inr (.inr (2, ac)), .inl r4] w17) fun r19 w18 =>
              if r19 ≠ 0 then
                nc_bV (nc_Call m_X10_next [.inr (.inr (10, ab))] w18) fun w20 =>
                some (some (.inl 1), w20)
              else
                some (some (.inl 0), w18)
            else
              nc_bV (nc_Call m_X10_next [.inr (.inr (10, ab))] w17) fun w21 =>
              none
          else
            nc_bV (nc_Call m_X10_next [.inr (.inr (10, ab))] w17) fun w22 =>
            none
        else
          nc_bI (nc_Call m_X10_fail [.inr (.inr (10, ab)), .inl 4] w3) fun r24 w23 =>
          nc_z r24 <| some (some (.inl r24), w23)
    else
      nc_bI (nc_Call m_X10_fail [.inr (.inr (10, ab)), .inl 1] w3) fun r26 w25 =>
      nc_z r26 <| some (some (.inl r26), w25) :=
  (nc_Call_eq _ _ _).trans ((if_pos (Nat.le_of_ble_eq_true rfl)).trans ((nc_Run_un [] 40).trans rfl))
set_option maxRecDepth 100000 in
theorem qc_X9_readAll_9 (aa : Nat) (ab : Nat) (ac : Nat) (xd : Int32) (w : nc_H) : nc_Call m_X9_readAll_9 [.inr (.inr (9, aa)), .inr (.inr (10, ab)), .inr (.inr (2, ac)), .inl xd] w =
  nc_bI (nc_Call m_X9_readOne_9 [.inr (.inr (9, aa)), .inr (.inr (10, ab)), .inr (.inr (2, ac)), .inl xd] w) fun r2 w1 =>
  if r2 ≠ 0 then
    nc_Run m_X9_readAll_9 15 [some (.inr (.inr (9, aa))), some (.inr (.inr (10, ab))), some (.inr (.inr (2, ac))), some (.inl xd), some (.inl 0)] [] w1
  else
    some (some (.inl 0), w1) :=
  (nc_Call_eq _ _ _).trans ((if_pos (Nat.le_of_ble_eq_true rfl)).trans ((nc_Run_un [15] 9).trans rfl))
set_option maxRecDepth 100000 in
theorem qr_X9_readAll_9_15 (aa : Nat) (ab : Nat) (ac : Nat) (xd : Int32) (xe : Int32) (w : nc_H) : nc_Run m_X9_readAll_9 15 [some (.inr (.inr (9, aa))), some (.inr (.inr (10, ab))), some (.inr (.inr (2, ac))), some (.inl xd), some (.inl xe)] [] w =
  if (20 : Int32) ≤ xe then
    some (some (.inl 1), w)
  else
    nc_bI (nc_Call m_X10_word [.inr (.inr (10, ab))] w) fun r2 w1 =>
    if r2 ≠ 13 then
      some (some (.inl 1), w1)
    else
      nc_bV (nc_Call m_X10_next [.inr (.inr (10, ab))] w1) fun w3 =>
      nc_bI (nc_Call m_X9_readOne_9 [.inr (.inr (9, aa)), .inr (.inr (10, ab)), .inr (.inr (2, ac)), .inl xd] w3) fun r5 w4 =>
      if r5 ≠ 0 then
        nc_bV (nc_Call m_X9_put [.inr (.inr (9, aa)), .inl 13, .inl 0, .inl 0] w4) fun w6 =>
        nc_li (xe + 1) fun x7 =>
        nc_Run m_X9_readAll_9 15 [some (.inr (.inr (9, aa))), some (.inr (.inr (10, ab))), some (.inr (.inr (2, ac))), some (.inl xd), some (.inl x7)] [] w6
      else
        some (some (.inl 0), w4) :=
  (nc_Run_un [15] 23).trans rfl
set_option maxRecDepth 100000 in
theorem qc_X9_readCond_9 (aa : Nat) (ab : Nat) (ac : Nat) (xd : Int32) (w : nc_H) : nc_Call m_X9_readCond_9 [.inr (.inr (9, aa)), .inr (.inr (10, ab)), .inr (.inr (2, ac)), .inl xd] w =
  nc_bI (nc_Call m_X9_readAll_9 [.inr (.inr (9, aa)), .inr (.inr (10, ab)), .inr (.inr (2, ac)), .inl xd] w) fun r2 w1 =>
  if r2 ≠ 0 then
    nc_Run m_X9_readCond_9 15 [some (.inr (.inr (9, aa))), some (.inr (.inr (10, ab))), some (.inr (.inr (2, ac))), some (.inl xd), some (.inl 0)] [] w1
  else
    some (some (.inl 0), w1) :=
  (nc_Call_eq _ _ _).trans ((if_pos (Nat.le_of_ble_eq_true rfl)).trans ((nc_Run_un [15] 9).trans rfl))
set_option maxRecDepth 100000 in
theorem qr_X9_readCond_9_15 (aa : Nat) (ab : Nat) (ac : Nat) (xd : Int32) (xe : Int32) (w : nc_H) : nc_Run m_X9_readCond_9 15 [some (.inr (.inr (9, aa))), some (.inr (.inr (10, ab))), some (.inr (.inr (2, ac))), some (.inl xd), some (.inl xe)] [] w =
  if (20 : Int32) ≤ xe then
    some (some (.inl 1), w)
  else
    nc_bI (nc_Call m_X10_word [.inr (.inr (10, ab))] w) fun r2 w1 =>
    if r2 ≠ 12 then
      some (some (.inl 1), w1)
    else
      nc_bV (nc_Call m_X10_next [.inr (.inr (10, ab))] w1) fun w3 =>
      nc_bI (nc_Call m_X9_readAll_9 [.inr (.inr (9, aa)), .inr (.inr (10, ab)), .inr (.inr (2, ac)), .inl xd] w3) fun r5 w4 =>
      if r5 ≠ 0 then
        nc_bV (nc_Call m_X9_put [.inr (.inr (9, aa)), .inl 12, .inl 0, .inl 0] w4) fun w6 =>
        nc_li (xe + 1) fun x7 =>
        nc_Run m_X9_readCond_9 15 [some (.inr (.inr (9, aa))), some (.inr (.inr (10, ab))), some (.inr (.inr (2, ac))), some (.inl xd), some (.inl x7)] [] w6
      else
        some (some (.inl 0), w4) :=
  (nc_Run_un [15] 23).trans rfl
set_option maxRecDepth 100000 in
theorem qc_X9_readOne_8 (aa : Nat) (ab : Nat) (ac : Nat) (xd : Int32) (w : nc_H) : nc_Call m_X9_readOne_8 [.inr (.inr (9, aa)), .inr (.inr (10, ab)), .inr (.inr (2, ac)), .inl xd] w =
  nc_bI (nc_Call m_X10_isSign [.inr (.inr (10, ab)), .inl 40] w) fun r2 w1 =>
  nc_bI (nc_Call m_X10_word [.inr (.inr (10, ab))] w1) fun r4 w3 =>
  if r2 ≠ 0 then
    if (20 : Int32) ≤ (w3.1 9 aa 4) then
      nc_bI (nc_Call m_X10_fail [.inr (.inr (10, ab)), .inl 4] w3) fun r6 w5 =>
      nc_z r6 <| some (some (.inl r6), w5)
    else
      if xd ≤ 8 then
        nc_lt (nc_si w3 9 aa 4 ((w3.1 9 aa 4) + 1)) fun w7 =>
        if r2 = 0 then
          if r4 ≠ 14 then
            nc_bI (nc_Call m_X9_readPlainOne [.inr (.inr (9, aa)), .inr (.inr (10, ab)), .inr (.inr (2, ac)), .inl r4] w7) fun r9 w8 =>
            if r9 ≠ 0 then
              nc_bV (nc_Call m_X10_next [.inr (.inr (10, ab))] w8) fun w10 =>
              some (some (.inl 1), w10)
            else
              some (some (.inl 0), w8)
          else
            nc_bV (nc_Call m_X10_next [.inr (.inr (10, ab))] w7) fun w11 =>
            nc_bI (nc_Call m_X9_readOne_9 [.inr (.inr (9, aa)), .inr (.inr (10, ab)), .inr (.inr (2, ac)), .inl (xd + 1)] w11) fun r13 w12 =>
            if r13 ≠ 0 then
              nc_bV (nc_Call m_X9_put [.inr (.inr (9, aa)), .inl 14, .inl 0, .inl 0] w12) fun w14 =>
              some (some (.inl 1), w14)
            else
              some (some (.inl 0), w12)
        else
          nc_bV (nc_Call m_X10_next [.inr (.inr (10, ab))] w7) fun w15 =>
          nc_bI (nc_Call m_X9_readCond_9 [.inr (.inr (9, aa)), .inr (.inr (10, ab)), .inr (.inr (2, ac)), .inl (xd + 1)] w15) fun r17 w16 =>
          if r17 = 0 then
            some (some (.inl 0), w16)
          else
            nc_bI (nc_Call m_X10_mustBeSign [.inr (.inr (10, ab)), .inl 41] w16) fun r19 w18 =>
            if r19 ≠ 0 then
              nc_bV (nc_Call m_X10_next [.inr (.inr (10, ab))] w18) fun w20 =>
              some (some (.inl 1), w20)
            else
              some (some (.inl 0), w18)
      else
        nc_bI (nc_Call m_X10_fail [.inr (.inr (10, ab)), .inl 4] w3) fun r22 w21 =>
        nc_z r22 <| some (some (.inl r22), w21)
  else
    if (14 : Int32) ≤ r4 then
      if (20 : Int32) ≤ (w3.1 9 aa 4) then
        nc_bI (nc_Call m_X10_fail [.inr (.inr (10, ab)), .inl 4] w3) fun r24 w23 =>
        nc_z r24 <| some (some (.inl r24), w23)
      else
        if xd ≤ 8 then
          nc_lt (nc_si w3 9 aa 4 ((w3.1 9 aa 4) + 1)) fun w25 =>
          if r2 = 0 then
            if r4 ≠ 14 then
              nc_bI (nc_Call m_X9_readPlainOne [.inr (.inr (9, aa)), .inr (.inr (10, ab)), .inr (.inr (2, ac)), .inl r4] w25) fun r27 w26 =>
              if r27 ≠ 0 then
                nc_bV (nc_Call m_X10_next [.inr (.inr (10, ab))] w26) fun w28 =>
                some (some (.inl 1), w28)
              else
                some (some (.inl 0), w26)
            else
              nc_bV (nc_Call m_X10_next [.inr (.inr (10, ab))] w25) fun w29 =>
              nc_bI (nc_Call m_X9_readOne_9 [.inr (.inr (9, aa)), .inr (.inr (10, ab)), .inr (.inr (2, ac)), .inl (xd + 1)] w29) fun r31 w30 =>
              if r31 ≠ 0 then
                nc_bV (nc_Call m_X9_put [.inr (.inr (9, aa)), .inl 14, .inl 0, .inl 0] w30) fun w32 =>
                some (some (.inl 1), w32)
              else
                some (some (.inl 0), w30)
          else
            nc_bV (nc_Call m_X10_next [.inr (.inr (10, ab))] w25) fun w33 =>
            nc_bI (nc_Call m_X9_readCond_9 [.inr (.inr (9, aa)), .inr (.inr (10, ab)), .inr (.inr (2, ac)), .inl (xd + 1)] w33) fun r35 w34 =>
            if r35 = 0 then
              some (some (.inl 0), w34)
            else
              nc_bI (nc_Call m_X10_mustBeSign [.inr (.inr (10, ab)), .inl 41] w34) fun r37 w36 =>
              if r37 ≠ 0 then
                nc_bV (nc_Call m_X10_next [.inr (.inr (10, ab))] w36) fun w38 =>
                some (some (.inl 1), w38)
              else
                some (some (.inl 0), w36)
        else
          nc_bI (nc_Call m_X10_fail [.inr (.inr (10, ab)), .inl 4] w3) fun r40 w39 =>
          nc_z r40 <| some (some (.inl r40), w39)
    else
      nc_bI (nc_Call m_X10_fail [.inr (.inr (10, ab)), .inl 1] w3) fun r42 w41 =>
      nc_z r42 <| some (some (.inl r42), w41) :=
  (nc_Call_eq _ _ _).trans ((if_pos (Nat.le_of_ble_eq_true rfl)).trans ((nc_Run_un [] 47).trans rfl))
set_option maxRecDepth 100000 in
theorem qc_X9_readAll_8 (aa : Nat) (ab : Nat) (ac : Nat) (xd : Int32) (w : nc_H) : nc_Call m_X9_readAll_8 [.inr (.inr (9, aa)), .inr (.inr (10, ab)), .inr (.inr (2, ac)), .inl xd] w =
  nc_bI (nc_Call m_X9_readOne_8 [.inr (.inr (9, aa)), .inr (.inr (10, ab)), .inr (.inr (2, ac)), .inl xd] w) fun r2 w1 =>
  if r2 ≠ 0 then
    nc_Run m_X9_readAll_8 15 [some (.inr (.inr (9, aa))), some (.inr (.inr (10, ab))), some (.inr (.inr (2, ac))), some (.inl xd), some (.inl 0)] [] w1
  else
    some (some (.inl 0), w1) :=
  (nc_Call_eq _ _ _).trans ((if_pos (Nat.le_of_ble_eq_true rfl)).trans ((nc_Run_un [15] 9).trans rfl))
set_option maxRecDepth 100000 in
theorem qr_X9_readAll_8_15 (aa : Nat) (ab : Nat) (ac : Nat) (xd : Int32) (xe : Int32) (w : nc_H) : nc_Run m_X9_readAll_8 15 [some (.inr (.inr (9, aa))), some (.inr (.inr (10, ab))), some (.inr (.inr (2, ac))), some (.inl xd), some (.inl xe)] [] w =
  if (20 : Int32) ≤ xe then
    some (some (.inl 1), w)
  else
    nc_bI (nc_Call m_X10_word [.inr (.inr (10, ab))] w) fun r2 w1 =>
    if r2 ≠ 13 then
      some (some (.inl 1), w1)
    else
      nc_bV (nc_Call m_X10_next [.inr (.inr (10, ab))] w1) fun w3 =>
      nc_bI (nc_Call m_X9_readOne_8 [.inr (.inr (9, aa)), .inr (.inr (10, ab)), .inr (.inr (2, ac)), .inl xd] w3) fun r5 w4 =>
      if r5 ≠ 0 then
        nc_bV (nc_Call m_X9_put [.inr (.inr (9, aa)), .inl 13, .inl 0, .inl 0] w4) fun w6 =>
        nc_li (xe + 1) fun x7 =>
        nc_Run m_X9_readAll_8 15 [some (.inr (.inr (9, aa))), some (.inr (.inr (10, ab))), some (.inr (.inr (2, ac))), some (.inl xd), some (.inl x7)] [] w6
      else
        some (some (.inl 0), w4) :=
  (nc_Run_un [15] 23).trans rfl
set_option maxRecDepth 100000 in
theorem qc_X9_readCond_8 (aa : Nat) (ab : Nat) (ac : Nat) (xd : Int32) (w : nc_H) : nc_Call m_X9_readCond_8 [.inr (.inr (9, aa)), .inr (.inr (10, ab)), .inr (.inr (2, ac)), .inl xd] w =
  nc_bI (nc_Call m_X9_readAll_8 [.inr (.inr (9, aa)), .inr (.inr (10, ab)), .inr (.inr (2, ac)), .inl xd] w) fun r2 w1 =>
  if r2 ≠ 0 then
    nc_Run m_X9_readCond_8 15 [some (.inr (.inr (9, aa))), some (.inr (.inr (10, ab))), some (.inr (.inr (2, ac))), some (.inl xd), some (.inl 0)] [] w1
  else
    some (some (.inl 0), w1) :=
  (nc_Call_eq _ _ _).trans ((if_pos (Nat.le_of_ble_eq_true rfl)).trans ((nc_Run_un [15] 9).trans rfl))
set_option maxRecDepth 100000 in
theorem qr_X9_readCond_8_15 (aa : Nat) (ab : Nat) (ac : Nat) (xd : Int32) (xe : Int32) (w : nc_H) : nc_Run m_X9_readCond_8 15 [some (.inr (.inr (9, aa))), some (.inr (.inr (10, ab))), some (.inr (.inr (2, ac))), some (.inl xd), some (.inl xe)] [] w =
  if (20 : Int32) ≤ xe then
    some (some (.inl 1), w)
  else
    nc_bI (nc_Call m_X10_word [.inr (.inr (10, ab))] w) fun r2 w1 =>
    if r2 ≠ 12 then
      some (some (.inl 1), w1)
    else
      nc_bV (nc_Call m_X10_next [.inr (.inr (10, ab))] w1) fun w3 =>
      nc_bI (nc_Call m_X9_readAll_8 [.inr (.inr (9, aa)), .inr (.inr (10, ab)), .inr (.inr (2, ac)), .inl xd] w3) fun r5 w4 =>
      if r5 ≠ 0 then
        nc_bV (nc_Call m_X9_put [.inr (.inr (9, aa)), .inl 12, .inl 0, .inl 0] w4) fun w6 =>
        nc_li (xe + 1) fun x7 =>
        nc_Run m_X9_readCond_8 15 [some (.inr (.inr (9, aa))), some (.inr (.inr (10, ab))), some (.inr (.inr (2, ac))), some (.inl xd), some (.inl x7)] [] w6
      else
        some (some (.inl 0), w4) :=
  (nc_Run_un [15] 23).trans rfl
set_option maxRecDepth 100000 in
theorem qc_X9_readOne_7 (aa : Nat) (ab : Nat) (ac : Nat) (xd : Int32) (w : nc_H) : nc_Call m_X9_readOne_7 [.inr (.inr (9, aa)), .inr (.inr (10, ab)), .inr (.inr (2, ac)), .inl xd] w =
  nc_bI (nc_Call m_X10_isSign [.inr (.inr (10, ab)), .inl 40] w) fun r2 w1 =>
  nc_bI (nc_Call m_X10_word [.inr (.inr (10, ab))] w1) fun r4 w3 =>
  if r2 ≠ 0 then
    if (20 : Int32) ≤ (w3.1 9 aa 4) then
      nc_bI (nc_Call m_X10_fail [.inr (.inr (10, ab)), .inl 4] w3) fun r6 w5 =>
      nc_z r6 <| some (some (.inl r6), w5)
    else
      if xd ≤ 8 then
        nc_lt (nc_si w3 9 aa 4 ((w3.1 9 aa 4) + 1)) fun w7 =>
        if r2 = 0 then
          if r4 ≠ 14 then
            nc_bI (nc_Call m_X9_readPlainOne [.inr (.inr (9, aa)), .inr (.inr (10, ab)), .inr (.inr (2, ac)), .inl r4] w7) fun r9 w8 =>
            if r9 ≠ 0 then
              nc_bV (nc_Call m_X10_next [.inr (.inr (10, ab))] w8) fun w10 =>
              some (some (.inl 1), w10)
            else
              some (some (.inl 0), w8)
          else
            nc_bV (nc_Call m_X10_next [.inr (.inr (10, ab))] w7) fun w11 =>
            nc_bI (nc_Call m_X9_readOne_8 [.inr (.inr (9, aa)), .inr (.inr (10, ab)), .inr (.inr (2, ac)), .inl (xd + 1)] w11) fun r13 w12 =>
            if r13 ≠ 0 then
              nc_bV (nc_Call m_X9_put [.inr (.inr (9, aa)), .inl 14, .inl 0, .inl 0] w12) fun w14 =>
              some (some (.inl 1), w14)
            else
              some (some (.inl 0), w12)
        else
          nc_bV (nc_Call m_X10_next [.inr (.inr (10, ab))] w7) fun w15 =>
          nc_bI (nc_Call m_X9_readCond_8 [.inr (.inr (9, aa)), .inr (.inr (10, ab)), .inr (.inr (2, ac)), .inl (xd + 1)] w15) fun r17 w16 =>
          if r17 = 0 then
            some (some (.inl 0), w16)
          else
            nc_bI (nc_Call m_X10_mustBeSign [.inr (.inr (10, ab)), .inl 41] w16) fun r19 w18 =>
            if r19 ≠ 0 then
              nc_bV (nc_Call m_X10_next [.inr (.inr (10, ab))] w18) fun w20 =>
              some (some (.inl 1), w20)
            else
              some (some (.inl 0), w18)
      else
        nc_bI (nc_Call m_X10_fail [.inr (.inr (10, ab)), .inl 4] w3) fun r22 w21 =>
        nc_z r22 <| some (some (.inl r22), w21)
  else
    if (14 : Int32) ≤ r4 then
      if (20 : Int32) ≤ (w3.1 9 aa 4) then
        nc_bI (nc_Call m_X10_fail [.inr (.inr (10, ab)), .inl 4] w3) fun r24 w23 =>
        nc_z r24 <| some (some (.inl r24), w23)
      else
        if xd ≤ 8 then
          nc_lt (nc_si w3 9 aa 4 ((w3.1 9 aa 4) + 1)) fun w25 =>
          if r2 = 0 then
            if r4 ≠ 14 then
              nc_bI (nc_Call m_X9_readPlainOne [.inr (.inr (9, aa)), .inr (.inr (10, ab)), .inr (.inr (2, ac)), .inl r4] w25) fun r27 w26 =>
              if r27 ≠ 0 then
                nc_bV (nc_Call m_X10_next [.inr (.inr (10, ab))] w26) fun w28 =>
                some (some (.inl 1), w28)
              else
                some (some (.inl 0), w26)
            else
              nc_bV (nc_Call m_X10_next [.inr (.inr (10, ab))] w25) fun w29 =>
              nc_bI (nc_Call m_X9_readOne_8 [.inr (.inr (9, aa)), .inr (.inr (10, ab)), .inr (.inr (2, ac)), .inl (xd + 1)] w29) fun r31 w30 =>
              if r31 ≠ 0 then
                nc_bV (nc_Call m_X9_put [.inr (.inr (9, aa)), .inl 14, .inl 0, .inl 0] w30) fun w32 =>
                some (some (.inl 1), w32)
              else
                some (some (.inl 0), w30)
          else
            nc_bV (nc_Call m_X10_next [.inr (.inr (10, ab))] w25) fun w33 =>
            nc_bI (nc_Call m_X9_readCond_8 [.inr (.inr (9, aa)), .inr (.inr (10, ab)), .inr (.inr (2, ac)), .inl (xd + 1)] w33) fun r35 w34 =>
            if r35 = 0 then
              some (some (.inl 0), w34)
            else
              nc_bI (nc_Call m_X10_mustBeSign [.inr (.inr (10, ab)), .inl 41] w34) fun r37 w36 =>
              if r37 ≠ 0 then
                nc_bV (nc_Call m_X10_next [.inr (.inr (10, ab))] w36) fun w38 =>
                some (some (.inl 1), w38)
              else
                some (some (.inl 0), w36)
        else
          nc_bI (nc_Call m_X10_fail [.inr (.inr (10, ab)), .inl 4] w3) fun r40 w39 =>
          nc_z r40 <| some (some (.inl r40), w39)
    else
      nc_bI (nc_Call m_X10_fail [.inr (.inr (10, ab)), .inl 1] w3) fun r42 w41 =>
      nc_z r42 <| some (some (.inl r42), w41) :=
  (nc_Call_eq _ _ _).trans ((if_pos (Nat.le_of_ble_eq_true rfl)).trans ((nc_Run_un [] 47).trans rfl))
set_option maxRecDepth 100000 in
theorem qc_X9_readAll_7 (aa : Nat) (ab : Nat) (ac : Nat) (xd : Int32) (w : nc_H) : nc_Call m_X9_readAll_7 [.inr (.inr (9, aa)), .inr (.inr (10, ab)), .inr (.inr (2, ac)), .inl xd] w =
  nc_bI (nc_Call m_X9_readOne_7 [.inr (.inr (9, aa)), .inr (.inr (10, ab)), .inr (.inr (2, ac)), .inl xd] w) fun r2 w1 =>
  if r2 ≠ 0 then
    nc_Run m_X9_readAll_7 15 [some (.inr (.inr (9, aa))), some (.inr (.inr (10, ab))), some (.inr (.inr (2, ac))), some (.inl xd), some (.inl 0)] [] w1
  else
    some (some (.inl 0), w1) :=
  (nc_Call_eq _ _ _).trans ((if_pos (Nat.le_of_ble_eq_true rfl)).trans ((nc_Run_un [15] 9).trans rfl))
set_option maxRecDepth 100000 in
theorem qr_X9_readAll_7_15 (aa : Nat) (ab : Nat) (ac : Nat) (xd : Int32) (xe : Int32) (w : nc_H) : nc_Run m_X9_readAll_7 15 [some (.inr (.inr (9, aa))), some (.inr (.inr (10, ab))), some (.inr (.inr (2, ac))), some (.inl xd), some (.inl xe)] [] w =
  if (20 : Int32) ≤ xe then
    some (some (.inl 1), w)
  else
    nc_bI (nc_Call m_X10_word [.inr (.inr (10, ab))] w) fun r2 w1 =>
    if r2 ≠ 13 then
      some (some (.inl 1), w1)
    else
      nc_bV (nc_Call m_X10_next [.inr (.inr (10, ab))] w1) fun w3 =>
      nc_bI (nc_Call m_X9_readOne_7 [.inr (.inr (9, aa)), .inr (.inr (10, ab)), .inr (.inr (2, ac)), .inl xd] w3) fun r5 w4 =>
      if r5 ≠ 0 then
        nc_bV (nc_Call m_X9_put [.inr (.inr (9, aa)), .inl 13, .inl 0, .inl 0] w4) fun w6 =>
        nc_li (xe + 1) fun x7 =>
        nc_Run m_X9_readAll_7 15 [some (.inr (.inr (9, aa))), some (.inr (.inr (10, ab))), some (.inr (.inr (2, ac))), some (.inl xd), some (.inl x7)] [] w6
      else
        some (some (.inl 0), w4) :=
  (nc_Run_un [15] 23).trans rfl
set_option maxRecDepth 100000 in
theorem qc_X9_readCond_7 (aa : Nat) (ab : Nat) (ac : Nat) (xd : Int32) (w : nc_H) : nc_Call m_X9_readCond_7 [.inr (.inr (9, aa)), .inr (.inr (10, ab)), .inr (.inr (2, ac)), .inl xd] w =
  nc_bI (nc_Call m_X9_readAll_7 [.inr (.inr (9, aa)), .inr (.inr (10, ab)), .inr (.inr (2, ac)), .inl xd] w) fun r2 w1 =>
  if r2 ≠ 0 then
    nc_Run m_X9_readCond_7 15 [some (.inr (.inr (9, aa))), some (.inr (.inr (10, ab))), some (.inr (.inr (2, ac))), some (.inl xd), some (.inl 0)] [] w1
  else
    some (some (.inl 0), w1) :=
  (nc_Call_eq _ _ _).trans ((if_pos (Nat.le_of_ble_eq_true rfl)).trans ((nc_Run_un [15] 9).trans rfl))
set_option maxRecDepth 100000 in
theorem qr_X9_readCond_7_15 (aa : Nat) (ab : Nat) (ac : Nat) (xd : Int32) (xe : Int32) (w : nc_H) : nc_Run m_X9_readCond_7 15 [some (.inr (.inr (9, aa))), some (.inr (.inr (10, ab))), some (.inr (.inr (2, ac))), some (.inl xd), some (.inl xe)] [] w =
  if (20 : Int32) ≤ xe then
    some (some (.inl 1), w)
  else
    nc_bI (nc_Call m_X10_word [.inr (.inr (10, ab))] w) fun r2 w1 =>
    if r2 ≠ 12 then
      some (some (.inl 1), w1)
    else
      nc_bV (nc_Call m_X10_next [.inr (.inr (10, ab))] w1) fun w3 =>
      nc_bI (nc_Call m_X9_readAll_7 [.inr (.inr (9, aa)), .inr (.inr (10, ab)), .inr (.inr (2, ac)), .inl xd] w3) fun r5 w4 =>
      if r5 ≠ 0 then
        nc_bV (nc_Call m_X9_put [.inr (.inr (9, aa)), .inl 12, .inl 0, .inl 0] w4) fun w6 =>
        nc_li (xe + 1) fun x7 =>
        nc_Run m_X9_readCond_7 15 [some (.inr (.inr (9, aa))), some (.inr (.inr (10, ab))), some (.inr (.inr (2, ac))), some (.inl xd), some (.inl x7)] [] w6
      else
        some (some (.inl 0), w4) :=
  (nc_Run_un [15] 23).trans rfl
set_option maxRecDepth 100000 in
theorem qc_X9_readOne_6 (aa : Nat) (ab : Nat) (ac : Nat) (xd : Int32) (w : nc_H) : nc_Call m_X9_readOne_6 [.inr (.inr (9, aa)), .inr (.inr (10, ab)), .inr (.inr (2, ac)), .inl xd] w =
  nc_bI (nc_Call m_X10_isSign [.inr (.inr (10, ab)), .inl 40] w) fun r2 w1 =>
  nc_bI (nc_Call m_X10_word [.inr (.inr (10, ab))] w1) fun r4 w3 =>
  if r2 ≠ 0 then
    if (20 : Int32) ≤ (w3.1 9 aa 4) then
      nc_bI (nc_Call m_X10_fail [.inr (.inr (10, ab)), .inl 4] w3) fun r6 w5 =>
      nc_z r6 <| some (some (.inl r6), w5)
    else
      if xd ≤ 8 then
        nc_lt (nc_si w3 9 aa 4 ((w3.1 9 aa 4) + 1)) fun w7 =>
        if r2 = 0 then
          if r4 ≠ 14 then
            nc_bI (nc_Call m_X9_readPlainOne [.inr (.inr (9, aa)), .inr (.inr (10, ab)), .inr (.inr (2, ac)), .inl r4] w7) fun r9 w8 =>
            if r9 ≠ 0 then
              nc_bV (nc_Call m_X10_next [.inr (.inr (10, ab))] w8) fun w10 =>
              some (some (.inl 1), w10)
            else
              some (some (.inl 0), w8)
          else
            nc_bV (nc_Call m_X10_next [.inr (.inr (10, ab))] w7) fun w11 =>
            nc_bI (nc_Call m_X9_readOne_7 [.inr (.inr (9, aa)), .inr (.inr (10, ab)), .inr (.inr (2, ac)), .inl (xd + 1)] w11) fun r13 w12 =>
            if r13 ≠ 0 then
              nc_bV (nc_Call m_X9_put [.inr (.inr (9, aa)), .inl 14, .inl 0, .inl 0] w12) fun w14 =>
              some (some (.inl 1), w14)
            else
              some (some (.inl 0), w12)
        else
          nc_bV (nc_Call m_X10_next [.inr (.inr (10, ab))] w7) fun w15 =>
          nc_bI (nc_Call m_X9_readCond_7 [.inr (.inr (9, aa)), .inr (.inr (10, ab)), .inr (.inr (2, ac)), .inl (xd + 1)] w15) fun r17 w16 =>
          if r17 = 0 then
            some (some (.inl 0), w16)
          else
            nc_bI (nc_Call m_X10_mustBeSign [.inr (.inr (10, ab)), .inl 41] w16) fun r19 w18 =>
            if r19 ≠ 0 then
              nc_bV (nc_Call m_X10_next [.inr (.inr (10, ab))] w18) fun w20 =>
              some (some (.inl 1), w20)
            else
              some (some (.inl 0), w18)
      else
        nc_bI (nc_Call m_X10_fail [.inr (.inr (10, ab)), .inl 4] w3) fun r22 w21 =>
        nc_z r22 <| some (some (.inl r22), w21)
  else
    if (14 : Int32) ≤ r4 then
      if (20 : Int32) ≤ (w3.1 9 aa 4) then
        nc_bI (nc_Call m_X10_fail [.inr (.inr (10, ab)), .inl 4] w3) fun r24 w23 =>
        nc_z r24 <| some (some (.inl r24), w23)
      else
        if xd ≤ 8 then
          nc_lt (nc_si w3 9 aa 4 ((w3.1 9 aa 4) + 1)) fun w25 =>
          if r2 = 0 then
            if r4 ≠ 14 then
              nc_bI (nc_Call m_X9_readPlainOne [.inr (.inr (9, aa)), .inr (.inr (10, ab)), .inr (.inr (2, ac)), .inl r4] w25) fun r27 w26 =>
              if r27 ≠ 0 then
                nc_bV (nc_Call m_X10_next [.inr (.inr (10, ab))] w26) fun w28 =>
                some (some (.inl 1), w28)
              else
                some (some (.inl 0), w26)
            else
              nc_bV (nc_Call m_X10_next [.inr (.inr (10, ab))] w25) fun w29 =>
              nc_bI (nc_Call m_X9_readOne_7 [.inr (.inr (9, aa)), .inr (.inr (10, ab)), .inr (.inr (2, ac)), .inl (xd + 1)] w29) fun r31 w30 =>
              if r31 ≠ 0 then
                nc_bV (nc_Call m_X9_put [.inr (.inr (9, aa)), .inl 14, .inl 0, .inl 0] w30) fun w32 =>
                some (some (.inl 1), w32)
              else
                some (some (.inl 0), w30)
          else
            nc_bV (nc_Call m_X10_next [.inr (.inr (10, ab))] w25) fun w33 =>
            nc_bI (nc_Call m_X9_readCond_7 [.inr (.inr (9, aa)), .inr (.inr (10, ab)), .inr (.inr (2, ac)), .inl (xd + 1)] w33) fun r35 w34 =>
            if r35 = 0 then
              some (some (.inl 0), w34)
            else
              nc_bI (nc_Call m_X10_mustBeSign [.inr (.inr (10, ab)), .inl 41] w34) fun r37 w36 =>
              if r37 ≠ 0 then
                nc_bV (nc_Call m_X10_next [.inr (.inr (10, ab))] w36) fun w38 =>
                some (some (.inl 1), w38)
              else
                some (some (.inl 0), w36)
        else
          nc_bI (nc_Call m_X10_fail [.inr (.inr (10, ab)), .inl 4] w3) fun r40 w39 =>
          nc_z r40 <| some (some (.inl r40), w39)
    else
      nc_bI (nc_Call m_X10_fail [.inr (.inr (10, ab)), .inl 1] w3) fun r42 w41 =>
      nc_z r42 <| some (some (.inl r42), w41) :=
  (nc_Call_eq _ _ _).trans ((if_pos (Nat.le_of_ble_eq_true rfl)).trans ((nc_Run_un [] 47).trans rfl))
set_option maxRecDepth 100000 in
theorem qc_X9_readAll_6 (aa : Nat) (ab : Nat) (ac : Nat) (xd : Int32) (w : nc_H) : nc_Call m_X9_readAll_6 [.inr (.inr (9, aa)), .inr (.inr (10, ab)), .inr (.inr (2, ac)), .inl xd] w =
  nc_bI (nc_Call m_X9_readOne_6 [.inr (.inr (9, aa)), .inr (.inr (10, ab)), .inr (.inr (2, ac)), .inl xd] w) fun r2 w1 =>
  if r2 ≠ 0 then
    nc_Run m_X9_readAll_6 15 [some (.inr (.inr (9, aa))), some (.inr (.inr (10, ab))), some (.inr (.inr (2, ac))), some (.inl xd), some (.inl 0)] [] w1
  else
    some (some (.inl 0), w1) :=
  (nc_Call_eq _ _ _).trans ((if_pos (Nat.le_of_ble_eq_true rfl)).trans ((nc_Run_un [15] 9).trans rfl))
set_option maxRecDepth 100000 in
theorem qr_X9_readAll_6_15 (aa : Nat) (ab : Nat) (ac : Nat) (xd : Int32) (xe : Int32) (w : nc_H) : nc_Run m_X9_readAll_6 15 [some (.inr (.inr (9, aa))), some (.inr (.inr (10, ab))), some (.inr (.inr (2, ac))), some (.inl xd), some (.inl xe)] [] w =
  if (20 : Int32) ≤ xe then
    some (some (.inl 1), w)
  else
    nc_bI (nc_Call m_X10_word [.inr (.inr (10, ab))] w) fun r2 w1 =>
    if r2 ≠ 13 then
      some (some (.inl 1), w1)
    else
      nc_bV (nc_Call m_X10_next [.inr (.inr (10, ab))] w1) fun w3 =>
      nc_bI (nc_Call m_X9_readOne_6 [.inr (.inr (9, aa)), .inr (.inr (10, ab)), .inr (.inr (2, ac)), .inl xd] w3) fun r5 w4 =>
      if r5 ≠ 0 then
        nc_bV (nc_Call m_X9_put [.inr (.inr (9, aa)), .inl 13, .inl 0, .inl 0] w4) fun w6 =>
        nc_li (xe + 1) fun x7 =>
        nc_Run m_X9_readAll_6 15 [some (.inr (.inr (9, aa))), some (.inr (.inr (10, ab))), some (.inr (.inr (2, ac))), some (.inl xd), some (.inl x7)] [] w6
      else
        some (some (.inl 0), w4) :=
  (nc_Run_un [15] 23).trans rfl
set_option maxRecDepth 100000 in
theorem qc_X9_readCond_6 (aa : Nat) (ab : Nat) (ac : Nat) (xd : Int32) (w : nc_H) : nc_Call m_X9_readCond_6 [.inr (.inr (9, aa)), .inr (.inr (10, ab)), .inr (.inr (2, ac)), .inl xd] w =
  nc_bI (nc_Call m_X9_readAll_6 [.inr (.inr (9, aa)), .inr (.inr (10, ab)), .inr (.inr (2, ac)), .inl xd] w) fun r2 w1 =>
  if r2 ≠ 0 then
    nc_Run m_X9_readCond_6 15 [some (.inr (.inr (9, aa))), some (.inr (.inr (10, ab))), some (.inr (.inr (2, ac))), some (.inl xd), some (.inl 0)] [] w1
  else
    some (some (.inl 0), w1) :=
  (nc_Call_eq _ _ _).trans ((if_pos (Nat.le_of_ble_eq_true rfl)).trans ((nc_Run_un [15] 9).trans rfl))
set_option maxRecDepth 100000 in
theorem qr_X9_readCond_6_15 (aa : Nat) (ab : Nat) (ac : Nat) (xd : Int32) (xe : Int32) (w : nc_H) : nc_Run m_X9_readCond_6 15 [some (.inr (.inr (9, aa))), some (.inr (.inr (10, ab))), some (.inr (.inr (2, ac))), some (.inl xd), some (.inl xe)] [] w =
  if (20 : Int32) ≤ xe then
    some (some (.inl 1), w)
  else
    nc_bI (nc_Call m_X10_word [.inr (.inr (10, ab))] w) fun r2 w1 =>
    if r2 ≠ 12 then
      some (some (.inl 1), w1)
    else
      nc_bV (nc_Call m_X10_next [.inr (.inr (10, ab))] w1) fun w3 =>
      nc_bI (nc_Call m_X9_readAll_6 [.inr (.inr (9, aa)), .inr (.inr (10, ab)), .inr (.inr (2, ac)), .inl xd] w3) fun r5 w4 =>
      if r5 ≠ 0 then
        nc_bV (nc_Call m_X9_put [.inr (.inr (9, aa)), .inl 12, .inl 0, .inl 0] w4) fun w6 =>
        nc_li (xe + 1) fun x7 =>
        nc_Run m_X9_readCond_6 15 [some (.inr (.inr (9, aa))), some (.inr (.inr (10, ab))), some (.inr (.inr (2, ac))), some (.inl xd), some (.inl x7)] [] w6
      else
        some (some (.inl 0), w4) :=
  (nc_Run_un [15] 23).trans rfl
set_option maxRecDepth 100000 in
theorem qc_X9_readOne_5 (aa : Nat) (ab : Nat) (ac : Nat) (xd : Int32) (w : nc_H) : nc_Call m_X9_readOne_5 [.inr (.inr (9, aa)), .inr (.inr (10, ab)), .inr (.inr (2, ac)), .inl xd] w =
  nc_bI (nc_Call m_X10_isSign [.inr (.inr (10, ab)), .inl 40] w) fun r2 w1 =>
  nc_bI (nc_Call m_X10_word [.inr (.inr (10, ab))] w1) fun r4 w3 =>
  if r2 ≠ 0 then
    if (20 : Int32) ≤ (w3.1 9 aa 4) then
      nc_bI (nc_Call m_X10_fail [.inr (.inr (10, ab)), .inl 4] w3) fun r6 w5 =>
      nc_z r6 <| some (some (.inl r6), w5)
    else
      if xd ≤ 8 then
        nc_lt (nc_si w3 9 aa 4 ((w3.1 9 aa 4) + 1)) fun w7 =>
        if r2 = 0 then
          if r4 ≠ 14 then
            nc_bI (nc_Call m_X9_readPlainOne [.inr (.inr (9, aa)), .inr (.inr (10, ab)), .inr (.inr (2, ac)), .inl r4] w7) fun r9 w8 =>
            if r9 ≠ 0 then
              nc_bV (nc_Call m_X10_next [.inr (.inr (10, ab))] w8) fun w10 =>
              some (some (.inl 1), w10)
            else
              some (some (.inl 0), w8)
          else
            nc_bV (nc_Call m_X10_next [.inr (.inr (10, ab))] w7) fun w11 =>
            nc_bI (nc_Call m_X9_readOne_6 [.inr (.inr (9, aa)), .inr (.inr (10, ab)), .inr (.inr (2, ac)), .inl (xd + 1)] w11) fun r13 w12 =>
            if r13 ≠ 0 then
              nc_bV (nc_Call m_X9_put [.inr (.inr (9, aa)), .inl 14, .inl 0, .inl 0] w12) fun w14 =>
              some (some (.inl 1), w14)
            else
              some (some (.inl 0), w12)
        else
          nc_bV (nc_Call m_X10_next [.inr (.inr (10, ab))] w7) fun w15 =>
          nc_bI (nc_Call m_X9_readCond_6 [.inr (.inr (9, aa)), .inr (.inr (10, ab)), .inr (.inr (2, ac)), .inl (xd + 1)] w15) fun r17 w16 =>
          if r17 = 0 then
            some (some (.inl 0), w16)
          else
            nc_bI (nc_Call m_X10_mustBeSign [.inr (.inr (10, ab)), .inl 41] w16) fun r19 w18 =>
            if r19 ≠ 0 then
              nc_bV (nc_Call m_X10_next [.inr (.inr (10, ab))] w18) fun w20 =>
              some (some (.inl 1), w20)
            else
              some (some (.inl 0), w18)
      else
        nc_bI (nc_Call m_X10_fail [.inr (.inr (10, ab)), .inl 4] w3) fun r22 w21 =>
        nc_z r22 <| some (some (.inl r22), w21)
  else
    if (14 : Int32) ≤ r4 then
      if (20 : Int32) ≤ (w3.1 9 aa 4) then
        nc_bI (nc_Call m_X10_fail [.inr (.inr (10, ab)), .inl 4] w3) fun r24 w23 =>
        nc_z r24 <| some (some (.inl r24), w23)
      else
        if xd ≤ 8 then
          nc_lt (nc_si w3 9 aa 4 ((w3.1 9 aa 4) + 1)) fun w25 =>
          if r2 = 0 then
            if r4 ≠ 14 then
              nc_bI (nc_Call m_X9_readPlainOne [.inr (.inr (9, aa)), .inr (.inr (10, ab)), .inr (.inr (2, ac)), .inl r4] w25) fun r27 w26 =>
              if r27 ≠ 0 then
                nc_bV (nc_Call m_X10_next [.inr (.inr (10, ab))] w26) fun w28 =>
                some (some (.inl 1), w28)
              else
                some (some (.inl 0), w26)
            else
              nc_bV (nc_Call m_X10_next [.inr (.inr (10, ab))] w25) fun w29 =>
              nc_bI (nc_Call m_X9_readOne_6 [.inr (.inr (9, aa)), .inr (.inr (10, ab)), .inr (.inr (2, ac)), .inl (xd + 1)] w29) fun r31 w30 =>
              if r31 ≠ 0 then
                nc_bV (nc_Call m_X9_put [.inr (.inr (9, aa)), .inl 14, .inl 0, .inl 0] w30) fun w32 =>
                some (some (.inl 1), w32)
              else
                some (some (.inl 0), w30)
          else
            nc_bV (nc_Call m_X10_next [.inr (.inr (10, ab))] w25) fun w33 =>
            nc_bI (nc_Call m_X9_readCond_6 [.inr (.inr (9, aa)), .inr (.inr (10, ab)), .inr (.inr (2, ac)), .inl (xd + 1)] w33) fun r35 w34 =>
            if r35 = 0 then
              some (some (.inl 0), w34)
            else
              nc_bI (nc_Call m_X10_mustBeSign [.inr (.inr (10, ab)), .inl 41] w34) fun r37 w36 =>
              if r37 ≠ 0 then
                nc_bV (nc_Call m_X10_next [.inr (.inr (10, ab))] w36) fun w38 =>
                some (some (.inl 1), w38)
              else
                some (some (.inl 0), w36)
        else
          nc_bI (nc_Call m_X10_fail [.inr (.inr (10, ab)), .inl 4] w3) fun r40 w39 =>
          nc_z r40 <| some (some (.inl r40), w39)
    else
      nc_bI (nc_Call m_X10_fail [.inr (.inr (10, ab)), .inl 1] w3) fun r42 w41 =>
      nc_z r42 <| some (some (.inl r42), w41) :=
  (nc_Call_eq _ _ _).trans ((if_pos (Nat.le_of_ble_eq_true rfl)).trans ((nc_Run_un [] 47).trans rfl))
set_option maxRecDepth 100000 in
theorem qc_X9_readAll_5 (aa : Nat) (ab : Nat) (ac : Nat) (xd : Int32) (w : nc_H) : nc_Call m_X9_readAll_5 [.inr (.inr (9, aa)), .inr (.inr (10, ab)), .inr (.inr (2, ac)), .inl xd] w =
  nc_bI (nc_Call m_X9_readOne_5 [.inr (.inr (9, aa)), .inr (.inr (10, ab)), .inr (.inr (2, ac)), .inl xd] w) fun r2 w1 =>
  if r2 ≠ 0 then
    nc_Run m_X9_readAll_5 15 [some (.inr (.inr (9, aa))), some (.inr (.inr (10, ab))), some (.inr (.inr (2, ac))), some (.inl xd), some (.inl 0)] [] w1
  else
    some (some (.inl 0), w1) :=
  (nc_Call_eq _ _ _).trans ((if_pos (Nat.le_of_ble_eq_true rfl)).trans ((nc_Run_un [15] 9).trans rfl))
set_option maxRecDepth 100000 in
theorem qr_X9_readAll_5_15 (aa : Nat) (ab : Nat) (ac : Nat) (xd : Int32) (xe : Int32) (w : nc_H) : nc_Run m_X9_readAll_5 15 [some (.inr (.inr (9, aa))), some (.inr (.inr (10, ab))), some (.inr (.inr (2, ac))), some (.inl xd), some (.inl xe)] [] w =
  if (20 : Int32) ≤ xe then
    some (some (.inl 1), w)
  else
    nc_bI (nc_Call m_X10_word [.inr (.inr (10, ab))] w) fun r2 w1 =>
    if r2 ≠ 13 then
      some (some (.inl 1), w1)
    else
      nc_bV (nc_Call m_X10_next [.inr (.inr (10, ab))] w1) fun w3 =>
      nc_bI (nc_Call m_X9_readOne_5 [.inr (.inr (9, aa)), .inr (.inr (10, ab)), .inr (.inr (2, ac)), .inl xd] w3) fun r5 w4 =>
      if r5 ≠ 0 then
        nc_bV (nc_Call m_X9_put [.inr (.inr (9, aa)), .inl 13, .inl 0, .inl 0] w4) fun w6 =>
        nc_li (xe + 1) fun x7 =>
        nc_Run m_X9_readAll_5 15 [some (.inr (.inr (9, aa))), some (.inr (.inr (10, ab))), some (.inr (.inr (2, ac))), some (.inl xd), some (.inl x7)] [] w6
      else
        some (some (.inl 0), w4) :=
  (nc_Run_un [15] 23).trans rfl
set_option maxRecDepth 100000 in
theorem qc_X9_readCond_5 (aa : Nat) (ab : Nat) (ac : Nat) (xd : Int32) (w : nc_H) : nc_Call m_X9_readCond_5 [.inr (.inr (9, aa)), .inr (.inr (10, ab)), .inr (.inr (2, ac)), .inl xd] w =
  nc_bI (nc_Call m_X9_readAll_5 [.inr (.inr (9, aa)), .inr (.inr (10, ab)), .inr (.inr (2, ac)), .inl xd] w) fun r2 w1 =>
  if r2 ≠ 0 then
    nc_Run m_X9_readCond_5 15 [some (.inr (.inr (9, aa))), some (.inr (.inr (10, ab))), some (.inr (.inr (2, ac))), some (.inl xd), some (.inl 0)] [] w1
  else
    some (some (.inl 0), w1) :=
  (nc_Call_eq _ _ _).trans ((if_pos (Nat.le_of_ble_eq_true rfl)).trans ((nc_Run_un [15] 9).trans rfl))
set_option maxRecDepth 100000 in
theorem qr_X9_readCond_5_15 (aa : Nat) (ab : Nat) (ac : Nat) (xd : Int32) (xe : Int32) (w : nc_H) : nc_Run m_X9_readCond_5 15 [some (.inr (.inr (9, aa))), some (.inr (.inr (10, ab))), some (.inr (.inr (2, ac))), some (.inl xd), some (.inl xe)] [] w =
  if (20 : Int32) ≤ xe then
    some (some (.inl 1), w)
  else
    nc_bI (nc_Call m_X10_word [.inr (.inr (10, ab))] w) fun r2 w1 =>
    if r2 ≠ 12 then
      some (some (.inl 1), w1)
    else
      nc_bV (nc_Call m_X10_next [.inr (.inr (10, ab))] w1) fun w3 =>
      nc_bI (nc_Call m_X9_readAll_5 [.inr (.inr (9, aa)), .inr (.inr (10, ab)), .inr (.inr (2, ac)), .inl xd] w3) fun r5 w4 =>
      if r5 ≠ 0 then
        nc_bV (nc_Call m_X9_put [.inr (.inr (9, aa)), .inl 12, .inl 0, .inl 0] w4) fun w6 =>
        nc_li (xe + 1) fun x7 =>
        nc_Run m_X9_readCond_5 15 [some (.inr (.inr (9, aa))), some (.inr (.inr (10, ab))), some (.inr (.inr (2, ac))), some (.inl xd), some (.inl x7)] [] w6
      else
        some (some (.inl 0), w4) :=
  (nc_Run_un [15] 23).trans rfl
set_option maxRecDepth 100000 in
theorem qc_X9_readOne_4 (aa : Nat) (ab : Nat) (ac : Nat) (xd : Int32) (w : nc_H) : nc_Call m_X9_readOne_4 [.inr (.inr (9, aa)), .inr (.inr (10, ab)), .inr (.inr (2, ac)), .inl xd] w =
  nc_bI (nc_Call m_X10_isSign [.inr (.inr (10, ab)), .inl 40] w) fun r2 w1 =>
  nc_bI (nc_Call m_X10_word [.inr (.inr (10, ab))] w1) fun r4 w3 =>
  if r2 ≠ 0 then
    if (20 : Int32) ≤ (w3.1 9 aa 4) then
      nc_bI (nc_Call m_X10_fail [.inr (.inr (10, ab)), .inl 4] w3) fun r6 w5 =>
      nc_z r6 <| some (some (.inl r6), w5)
    else
      if xd ≤ 8 then
        nc_lt (nc_si w3 9 aa 4 ((w3.1 9 aa 4) + 1)) fun w7 =>
        if r2 = 0 then
          if r4 ≠ 14 then
            nc_bI (nc_Call m_X9_readPlainOne [.inr (.inr (9, aa)), .inr (.inr (10, ab)), .inr (.inr (2, ac)), .inl r4] w7) fun r9 w8 =>
            if r9 ≠ 0 then
              nc_bV (nc_Call m_X10_next [.inr (.inr (10, ab))] w8) fun w10 =>
              some (some (.inl 1), w10)
            else
              some (some (.inl 0), w8)
          else
            nc_bV (nc_Call m_X10_next [.inr (.inr (10, ab))] w7) fun w11 =>
            nc_bI (nc_Call m_X9_readOne_5 [.inr (.inr (9, aa)), .inr (.inr (10, ab)), .inr (.inr (2, ac)), .inl (xd + 1)] w11) fun r13 w12 =>
            if r13 ≠ 0 then
              nc_bV (nc_Call m_X9_put [.inr (.inr (9, aa)), .inl 14, .inl 0, .inl 0] w12) fun w14 =>
              some (some (.inl 1), w14)
            else
              some (some (.inl 0), w12)
        else
          nc_bV (nc_Call m_X10_next [.inr (.inr (10, ab))] w7) fun w15 =>
          nc_bI (nc_Call m_X9_readCond_5 [.inr (.inr (9, aa)), .inr (.inr (10, ab)), .inr (.inr (2, ac)), .inl (xd + 1)] w15) fun r17 w16 =>
          if r17 = 0 then
            some (some (.inl 0), w16)
          else
            nc_bI (nc_Call m_X10_mustBeSign [.inr (.inr (10, ab)), .inl 41] w16) fun r19 w18 =>
            if r19 ≠ 0 then
              nc_bV (nc_Call m_X10_next [.inr (.inr (10, ab))] w18) fun w20 =>
              some (some (.inl 1), w20)
            else
              some (some (.inl 0), w18)
      else
        nc_bI (nc_Call m_X10_fail [.inr (.inr (10, ab)), .inl 4] w3) fun r22 w21 =>
        nc_z r22 <| some (some (.inl r22), w21)
  else
    if (14 : Int32) ≤ r4 then
      if (20 : Int32) ≤ (w3.1 9 aa 4) then
        nc_bI (nc_Call m_X10_fail [.inr (.inr (10, ab)), .inl 4] w3) fun r24 w23 =>
        nc_z r24 <| some (some (.inl r24), w23)
      else
        if xd ≤ 8 then
          nc_lt (nc_si w3 9 aa 4 ((w3.1 9 aa 4) + 1)) fun w25 =>
          if r2 = 0 then
            if r4 ≠ 14 then
              nc_bI (nc_Call m_X9_readPlainOne [.inr (.inr (9, aa)), .inr (.inr (10, ab)), .inr (.inr (2, ac)), .inl r4] w25) fun r27 w26 =>
              if r27 ≠ 0 then
                nc_bV (nc_Call m_X10_next [.inr (.inr (10, ab))] w26) fun w28 =>
                some (some (.inl 1), w28)
              else
                some (some (.inl 0), w26)
            else
              nc_bV (nc_Call m_X10_next [.inr (.inr (10, ab))] w25) fun w29 =>
              nc_bI (nc_Call m_X9_readOne_5 [.inr (.inr (9, aa)), .inr (.inr (10, ab)), .inr (.inr (2, ac)), .inl (xd + 1)] w29) fun r31 w30 =>
              if r31 ≠ 0 then
                nc_bV (nc_Call m_X9_put [.inr (.inr (9, aa)), .inl 14, .inl 0, .inl 0] w30) fun w32 =>
                some (some (.inl 1), w32)
              else
                some (some (.inl 0), w30)
          else
            nc_bV (nc_Call m_X10_next [.inr (.inr (10, ab))] w25) fun w33 =>
            nc_bI (nc_Call m_X9_readCond_5 [.inr (.inr (9, aa)), .inr (.inr (10, ab)), .inr (.inr (2, ac)), .inl (xd + 1)] w33) fun r35 w34 =>
            if r35 = 0 then
              some (some (.inl 0), w34)
            else
              nc_bI (nc_Call m_X10_mustBeSign [.inr (.inr (10, ab)), .inl 41] w34) fun r37 w36 =>
              if r37 ≠ 0 then
                nc_bV (nc_Call m_X10_next [.inr (.inr (10, ab))] w36) fun w38 =>
                some (some (.inl 1), w38)
              else
                some (some (.inl 0), w36)
        else
          nc_bI (nc_Call m_X10_fail [.inr (.inr (10, ab)), .inl 4] w3) fun r40 w39 =>
          nc_z r40 <| some (some (.inl r40), w39)
    else
      nc_bI (nc_Call m_X10_fail [.inr (.inr (10, ab)), .inl 1] w3) fun r42 w41 =>
      nc_z r42 <| some (some (.inl r42), w41) :=
  (nc_Call_eq _ _ _).trans ((if_pos (Nat.le_of_ble_eq_true rfl)).trans ((nc_Run_un [] 47).trans rfl))
set_option maxRecDepth 100000 in
theorem qc_X9_readAll_4 (aa : Nat) (ab : Nat) (ac : Nat) (xd : Int32) (w : nc_H) : nc_Call m_X9_readAll_4 [.inr (.inr (9, aa)), .inr (.inr (10, ab)), .inr (.inr (2, ac)), .inl xd] w =
  nc_bI (nc_Call m_X9_readOne_4 [.inr (.inr (9, aa)), .inr (.inr (10, ab)), .inr (.inr (2, ac)), .inl xd] w) fun r2 w1 =>
  if r2 ≠ 0 then
    nc_Run m_X9_readAll_4 15 [some (.inr (.inr (9, aa))), some (.inr (.inr (10, ab))), some (.inr (.inr (2, ac))), some (.inl xd), some (.inl 0)] [] w1
  else
    some (some (.inl 0), w1) :=
  (nc_Call_eq _ _ _).trans ((if_pos (Nat.le_of_ble_eq_true rfl)).trans ((nc_Run_un [15] 9).trans rfl))
set_option maxRecDepth 100000 in
theorem qr_X9_readAll_4_15 (aa : Nat) (ab : Nat) (ac : Nat) (xd : Int32) (xe : Int32) (w : nc_H) : nc_Run m_X9_readAll_4 15 [some (.inr (.inr (9, aa))), some (.inr (.inr (10, ab))), some (.inr (.inr (2, ac))), some (.inl xd), some (.inl xe)] [] w =
  if (20 : Int32) ≤ xe then
    some (some (.inl 1), w)
  else
    nc_bI (nc_Call m_X10_word [.inr (.inr (10, ab))] w) fun r2 w1 =>
    if r2 ≠ 13 then
      some (some (.inl 1), w1)
    else
      nc_bV (nc_Call m_X10_next [.inr (.inr (10, ab))] w1) fun w3 =>
      nc_bI (nc_Call m_X9_readOne_4 [.inr (.inr (9, aa)), .inr (.inr (10, ab)), .inr (.inr (2, ac)), .inl xd] w3) fun r5 w4 =>
      if r5 ≠ 0 then
        nc_bV (nc_Call m_X9_put [.inr (.inr (9, aa)), .inl 13, .inl 0, .inl 0] w4) fun w6 =>
        nc_li (xe + 1) fun x7 =>
        nc_Run m_X9_readAll_4 15 [some (.inr (.inr (9, aa))), some (.inr (.inr (10, ab))), some (.inr (.inr (2, ac))), some (.inl xd), some (.inl x7)] [] w6
      else
        some (some (.inl 0), w4) :=
  (nc_Run_un [15] 23).trans rfl
set_option maxRecDepth 100000 in
theorem qc_X9_readCond_4 (aa : Nat) (ab : Nat) (ac : Nat) (xd : Int32) (w : nc_H) : nc_Call m_X9_readCond_4 [.inr (.inr (9, aa)), .inr (.inr (10, ab)), .inr (.inr (2, ac)), .inl xd] w =
  nc_bI (nc_Call m_X9_readAll_4 [.inr (.inr (9, aa)), .inr (.inr (10, ab)), .inr (.inr (2, ac)), .inl xd] w) fun r2 w1 =>
  if r2 ≠ 0 then
    nc_Run m_X9_readCond_4 15 [some (.inr (.inr (9, aa))), some (.inr (.inr (10, ab))), some (.inr (.inr (2, ac))), some (.inl xd), some (.inl 0)] [] w1
  else
    some (some (.inl 0), w1) :=
  (nc_Call_eq _ _ _).trans ((if_pos (Nat.le_of_ble_eq_true rfl)).trans ((nc_Run_un [15] 9).trans rfl))
set_option maxRecDepth 100000 in
theorem qr_X9_readCond_4_15 (aa : Nat) (ab : Nat) (ac : Nat) (xd : Int32) (xe : Int32) (w : nc_H) : nc_Run m_X9_readCond_4 15 [some (.inr (.inr (9, aa))), some (.inr (.inr (10, ab))), some (.inr (.inr (2, ac))), some (.inl xd), some (.inl xe)] [] w =
  if (20 : Int32) ≤ xe then
    some (some (.inl 1), w)
  else
    nc_bI (nc_Call m_X10_word [.inr (.inr (10, ab))] w) fun r2 w1 =>
    if r2 ≠ 12 then
      some (some (.inl 1), w1)
    else
      nc_bV (nc_Call m_X10_next [.inr (.inr (10, ab))] w1) fun w3 =>
      nc_bI (nc_Call m_X9_readAll_4 [.inr (.inr (9, aa)), .inr (.inr (10, ab)), .inr (.inr (2, ac)), .inl xd] w3) fun r5 w4 =>
      if r5 ≠ 0 then
        nc_bV (nc_Call m_X9_put [.inr (.inr (9, aa)), .inl 12, .inl 0, .inl 0] w4) fun w6 =>
        nc_li (xe + 1) fun x7 =>
        nc_Run m_X9_readCond_4 15 [some (.inr (.inr (9, aa))), some (.inr (.inr (10, ab))), some (.inr (.inr (2, ac))), some (.inl xd), some (.inl x7)] [] w6
      else
        some (some (.inl 0), w4) :=
  (nc_Run_un [15] 23).trans rfl
set_option maxRecDepth 100000 in
theorem qc_X9_readOne_3 (aa : Nat) (ab : Nat) (ac : Nat) (xd : Int32) (w : nc_H) : nc_Call m_X9_readOne_3 [.inr (.inr (9, aa)), .inr (.inr (10, ab)), .inr (.inr (2, ac)), .inl xd] w =
  nc_bI (nc_Call m_X10_isSign [.inr (.inr (10, ab)), .inl 40] w) fun r2 w1 =>
  nc_bI (nc_Call m_X10_word [.inr (.inr (10, ab))] w1) fun r4 w3 =>
  if r2 ≠ 0 then
    if (20 : Int32) ≤ (w3.1 9 aa 4) then
      nc_bI (nc_Call m_X10_fail [.inr (.inr (10, ab)), .inl 4] w3) fun r6 w5 =>
      nc_z r6 <| some (some (.inl r6), w5)
    else
      if xd ≤ 8 then
        nc_lt (nc_si w3 9 aa 4 ((w3.1 9 aa 4) + 1)) fun w7 =>
        if r2 = 0 then
          if r4 ≠ 14 then
            nc_bI (nc_Call m_X9_readPlainOne [.inr (.inr (9, aa)), .inr (.inr (10, ab)), .inr (.inr (2, ac)), .inl r4] w7) fun r9 w8 =>
            if r9 ≠ 0 then
              nc_bV (nc_Call m_X10_next [.inr (.inr (10, ab))] w8) fun w10 =>
              some (some (.inl 1), w10)
            else
              some (some (.inl 0), w8)
          else
            nc_bV (nc_Call m_X10_next [.inr (.inr (10, ab))] w7) fun w11 =>
            nc_bI (nc_Call m_X9_readOne_4 [.inr (.inr (9, aa)), .inr (.inr (10, ab)), .inr (.inr (2, ac)), .inl (xd + 1)] w11) fun r13 w12 =>
            if r13 ≠ 0 then
              nc_bV (nc_Call m_X9_put [.inr (.inr (9, aa)), .inl 14, .inl 0, .inl 0] w12) fun w14 =>
              some (some (.inl 1), w14)
            else
              some (some (.inl 0), w12)
        else
          nc_bV (nc_Call m_X10_next [.inr (.inr (10, ab))] w7) fun w15 =>
          nc_bI (nc_Call m_X9_readCond_4 [.inr (.inr (9, aa)), .inr (.inr (10, ab)), .inr (.inr (2, ac)), .inl (xd + 1)] w15) fun r17 w16 =>
          if r17 = 0 then
            some (some (.inl 0), w16)
          else
            nc_bI (nc_Call m_X10_mustBeSign [.inr (.inr (10, ab)), .inl 41] w16) fun r19 w18 =>
            if r19 ≠ 0 then
              nc_bV (nc_Call m_X10_next [.inr (.inr (10, ab))] w18) fun w20 =>
              some (some (.inl 1), w20)
            else
              some (some (.inl 0), w18)
      else
        nc_bI (nc_Call m_X10_fail [.inr (.inr (10, ab)), .inl 4] w3) fun r22 w21 =>
        nc_z r22 <| some (some (.inl r22), w21)
  else
    if (14 : Int32) ≤ r4 then
      if (20 : Int32) ≤ (w3.1 9 aa 4) then
        nc_bI (nc_Call m_X10_fail [.inr (.inr (10, ab)), .inl 4] w3) fun r24 w23 =>
        nc_z r24 <| some (some (.inl r24), w23)
      else
        if xd ≤ 8 then
          nc_lt (nc_si w3 9 aa 4 ((w3.1 9 aa 4) + 1)) fun w25 =>
          if r2 = 0 then
            if r4 ≠ 14 then
              nc_bI (nc_Call m_X9_readPlainOne [.inr (.inr (9, aa)), .inr (.inr (10, ab)), .inr (.inr (2, ac)), .inl r4] w25) fun r27 w26 =>
              if r27 ≠ 0 then
                nc_bV (nc_Call m_X10_next [.inr (.inr (10, ab))] w26) fun w28 =>
                some (some (.inl 1), w28)
              else
                some (some (.inl 0), w26)
            else
              nc_bV (nc_Call m_X10_next [.inr (.inr (10, ab))] w25) fun w29 =>
              nc_bI (nc_Call m_X9_readOne_4 [.inr (.inr (9, aa)), .inr (.inr (10, ab)), .inr (.inr (2, ac)), .inl (xd + 1)] w29) fun r31 w30 =>
              if r31 ≠ 0 then
                nc_bV (nc_Call m_X9_put [.inr (.inr (9, aa)), .inl 14, .inl 0, .inl 0] w30) fun w32 =>
                some (some (.inl 1), w32)
              else
                some (some (.inl 0), w30)
          else
            nc_bV (nc_Call m_X10_next [.inr (.inr (10, ab))] w25) fun w33 =>
            nc_bI (nc_Call m_X9_readCond_4 [.inr (.inr (9, aa)), .inr (.inr (10, ab)), .inr (.inr (2, ac)), .inl (xd + 1)] w33) fun r35 w34 =>
            if r35 = 0 then
              some (some (.inl 0), w34)
            else
              nc_bI (nc_Call m_X10_mustBeSign [.inr (.inr (10, ab)), .inl 41] w34) fun r37 w36 =>
              if r37 ≠ 0 then
                nc_bV (nc_Call m_X10_next [.inr (.inr (10, ab))] w36) fun w38 =>
                some (some (.inl 1), w38)
              else
                some (some (.inl 0), w36)
        else
          nc_bI (nc_Call m_X10_fail [.inr (.inr (10, ab)), .inl 4] w3) fun r40 w39 =>
          nc_z r40 <| some (some (.inl r40), w39)
    else
      nc_bI (nc_Call m_X10_fail [.inr (.inr (10, ab)), .inl 1] w3) fun r42 w41 =>
      nc_z r42 <| some (some (.inl r42), w41) :=
  (nc_Call_eq _ _ _).trans ((if_pos (Nat.le_of_ble_eq_true rfl)).trans ((nc_Run_un [] 47).trans rfl))
set_option maxRecDepth 100000 in
theorem qc_X9_readAll_3 (aa : Nat) (ab : Nat) (ac : Nat) (xd : Int32) (w : nc_H) : nc_Call m_X9_readAll_3 [.inr (.inr (9, aa)), .inr (.inr (10, ab)), .inr (.inr (2, ac)), .inl xd] w =
  nc_bI (nc_Call m_X9_readOne_3 [.inr (.inr (9, aa)), .inr (.inr (10, ab)), .inr (.inr (2, ac)), .inl xd] w) fun r2 w1 =>
  if r2 ≠ 0 then
    nc_Run m_X9_readAll_3 15 [some (.inr (.inr (9, aa))), some (.inr (.inr (10, ab))), some (.inr (.inr (2, ac))), some (.inl xd), some (.inl 0)] [] w1
  else
    some (some (.inl 0), w1) :=
  (nc_Call_eq _ _ _).trans ((if_pos (Nat.le_of_ble_eq_true rfl)).trans ((nc_Run_un [15] 9).trans rfl))
set_option maxRecDepth 100000 in
theorem qr_X9_readAll_3_15 (aa : Nat) (ab : Nat) (ac : Nat) (xd : Int32) (xe : Int32) (w : nc_H) : nc_Run m_X9_readAll_3 15 [some (.inr (.inr (9, aa))), some (.inr (.inr (10, ab))), some (.inr (.inr (2, ac))), some (.inl xd), some (.inl xe)] [] w =
  if (20 : Int32) ≤ xe then
    some (some (.inl 1), w)
  else
    nc_bI (nc_Call m_X10_word [.inr (.inr (10, ab))] w) fun r2 w1 =>
    if r2 ≠ 13 then
      some (some (.inl 1), w1)
    else
      nc_bV (nc_Call m_X10_next [.inr (.inr (10, ab))] w1) fun w3 =>
      nc_bI (nc_Call m_X9_readOne_3 [.inr (.inr (9, aa)), .inr (.inr (10, ab)), .inr (.inr (2, ac)), .inl xd] w3) fun r5 w4 =>
      if r5 ≠ 0 then
        nc_bV (nc_Call m_X9_put [.inr (.inr (9, aa)), .inl 13, .inl 0, .inl 0] w4) fun w6 =>
        nc_li (xe + 1) fun x7 =>
        nc_Run m_X9_readAll_3 15 [some (.inr (.inr (9, aa))), some (.inr (.inr (10, ab))), some (.inr (.inr (2, ac))), some (.inl xd), some (.inl x7)] [] w6
      else
        some (some (.inl 0), w4) :=
  (nc_Run_un [15] 23).trans rfl
set_option maxRecDepth 100000 in
theorem qc_X9_readCond_3 (aa : Nat) (ab : Nat) (ac : Nat) (xd : Int32) (w : nc_H) : nc_Call m_X9_readCond_3 [.inr (.inr (9, aa)), .inr (.inr (10, ab)), .inr (.inr (2, ac)), .inl xd] w =
  nc_bI (nc_Call m_X9_readAll_3 [.inr (.inr (9, aa)), .inr (.inr (10, ab)), .inr (.inr (2, ac)), .inl xd] w) fun r2 w1 =>
  if r2 ≠ 0 then
    nc_Run m_X9_readCond_3 15 [some (.inr (.inr (9, aa))), some (.inr (.inr (10, ab))), some (.inr (.inr (2, ac))), some (.inl xd), some (.inl 0)] [] w1
  else
    some (some (.inl 0), w1) :=
  (nc_Call_eq _ _ _).trans ((if_pos (Nat.le_of_ble_eq_true rfl)).trans ((nc_Run_un [15] 9).trans rfl))
set_option maxRecDepth 100000 in
theorem qr_X9_readCond_3_15 (aa : Nat) (ab : Nat) (ac : Nat) (xd : Int32) (xe : Int32) (w : nc_H) : nc_Run m_X9_readCond_3 15 [some (.inr (.inr (9, aa))), some (.inr (.inr (10, ab))), some (.inr (.inr (2, ac))), some (.inl xd), some (.inl xe)] [] w =
  if (20 : Int32) ≤ xe then
    some (some (.inl 1), w)
  else
    nc_bI (nc_Call m_X10_word [.inr (.inr (10, ab))] w) fun r2 w1 =>
    if r2 ≠ 12 then
      some (some (.inl 1), w1)
    else
      nc_bV (nc_Call m_X10_next [.inr (.inr (10, ab))] w1) fun w3 =>
      nc_bI (nc_Call m_X9_readAll_3 [.inr (.inr (9, aa)), .inr (.inr (10, ab)), .inr (.inr (2, ac)), .inl xd] w3) fun r5 w4 =>
      if r5 ≠ 0 then
        nc_bV (nc_Call m_X9_put [.inr (.inr (9, aa)), .inl 12, .inl 0, .inl 0] w4) fun w6 =>
        nc_li (xe + 1) fun x7 =>
        nc_Run m_X9_readCond_3 15 [some (.inr (.inr (9, aa))), some (.inr (.inr (10, ab))), some (.inr (.inr (2, ac))), some (.inl xd), some (.inl x7)] [] w6
      else
        some (some (.inl 0), w4) :=
  (nc_Run_un [15] 23).trans rfl
set_option maxRecDepth 100000 in
theorem qc_X9_readOne_2 (aa : Nat) (ab : Nat) (ac : Nat) (xd : Int32) (w : nc_H) : nc_Call m_X9_readOne_2 [.inr (.inr (9, aa)), .inr (.inr (10, ab)), .inr (.inr (2, ac)), .inl xd] w =
  nc_bI (nc_Call m_X10_isSign [.inr (.inr (10, ab)), .inl 40] w) fun r2 w1 =>
  nc_bI (nc_Call m_X10_word [.inr (.inr (10, ab))] w1) fun r4 w3 =>
  if r2 ≠ 0 then
    if (20 : Int32) ≤ (w3.1 9 aa 4) then
      nc_bI (nc_Call m_X10_fail [.inr (.inr (10, ab)), .inl 4] w3) fun r6 w5 =>
      nc_z r6 <| some (some (.inl r6), w5)
    else
      if xd ≤ 8 then
        nc_lt (nc_si w3 9 aa 4 ((w3.1 9 aa 4) + 1)) fun w7 =>
        if r2 = 0 then
          if r4 ≠ 14 then
            nc_bI (nc_Call m_X9_readPlainOne [.inr (.inr (9, aa)), .inr (.inr (10, ab)), .inr (.inr (2, ac)), .inl r4] w7) fun r9 w8 =>
            if r9 ≠ 0 then
              nc_bV (nc_Call m_X10_next [.inr (.inr (10, ab))] w8) fun w10 =>
              some (some (.inl 1), w10)
            else
              some (some (.inl 0), w8)
          else
            nc_bV (nc_Call m_X10_next [.inr (.inr (10, ab))] w7) fun w11 =>
            nc_bI (nc_Call m_X9_readOne_3 [.inr (.inr (9, aa)), .inr (.inr (10, ab)), .inr (.inr (2, ac)), .inl (xd + 1)] w11) fun r13 w12 =>
            if r13 ≠ 0 then
              nc_bV (nc_Call m_X9_put [.inr (.inr (9, aa)), .inl 14, .inl 0, .inl 0] w12) fun w14 =>
              some (some (.inl 1), w14)
            else
              some (some (.inl 0), w12)
        else
          nc_bV (nc_Call m_X10_next [.inr (.inr (10, ab))] w7) fun w15 =>
          nc_bI (nc_Call m_X9_readCond_3 [.inr (.inr (9, aa)), .inr (.inr (10, ab)), .inr (.inr (2, ac)), .inl (xd + 1)] w15) fun r17 w16 =>
          if r17 = 0 then
            some (some (.inl 0), w16)
          else
            nc_bI (nc_Call m_X10_mustBeSign [.inr (.inr (10, ab)), .inl 41] w16) fun r19 w18 =>
            if r19 ≠ 0 then
              nc_bV (nc_Call m_X10_next [.inr (.inr (10, ab))] w18) fun w20 =>
              some (some (.inl 1), w20)
            else
              some (some (.inl 0), w18)
      else
        nc_bI (nc_Call m_X10_fail [.inr (.inr (10, ab)), .inl 4] w3) fun r22 w21 =>
        nc_z r22 <| some (some (.inl r22), w21)
  else
    if (14 : Int32) ≤ r4 then
      if (20 : Int32) ≤ (w3.1 9 aa 4) then
        nc_bI (nc_Call m_X10_fail [.inr (.inr (10, ab)), .inl 4] w3) fun r24 w23 =>
        nc_z r24 <| some (some (.inl r24), w23)
      else
        if xd ≤ 8 then
          nc_lt (nc_si w3 9 aa 4 ((w3.1 9 aa 4) + 1)) fun w25 =>
          if r2 = 0 then
            if r4 ≠ 14 then
              nc_bI (nc_Call m_X9_readPlainOne [.inr (.inr (9, aa)), .inr (.inr (10, ab)), .inr (.inr (2, ac)), .inl r4] w25) fun r27 w26 =>
              if r27 ≠ 0 then
                nc_bV (nc_Call m_X10_next [.inr (.inr (10, ab))] w26) fun w28 =>
                some (some (.inl 1), w28)
              else
                some (some (.inl 0), w26)
            else
              nc_bV (nc_Call m_X10_next [.inr (.inr (10, ab))] w25) fun w29 =>
              nc_bI (nc_Call m_X9_readOne_3 [.inr (.inr (9, aa)), .inr (.inr (10, ab)), .inr (.inr (2, ac)), .inl (xd + 1)] w29) fun r31 w30 =>
              if r31 ≠ 0 then
                nc_bV (nc_Call m_X9_put [.inr (.inr (9, aa)), .inl 14, .inl 0, .inl 0] w30) fun w32 =>
                some (some (.inl 1), w32)
              else
                some (some (.inl 0), w30)
          else
            nc_bV (nc_Call m_X10_next [.inr (.inr (10, ab))] w25) fun w33 =>
            nc_bI (nc_Call m_X9_readCond_3 [.inr (.inr (9, aa)), .inr (.inr (10, ab)), .inr (.inr (2, ac)), .inl (xd + 1)] w33) fun r35 w34 =>
            if r35 = 0 then
              some (some (.inl 0), w34)
            else
              nc_bI (nc_Call m_X10_mustBeSign [.inr (.inr (10, ab)), .inl 41] w34) fun r37 w36 =>
              if r37 ≠ 0 then
                nc_bV (nc_Call m_X10_next [.inr (.inr (10, ab))] w36) fun w38 =>
                some (some (.inl 1), w38)
              else
                some (some (.inl 0), w36)
        else
          nc_bI (nc_Call m_X10_fail [.inr (.inr (10, ab)), .inl 4] w3) fun r40 w39 =>
          nc_z r40 <| some (some (.inl r40), w39)
    else
      nc_bI (nc_Call m_X10_fail [.inr (.inr (10, ab)), .inl 1] w3) fun r42 w41 =>
      nc_z r42 <| some (some (.inl r42), w41) :=
  (nc_Call_eq _ _ _).trans ((if_pos (Nat.le_of_ble_eq_true rfl)).trans ((nc_Run_un [] 47).trans rfl))
set_option maxRecDepth 100000 in
theorem qc_X9_readAll_2 (aa : Nat) (ab : Nat) (ac : Nat) (xd : Int32) (w : nc_H) : nc_Call m_X9_readAll_2 [.inr (.inr (9, aa)), .inr (.inr (10, ab)), .inr (.inr (2, ac)), .inl xd] w =
  nc_bI (nc_Call m_X9_readOne_2 [.inr (.inr (9, aa)), .inr (.inr (10, ab)), .inr (.inr (2, ac)), .inl xd] w) fun r2 w1 =>
  if r2 ≠ 0 then
    nc_Run m_X9_readAll_2 15 [some (.inr (.inr (9, aa))), some (.inr (.inr (10, ab))), some (.inr (.inr (2, ac))), some (.inl xd), some (.inl 0)] [] w1
  else
    some (some (.inl 0), w1) :=
  (nc_Call_eq _ _ _).trans ((if_pos (Nat.le_of_ble_eq_true rfl)).trans ((nc_Run_un [15] 9).trans rfl))
set_option maxRecDepth 100000 in
theorem qr_X9_readAll_2_15 (aa : Nat) (ab : Nat) (ac : Nat) (xd : Int32) (xe : Int32) (w : nc_H) : nc_Run m_X9_readAll_2 15 [some (.inr (.inr (9, aa))), some (.inr (.inr (10, ab))), some (.inr (.inr (2, ac))), some (.inl xd), some (.inl xe)] [] w =
  if (20 : Int32) ≤ xe then
    some (some (.inl 1), w)
  else
    nc_bI (nc_Call m_X10_word [.inr (.inr (10, ab))] w) fun r2 w1 =>
    if r2 ≠ 13 then
      some (some (.inl 1), w1)
    else
      nc_bV (nc_Call m_X10_next [.inr (.inr (10, ab))] w1) fun w3 =>
      nc_bI (nc_Call m_X9_readOne_2 [.inr (.inr (9, aa)), .inr (.inr (10, ab)), .inr (.inr (2, ac)), .inl xd] w3) fun r5 w4 =>
      if r5 ≠ 0 then
        nc_bV (nc_Call m_X9_put [.inr (.inr (9, aa)), .inl 13, .inl 0, .inl 0] w4) fun w6 =>
        nc_li (xe + 1) fun x7 =>
        nc_Run m_X9_readAll_2 15 [some (.inr (.inr (9, aa))), some (.inr (.inr (10, ab))), some (.inr (.inr (2, ac))), some (.inl xd), some (.inl x7)] [] w6
      else
        some (some (.inl 0), w4) :=
  (nc_Run_un [15] 23).trans rfl
set_option maxRecDepth 100000 in
theorem qc_X9_readCond_2 (aa : Nat) (ab : Nat) (ac : Nat) (xd : Int32) (w : nc_H) : nc_Call m_X9_readCond_2 [.inr (.inr (9, aa)), .inr (.inr (10, ab)), .inr (.inr (2, ac)), .inl xd] w =
  nc_bI (nc_Call m_X9_readAll_2 [.inr (.inr (9, aa)), .inr (.inr (10, ab)), .inr (.inr (2, ac)), .inl xd] w) fun r2 w1 =>
  if r2 ≠ 0 then
    nc_Run m_X9_readCond_2 15 [some (.inr (.inr (9, aa))), some (.inr (.inr (10, ab))), some (.inr (.inr (2, ac))), some (.inl xd), some (.inl 0)] [] w1
  else
    some (some (.inl 0), w1) :=
  (nc_Call_eq _ _ _).trans ((if_pos (Nat.le_of_ble_eq_true rfl)).trans ((nc_Run_un [15] 9).trans rfl))
set_option maxRecDepth 100000 in
theorem qr_X9_readCond_2_15 (aa : Nat) (ab : Nat) (ac : Nat) (xd : Int32) (xe : Int32) (w : nc_H) : nc_Run m_X9_readCond_2 15 [some (.inr (.inr (9, aa))), some (.inr (.inr (10, ab))), some (.inr (.inr (2, ac))), some (.inl xd), some (.inl xe)] [] w =
  if (20 : Int32) ≤ xe then
    some (some (.inl 1), w)
  else
    nc_bI (nc_Call m_X10_word [.inr (.inr (10, ab))] w) fun r2 w1 =>
    if r2 ≠ 12 then
      some (some (.inl 1), w1)
    else
      nc_bV (nc_Call m_X10_next [.inr (.inr (10, ab))] w1) fun w3 =>
      nc_bI (nc_Call m_X9_readAll_2 [.inr (.inr (9, aa)), .inr (.inr (10, ab)), .inr (.inr (2, ac)), .inl xd] w3) fun r5 w4 =>
      if r5 ≠ 0 then
        nc_bV (nc_Call m_X9_put [.inr (.inr (9, aa)), .inl 12, .inl 0, .inl 0] w4) fun w6 =>
        nc_li (xe + 1) fun x7 =>
        nc_Run m_X9_readCond_2 15 [some (.inr (.inr (9, aa))), some (.inr (.inr (10, ab))), some (.inr (.inr (2, ac))), some (.inl xd), some (.inl x7)] [] w6
      else
        some (some (.inl 0), w4) :=
  (nc_Run_un [15] 23).trans rfl
set_option maxRecDepth 100000 in
theorem qc_X9_readOne_1 (aa : Nat) (ab : Nat) (ac : Nat) (xd : Int32) (w : nc_H) : nc_Call m_X9_readOne_1 [.inr (.inr (9, aa)), .inr (.inr (10, ab)), .inr (.inr (2, ac)), .inl xd] w =
  nc_bI (nc_Call m_X10_isSign [.inr (.inr (10, ab)), .inl 40] w) fun r2 w1 =>
  nc_bI (nc_Call m_X10_word [.inr (.inr (10, ab))] w1) fun r4 w3 =>
  if r2 ≠ 0 then
    if (20 : Int32) ≤ (w3.1 9 aa 4) then
      nc_bI (nc_Call m_X10_fail [.inr (.inr (10, ab)), .inl 4] w3) fun r6 w5 =>
      nc_z r6 <| some (some (.inl r6), w5)
    else
      if xd ≤ 8 then
        nc_lt (nc_si w3 9 aa 4 ((w3.1 9 aa 4) + 1)) fun w7 =>
        if r2 = 0 then
          if r4 ≠ 14 then
            nc_bI (nc_Call m_X9_readPlainOne [.inr (.inr (9, aa)), .inr (.inr (10, ab)), .inr (.inr (2, ac)), .inl r4] w7) fun r9 w8 =>
            if r9 ≠ 0 then
              nc_bV (nc_Call m_X10_next [.inr (.inr (10, ab))] w8) fun w10 =>
              some (some (.inl 1), w10)
            else
              some (some (.inl 0), w8)
          else
            nc_bV (nc_Call m_X10_next [.inr (.inr (10, ab))] w7) fun w11 =>
            nc_bI (nc_Call m_X9_readOne_2 [.inr (.inr (9, aa)), .inr (.inr (10, ab)), .inr (.inr (2, ac)), .inl (xd + 1)] w11) fun r13 w12 =>
            if r13 ≠ 0 then
              nc_bV (nc_Call m_X9_put [.inr (.inr (9, aa)), .inl 14, .inl 0, .inl 0] w12) fun w14 =>
              some (some (.inl 1), w14)
            else
              some (some (.inl 0), w12)
        else
          nc_bV (nc_Call m_X10_next [.inr (.inr (10, ab))] w7) fun w15 =>
          nc_bI (nc_Call m_X9_readCond_2 [.inr (.inr (9, aa)), .inr (.inr (10, ab)), .inr (.inr (2, ac)), .inl (xd + 1)] w15) fun r17 w16 =>
          if r17 = 0 then
            some (some (.inl 0), w16)
          else
            nc_bI (nc_Call m_X10_mustBeSign [.inr (.inr (10, ab)), .inl 41] w16) fun r19 w18 =>
            if r19 ≠ 0 then
              nc_bV (nc_Call m_X10_next [.inr (.inr (10, ab))] w18) fun w20 =>
              some (some (.inl 1), w20)
            else
              some (some (.inl 0), w18)
      else
        nc_bI (nc_Call m_X10_fail [.inr (.inr (10, ab)), .inl 4] w3) fun r22 w21 =>
        nc_z r22 <| some (some (.inl r22), w21)
  else
    if (14 : Int32) ≤ r4 then
      if (20 : Int32) ≤ (w3.1 9 aa 4) then
        nc_bI (nc_Call m_X10_fail [.inr (.inr (10, ab)), .inl 4] w3) fun r24 w23 =>
        nc_z r24 <| some (some (.inl r24), w23)
      else
        if xd ≤ 8 then
          nc_lt (nc_si w3 9 aa 4 ((w3.1 9 aa 4) + 1)) fun w25 =>
          if r2 = 0 then
            if r4 ≠ 14 then
              nc_bI (nc_Call m_X9_readPlainOne [.inr (.inr (9, aa)), .inr (.inr (10, ab)), .inr (.inr (2, ac)), .inl r4] w25) fun r27 w26 =>
              if r27 ≠ 0 then
                nc_bV (nc_Call m_X10_next [.inr (.inr (10, ab))] w26) fun w28 =>
                some (some (.inl 1), w28)
              else
                some (some (.inl 0), w26)
            else
              nc_bV (nc_Call m_X10_next [.inr (.inr (10, ab))] w25) fun w29 =>
              nc_bI (nc_Call m_X9_readOne_2 [.inr (.inr (9, aa)), .inr (.inr (10, ab)), .inr (.inr (2, ac)), .inl (xd + 1)] w29) fun r31 w30 =>
              if r31 ≠ 0 then
                nc_bV (nc_Call m_X9_put [.inr (.inr (9, aa)), .inl 14, .inl 0, .inl 0] w30) fun w32 =>
                some (some (.inl 1), w32)
              else
                some (some (.inl 0), w30)
          else
            nc_bV (nc_Call m_X10_next [.inr (.inr (10, ab))] w25) fun w33 =>
            nc_bI (nc_Call m_X9_readCond_2 [.inr (.inr (9, aa)), .inr (.inr (10, ab)), .inr (.inr (2, ac)), .inl (xd + 1)] w33) fun r35 w34 =>
            if r35 = 0 then
              some (some (.inl 0), w34)
            else
              nc_bI (nc_Call m_X10_mustBeSign [.inr (.inr (10, ab)), .inl 41] w34) fun r37 w36 =>
              if r37 ≠ 0 then
                nc_bV (nc_Call m_X10_next [.inr (.inr (10, ab))] w36) fun w38 =>
                some (some (.inl 1), w38)
              else
                some (some (.inl 0), w36)
        else
          nc_bI (nc_Call m_X10_fail [.inr (.inr (10, ab)), .inl 4] w3) fun r40 w39 =>
          nc_z r40 <| some (some (.inl r40), w39)
    else
      nc_bI (nc_Call m_X10_fail [.inr (.inr (10, ab)), .inl 1] w3) fun r42 w41 =>
      nc_z r42 <| some (some (.inl r42), w41) :=
  (nc_Call_eq _ _ _).trans ((if_pos (Nat.le_of_ble_eq_true rfl)).trans ((nc_Run_un [] 47).trans rfl))
set_option maxRecDepth 100000 in
theorem qc_X9_readAll_1 (aa : Nat) (ab : Nat) (ac : Nat) (xd : Int32) (w : nc_H) : nc_Call m_X9_readAll_1 [.inr (.inr (9, aa)), .inr (.inr (10, ab)), .inr (.inr (2, ac)), .inl xd] w =
  nc_bI (nc_Call m_X9_readOne_1 [.inr (.inr (9, aa)), .inr (.inr (10, ab)), .inr (.inr (2, ac)), .inl xd] w) fun r2 w1 =>
  if r2 ≠ 0 then
    nc_Run m_X9_readAll_1 15 [some (.inr (.inr (9, aa))), some (.inr (.inr (10, ab))), some (.inr (.inr (2, ac))), some (.inl xd), some (.inl 0)] [] w1
  else
    some (some (.inl 0), w1) :=
  (nc_Call_eq _ _ _).trans ((if_pos (Nat.le_of_ble_eq_true rfl)).trans ((nc_Run_un [15] 9).trans rfl))
set_option maxRecDepth 100000 in
theorem qr_X9_readAll_1_15 (aa : Nat) (ab : Nat) (ac : Nat) (xd : Int32) (xe : Int32) (w : nc_H) : nc_Run m_X9_readAll_1 15 [some (.inr (.inr (9, aa))), some (.inr (.inr (10, ab))), some (.inr (.inr (2, ac))), some (.inl xd), some (.inl xe)] [] w =
  if (20 : Int32) ≤ xe then
    some (some (.inl 1), w)
  else
    nc_bI (nc_Call m_X10_word [.inr (.inr (10, ab))] w) fun r2 w1 =>
    if r2 ≠ 13 then
      some (some (.inl 1), w1)
    else
      nc_bV (nc_Call m_X10_next [.inr (.inr (10, ab))] w1) fun w3 =>
      nc_bI (nc_Call m_X9_readOne_1 [.inr (.inr (9, aa)), .inr (.inr (10, ab)), .inr (.inr (2, ac)), .inl xd] w3) fun r5 w4 =>
      if r5 ≠ 0 then
        nc_bV (nc_Call m_X9_put [.inr (.inr (9, aa)), .inl 13, .inl 0, .inl 0] w4) fun w6 =>
        nc_li (xe + 1) fun x7 =>
        nc_Run m_X9_readAll_1 15 [some (.inr (.inr (9, aa))), some (.inr (.inr (10, ab))), some (.inr (.inr (2, ac))), some (.inl xd), some (.inl x7)] [] w6
      else
        some (some (.inl 0), w4) :=
  (nc_Run_un [15] 23).trans rfl
set_option maxRecDepth 100000 in
theorem qc_X9_readCond_1 (aa : Nat) (ab : Nat) (ac : Nat) (xd : Int32) (w : nc_H) : nc_Call m_X9_readCond_1 [.inr (.inr (9, aa)), .inr (.inr (10, ab)), .inr (.inr (2, ac)), .inl xd] w =
  nc_bI (nc_Call m_X9_readAll_1 [.inr (.inr (9, aa)), .inr (.inr (10, ab)), .inr (.inr (2, ac)), .inl xd] w) fun r2 w1 =>
  if r2 ≠ 0 then
    nc_Run m_X9_readCond_1 15 [some (.inr (.inr (9, aa))), some (.inr (.inr (10, ab))), some (.inr (.inr (2, ac))), some (.inl xd), some (.inl 0)] [] w1
  else
    some (some (.inl 0), w1) :=
  (nc_Call_eq _ _ _).trans ((if_pos (Nat.le_of_ble_eq_true rfl)).trans ((nc_Run_un [15] 9).trans rfl))
set_option maxRecDepth 100000 in
theorem qr_X9_readCond_1_15 (aa : Nat) (ab : Nat) (ac : Nat) (xd : Int32) (xe : Int32) (w : nc_H) : nc_Run m_X9_readCond_1 15 [some (.inr (.inr (9, aa))), some (.inr (.inr (10, ab))), some (.inr (.inr (2, ac))), some (.inl xd), some (.inl xe)] [] w =
  if (20 : Int32) ≤ xe then
    some (some (.inl 1), w)
  else
    nc_bI (nc_Call m_X10_word [.inr (.inr (10, ab))] w) fun r2 w1 =>
    if r2 ≠ 12 then
      some (some (.inl 1), w1)
    else
      nc_bV (nc_Call m_X10_next [.inr (.inr (10, ab))] w1) fun w3 =>
      nc_bI (nc_Call m_X9_readAll_1 [.inr (.inr (9, aa)), .inr (.inr (10, ab)), .inr (.inr (2, ac)), .inl xd] w3) fun r5 w4 =>
      if r5 ≠ 0 then
        nc_bV (nc_Call m_X9_put [.inr (.inr (9, aa)), .inl 12, .inl 0, .inl 0] w4) fun w6 =>
        nc_li (xe + 1) fun x7 =>
        nc_Run m_X9_readCond_1 15 [some (.inr (.inr (9, aa))), some (.inr (.inr (10, ab))), some (.inr (.inr (2, ac))), some (.inl xd), some (.inl x7)] [] w6
      else
        some (some (.inl 0), w4) :=
  (nc_Run_un [15] 23).trans rfl
set_option maxRecDepth 100000 in
theorem qc_X8_go_2 (aa : Nat) (ab : Nat) (xc : Int32) (xd : Int32) (xe : Int32) (w : nc_H) : nc_Call m_X8_go_2 [.inr (.inr (8, aa)), .inr (.inr (7, ab)), .inl xc, .inl xd, .inl xe] w =
  if xd < 3 then
    if xd ≠ ((w.1 8 aa 5) - 1) then
      if xd ≠ 0 then
        nc_Run m_X8_go_2 46 [some (.inr (.inr (8, aa))), some (.inr (.inr (7, ab))), some (.inl xc), some (.inl xd), some (.inl xe), some (.inr (.inr (7, 11))), some (.inl 0), none, none] [] w
      else
        nc_Run m_X8_go_2 46 [some (.inr (.inr (8, aa))), some (.inr (.inr (7, ab))), some (.inl xc), some (.inl xd), some (.inl xe), some (.inr (.inr (7, 10))), some (.inl 0), none, none] [] w
    else
      nc_bV (nc_Call m_X8_goLast [.inr (.inr (8, aa)), .inr (.inr (7, ab)), .inl xc, .inl xd, .inl xe] w) fun w1 =>
      some (none, w1)
  else
    some (none, w) :=
  (nc_Call_eq _ _ _).trans ((if_pos (Nat.le_of_ble_eq_true rfl)).trans ((nc_Run_un [46, 75] 18).trans rfl))
set_option maxRecDepth 100000 in
theorem qr_X8_go_2_46 (aa : Nat) (ab : Nat) (xc : Int32) (xd : Int32) (xe : Int32) (af : Nat) (xg : Int32) (w : nc_H) : nc_Run m_X8_go_2 46 [some (.inr (.inr (8, aa))), some (.inr (.inr (7, ab))), some (.inl xc), some (.inl xd), some (.inl xe), some (.inr (.inr (7, af))), some (.inl xg), none, none] [] w =
  if (w.1 2 0 3) < xg then
    some (none, w)
  else
    if xg ≠ (w.1 2 0 3) then
      nc_Run m_X8_go_2 75 [some (.inr (.inr (8, aa))), some (.inr (.inr (7, ab))), some (.inl xc), some (.inl xd), some (.inl xe), some (.inr (.inr (7, af))), some (.inl xg), none, none] [.inl 0] w
    else
      nc_Run m_X8_go_2 75 [some (.inr (.inr (8, aa))), some (.inr (.inr (7, ab))), some (.inl xc), some (.inl xd), some (.inl xe), some (.inr (.inr (7, af))), some (.inl xg), none, none] [.inl 1] w :=
  (nc_Run_un [46, 75] 13).trans rfl
set_option maxRecDepth 100000 in
theorem qr_X8_go_2_75 (aa : Nat) (ab : Nat) (xc : Int32) (xd : Int32) (xe : Int32) (af : Nat) (xg : Int32) (za : Int32) (w : nc_H) : nc_Run m_X8_go_2 75 [some (.inr (.inr (8, aa))), some (.inr (.inr (7, ab))), some (.inl xc), some (.inl xd), some (.inl xe), some (.inr (.inr (7, af))), some (.inl xg), none, none] [.inl za] w =
  if za ≠ 0 then
    if za = 0 then
      nc_bd xd 3 fun j1 =>
      nc_lt (nc_si w 615 aa j1 xg) fun w2 =>
      nc_bV (nc_Call m_X7_copyFrom [.inr (.inr (7, af)), .inr (.inr (7, ab))] w2) fun w3 =>
      if za ≠ 0 then
        nc_bI (nc_Call m_X7_milk [.inr (.inr (7, af)), .inl xc] w3) fun r5 w4 =>
        nc_bV (nc_Call m_X7_talk [.inr (.inr (7, af))] w4) fun w6 =>
        nc_bV (nc_Call m_X7_turn [.inr (.inr (7, af))] w6) fun w7 =>
        none
      else
        nc_bV (nc_Call m_X7_hear [.inr (.inr (7, af)), .inl xc, .inl xg] w3) fun w8 =>
        nc_bI (nc_Call m_X7_milk [.inr (.inr (7, af)), .inl xc] w8) fun r10 w9 =>
        nc_bV (nc_Call m_X7_talk [.inr (.inr (7, af))] w9) fun w11 =>
        nc_bV (nc_Call m_X7_turn [.inr (.inr (7, af))] w11) fun w12 =>
        none
    else
      nc_bd xd 3 fun j13 =>
      nc_lt (nc_si w 615 aa j13 (-1)) fun w14 =>
      nc_bV (nc_Call m_X7_copyFrom [.inr (.inr (7, af)), .inr (.inr (7, ab))] w14) fun w15 =>
      if za ≠ 0 then
        nc_bI (nc_Call m_X7_milk [.inr (.inr (7, af)), .inl xc] w15) fun r17 w16 =>
        nc_bV (nc_Call m_X7_talk [.inr (.inr (7, af))] w16) fun w18 =>
        nc_bV (nc_Call m_X7_turn [.inr (.inr (7, af))] w18) fun w19 =>
        none
      else
        nc_bV (nc_Call m_X7_hear [.inr (.inr (7, af)), .inl xc, .inl xg] w15) fun w20 =>
        nc_bI (nc_Call m_X7_milk [.inr (.inr (7, af)), .inl xc] w20) fun r22 w21 =>
        nc_bV (nc_Call m_X7_talk [.inr (.inr (7, af))] w21) fun w23 =>
        nc_bV (nc_Call m_X7_turn [.inr (.inr (7, af))] w23) fun w24 =>
        none
  else
    nc_bI (nc_Call m_X7_whyNotTold [.inr (.inr (7, ab)), .inl xc, .inl xg] w) fun r26 w25 =>
    if r26 ≠ 0 then
      nc_li (xg + 1) fun x27 =>
      nc_Run m_X8_go_2 46 [some (.inr (.inr (8, aa))), some (.inr (.inr (7, ab))), some (.inl xc), some (.inl xd), some (.inl xe), some (.inr (.inr (7, af))), some (.inl x27), none, none] [] w25
    else
      if za = 0 then
        nc_bd xd 3 fun j28 =>
        nc_lt (nc_si w25 615 aa j28 xg) fun w29 =>
        nc_bV (nc_Call m_X7_copyFrom [.inr (.inr (7, af)), .inr (.inr (7, ab))] w29) fun w30 =>
        if za ≠ 0 then
          nc_bI (nc_Call m_X7_milk [.inr (.inr (7, af)), .inl xc] w30) fun r32 w31 =>
          nc_bV (nc_Call m_X7_talk [.inr (.inr (7, af))] w31) fun w33 =>
          nc_bV (nc_Call m_X7_turn [.inr (.inr (7, af))] w33) fun w34 =>
          none
        else
          nc_bV (nc_Call m_X7_hear [.inr (.inr (7, af)), .inl xc, .inl xg] w30) fun w35 =>
          nc_bI (nc_Call m_X7_milk [.inr (.inr (7, af)), .inl xc] w35) fun r37 w36 =>
          nc_bV (nc_Call m_X7_talk [.inr (.inr (7, af))] w36) fun w38 =>
          nc_bV (nc_Call m_X7_turn [.inr (.inr (7, af))] w38) fun w39 =>
          none
      else
        nc_bd xd 3 fun j40 =>
        nc_lt (nc_si w25 615 aa j40 (-1)) fun w41 =>
        nc_bV (nc_Call m_X7_copyFrom [.inr (.inr (7, af)), .inr (.inr (7, ab))] w41) fun w42 =>
        if za ≠ 0 then
          nc_bI (nc_Call m_X7_milk [.inr (.inr (7, af)), .inl xc] w42) fun r44 w43 =>
          nc_bV (nc_Call m_X7_talk [.inr (.inr (7, af))] w43) fun w45 =>
          nc_bV (nc_Call m_X7_turn [.inr (.inr (7, af))] w45) fun w46 =>
          none
        else
          nc_bV (nc_Call m_X7_hear [.inr (.inr (7, af)), .inl xc, .inl xg] w42) fun w47 =>
          nc_bI (nc_Call m_X7_milk [.inr (.inr (7, af)), .inl xc] w47) fun r49 w48 =>
          nc_bV (nc_Call m_X7_talk [.inr (.inr (7, af))] w48) fun w50 =>
          nc_bV (nc_Call m_X7_turn [.inr (.inr (7, af))] w50) fun w51 =>
          none :=
  (nc_Run_un [46, 75] 43).trans rfl
set_option maxRecDepth 100000 in
theorem qc_X8_go_1 (aa : Nat) (ab : Nat) (xc : Int32) (xd : Int32) (xe : Int32) (w : nc_H) : nc_Call m_X8_go_1 [.inr (.inr (8, aa)), .inr (.inr (7, ab)), .inl xc, .inl xd, .inl xe] w =
  if xd < 3 then
    if xd ≠ ((w.1 8 aa 5) - 1) then
      if xd ≠ 0 then
        nc_Run m_X8_go_1 46 [some (.inr (.inr (8, aa))), some (.inr (.inr (7, ab))), some (.inl xc), some (.inl xd), some (.inl xe), some (.inr (.inr (7, 11))), some (.inl 0), none, none] [] w
      else
        nc_Run m_X8_go_1 46 [some (.inr (.inr (8, aa))), some (.inr (.inr (7, ab))), some (.inl xc), some (.inl xd), some (.inl xe), some (.inr (.inr (7, 10))), some (.inl 0), none, none] [] w
    else
      nc_bV (nc_Call m_X8_goLast [.inr (.inr (8, aa)), .inr (.inr (7, ab)), .inl xc, .inl xd, .inl xe] w) fun w1 =>
      some (none, w1)
  else
    some (none, w) :=
  (nc_Call_eq _ _ _).trans ((if_pos (Nat.le_of_ble_eq_true rfl)).trans ((nc_Run_un [46, 75] 18).trans rfl))
set_option maxRecDepth 100000 in
theorem qr_X8_go_1_46 (aa : Nat) (ab : Nat) (xc : Int32) (xd : Int32) (xe : Int32) (af : Nat) (xg : Int32) (w : nc_H) : nc_Run m_X8_go_1 46 [some (.inr (.inr (8, aa))), some (.inr (.inr (7, ab))), some (.inl xc), some (.inl xd), some (.inl xe), some (.inr (.inr (7, af))), some (.inl xg), none, none] [] w =
  if (w.1 2 0 3) < xg then
    some (none, w)
  else
    if xg ≠ (w.1 2 0 3) then
      nc_Run m_X8_go_1 75 [some (.inr (.inr (8, aa))), some (.inr (.inr (7, ab))), some (.inl xc), some (.inl xd), some (.inl xe), some (.inr (.inr (7, af))), some (.inl xg), none, none] [.inl 0] w
    else
      nc_Run m_X8_go_1 75 [some (.inr (.inr (8, aa))), some (.inr (.inr (7, ab))), some (.inl xc), some (.inl xd), some (.inl xe), some (.inr (.inr (7, af))), some (.inl xg), none, none] [.inl 1] w :=
  (nc_Run_un [46, 75] 13).trans rfl
set_option maxRecDepth 100000 in
theorem qr_X8_go_1_75 (aa : Nat) (ab : Nat) (xc : Int32) (xd : Int32) (xe : Int32) (af : Nat) (xg : Int32) (za : Int32) (w : nc_H) : nc_Run m_X8_go_1 75 [some (.inr (.inr (8, aa))), some (.inr (.inr (7, ab))), some (.inl xc), some (.inl xd), some (.inl xe), some (.inr (.inr (7, af))), some (.inl xg), none, none] [.inl za] w =
  if za ≠ 0 then
    if za = 0 then
      nc_bd xd 3 fun j1 =>
      nc_lt (nc_si w 615 aa j1 xg) fun w2 =>
      nc_bV (nc_Call m_X7_copyFrom [.inr (.inr (7, af)), .inr (.inr (7, ab))] w2) fun w3 =>
      if za ≠ 0 then
        nc_bI (nc_Call m_X7_milk [.inr (.inr (7, af)), .inl xc] w3) fun r5 w4 =>
        nc_bV (nc_Call m_X7_talk [.inr (.inr (7, af))] w4) fun w6 =>
        nc_bV (nc_Call m_X7_turn [.inr (.inr (7, af))] w6) fun w7 =>
        nc_bV (nc_Call m_X8_go_2 [.inr (.inr (8, aa)), .inr (.inr (7, af)), .inl xc, .inl (xd + 1), .inl (xe + r5)] w7) fun w8 =>
        nc_li (xg + 1) fun x9 =>
        nc_Run m_X8_go_1 46 [some (.inr (.inr (8, aa))), some (.inr (.inr (7, ab))), some (.inl xc), some (.inl xd), some (.inl xe), some (.inr (.inr (7, af))), some (.inl x9), none, none] [] w8
      else
        nc_bV (nc_Call m_X7_hear [.inr (.inr (7, af)), .inl xc, .inl xg] w3) fun w10 =>
        nc_bI (nc_Call m_X7_milk [.inr (.inr (7, af)), .inl xc] w10) fun r12 w11 =>
        nc_bV (nc_Call m_X7_talk [.inr (.inr (7, af))] w11) fun w13 =>
        nc_bV (nc_Call m_X7_turn [.inr (.inr (7, af))] w13) fun w14 =>
        nc_bV (nc_Call m_X8_go_2 [.inr (.inr (8, aa)), .inr (.inr (7, af)), .inl xc, .inl (xd + 1), .inl (xe + r12)] w14) fun w15 =>
        nc_li (xg + 1) fun x16 =>
        nc_Run m_X8_go_1 46 [some (.inr (.inr (8, aa))), some (.inr (.inr (7, ab))), some (.inl xc), some (.inl xd), some (.inl xe), some (.inr (.inr (7, af))), some (.inl x16), none, none] [] w15
    else
      nc_bd xd 3 fun j17 =>
      nc_lt (nc_si w 615 aa j17 (-1)) fun w18 =>
      nc_bV (nc_Call m_X7_copyFrom [.inr (.inr (7, af)), .inr (.inr (7, ab))] w18) fun w19 =>
      if za ≠ 0 then
        nc_bI (nc_Call m_X7_milk [.inr (.inr (7, af)), .inl xc] w19) fun r21 w20 =>
        nc_bV (nc_Call m_X7_talk [.inr (.inr (7, af))] w20) fun w22 =>
        nc_bV (nc_Call m_X7_turn [.inr (.inr (7, af))] w22) fun w23 =>
        nc_bV (nc_Call m_X8_go_2 [.inr (.inr (8, aa)), .inr (.inr (7, af)), .inl xc, .inl (xd + 1), .inl (xe + r21)] w23) fun w24 =>
        nc_li (xg + 1) fun x25 =>
        nc_Run m_X8_go_1 46 [some (.inr (.inr (8, aa))), some (.inr (.inr (7, ab))), some (.inl xc), some (.inl xd), some (.inl xe), some (.inr (.inr (7, af))), some (.inl x25), none, none] [] w24
      else
        nc_bV (nc_Call m_X7_hear [.inr (.inr (7, af)), .inl xc, .inl xg] w19) fun w26 =>
        nc_bI (nc_Call m_X7_milk [.inr (.inr (7, af)), .inl xc] w26) fun r28 w27 =>
        nc_bV (nc_Call m_X7_talk [.inr (.inr (7, af))] w27) fun w29 =>
        nc_bV (nc_Call m_X7_turn [.inr (.inr (7, af))] w29) fun w30 =>
        nc_bV (nc_Call m_X8_go_2 [.inr (.inr (8, aa)), .inr (.inr (7, af)), .inl xc, .inl (xd + 1), .inl (xe + r28)] w30) fun w31 =>
        nc_li (xg + 1) fun x32 =>
        nc_Run m_X8_go_1 46 [some (.inr (.inr (8, aa))), some (.inr (.inr (7, ab))), some (.inl xc), some (.inl xd), some (.inl xe), some (.inr (.inr (7, af))), some (.inl x32), none, none] [] w31
  else
    nc_bI (nc_Call m_X7_whyNotTold [.inr (.inr (7, ab)), .inl xc, .inl xg] w) fun r34 w33 =>
    if r34 ≠ 0 then
      nc_li (xg + 1) fun x35 =>
      nc_Run m_X8_go_1 46 [some (.inr (.inr (8, aa))), some (.inr (.inr (7, ab))), some (.inl xc), some (.inl xd), some (.inl xe), some (.inr (.inr (7, af))), some (.inl x35), none, none] [] w33
    else
      if za = 0 then
        nc_bd xd 3 fun j36 =>
        nc_lt (nc_si w33 615 aa j36 xg) fun w37 =>
        nc_bV (nc_Call m_X7_copyFrom [.inr (.inr (7, af)), .inr (.inr (7, ab))] w37) fun w38 =>
        if za ≠ 0 then
          nc_bI (nc_Call m_X7_milk [.inr (.inr (7, af)), .inl xc] w38) fun r40 w39 =>
          nc_bV (nc_Call m_X7_talk [.inr (.inr (7, af))] w39) fun w41 =>
          nc_bV (nc_Call m_X7_turn [.inr (.inr (7, af))] w41) fun w42 =>
          nc_bV (nc_Call m_X8_go_2 [.inr (.inr (8, aa)), .inr (.inr (7, af)), .inl xc, .inl (xd + 1), .inl (xe + r40)] w42) fun w43 =>
          nc_li (xg + 1) fun x44 =>
          nc_Run m_X8_go_1 46 [some (.inr (.inr (8, aa))), some (.inr (.inr (7, ab))), some (.inl xc), some (.inl xd), some (.inl xe), some (.inr (.inr (7, af))), some (.inl x44), none, none] [] w43
        else
          nc_bV (nc_Call m_X7_hear [.inr (.inr (7, af)), .inl xc, .inl xg] w38) fun w45 =>
          nc_bI (nc_Call m_X7_milk [.inr (.inr (7, af)), .inl xc] w45) fun r47 w46 =>
          nc_bV (nc_Call m_X7_talk [.inr (.inr (7, af))] w46) fun w48 =>
          nc_bV (nc_Call m_X7_turn [.inr (.inr (7, af))] w48) fun w49 =>
          nc_bV (nc_Call m_X8_go_2 [.inr (.inr (8, aa)), .inr (.inr (7, af)), .inl xc, .inl (xd + 1), .inl (xe + r47)] w49) fun w50 =>
          nc_li (xg + 1) fun x51 =>
          nc_Run m_X8_go_1 46 [some (.inr (.inr (8, aa))), some (.inr (.inr (7, ab))), some (.inl xc), some (.inl xd), some (.inl xe), some (.inr (.inr (7, af))), some (.inl x51), none, none] [] w50
      else
        nc_bd xd 3 fun j52 =>
        nc_lt (nc_si w33 615 aa j52 (-1)) fun w53 =>
        nc_bV (nc_Call m_X7_copyFrom [.inr (.inr (7, af)), .inr (.inr (7, ab))] w53) fun w54 =>
        if za ≠ 0 then
          nc_bI (nc_Call m_X7_milk [.inr (.inr (7, af)), .inl xc] w54) fun r56 w55 =>
          nc_bV (nc_Call m_X7_talk [.inr (.inr (7, af))] w55) fun w57 =>
          nc_bV (nc_Call m_X7_turn [.inr (.inr (7, af))] w57) fun w58 =>
          nc_bV (nc_Call m_X8_go_2 [.inr (.inr (8, aa)), .inr (.inr (7, af)), .inl xc, .inl (xd + 1), .inl (xe + r56)] w58) fun w59 =>
          nc_li (xg + 1) fun x60 =>
          nc_Run m_X8_go_1 46 [some (.inr (.inr (8, aa))), some (.inr (.inr (7, ab))), some (.inl xc), some (.inl xd), some (.inl xe), some (.inr (.inr (7, af))), some (.inl x60), none, none] [] w59
        else
          nc_bV (nc_Call m_X7_hear [.inr (.inr (7, af)), .inl xc, .inl xg] w54) fun w61 =>
          nc_bI (nc_Call m_X7_milk [.inr (.inr (7, af)), .inl xc] w61) fun r63 w62 =>
          nc_bV (nc_Call m_X7_talk [.inr (.inr (7, af))] w62) fun w64 =>
          nc_bV (nc_Call m_X7_turn [.inr (.inr (7, af))] w64) fun w65 =>
          nc_bV (nc_Call m_X8_go_2 [.inr (.inr (8, aa)), .inr (.inr (7, af)), .inl xc, .inl (xd + 1), .inl (xe + r63)] w65) fun w66 =>
          nc_li (xg + 1) fun x67 =>
          nc_Run m_X8_go_1 46 [some (.inr (.inr (8, aa))), some (.inr (.inr (7, ab))), some (.inl xc), some (.inl xd), some (.inl xe), some (.inr (.inr (7, af))), some (.inl x67), none, none] [] w66 :=
  (nc_Run_un [46, 75] 46).trans rfl
set_option maxRecDepth 100000 in
theorem qc_X8_go_0 (aa : Nat) (ab : Nat) (xc : Int32) (xd : Int32) (xe : Int32) (w : nc_H) : nc_Call m_X8_go_0 [.inr (.inr (8, aa)), .inr (.inr (7, ab)), .inl xc, .inl xd, .inl xe] w =
  if xd < 3 then
    if xd ≠ ((w.1 8 aa 5) - 1) then
      if xd ≠ 0 then
        nc_Run m_X8_go_0 46 [some (.inr (.inr (8, aa))), some (.inr (.inr (7, ab))), some (.inl xc), some (.inl xd), some (.inl xe), some (.inr (.inr (7, 11))), some (.inl 0), none, none] [] w
      else
        nc_Run m_X8_go_0 46 [some (.inr (.inr (8, aa))), some (.inr (.inr (7, ab))), some (.inl xc), some (.inl xd), some (.inl xe), some (.inr (.inr (7, 10))), some (.inl 0), none, none] [] w
    else
      nc_bV (nc_Call m_X8_goLast [.inr (.inr (8, aa)), .inr (.inr (7, ab)), .inl xc, .inl xd, .inl xe] w) fun w1 =>
      some (none, w1)
  else
    some (none, w) :=
  (nc_Call_eq _ _ _).trans ((if_pos (Nat.le_of_ble_eq_true rfl)).trans ((nc_Run_un [46, 75] 18).trans rfl))
set_option maxRecDepth 100000 in
theorem qr_X8_go_0_46 (aa : Nat) (ab : Nat) (xc : Int32) (xd : Int32) (xe : Int32) (af : Nat) (xg : Int32) (w : nc_H) : nc_Run m_X8_go_0 46 [some (.inr (.inr (8, aa))), some (.inr (.inr (7, ab))), some (.inl xc), some (.inl xd), some (.inl xe), some (.inr (.inr (7, af))), some (.inl xg), none, none] [] w =
  if (w.1 2 0 3) < xg then
    some (none, w)
  else
    if xg ≠ (w.1 2 0 3) then
      nc_Run m_X8_go_0 75 [some (.inr (.inr (8, aa))), some (.inr (.inr (7, ab))), some (.inl xc), some (.inl xd), some (.inl xe), some (.inr (.inr (7, af))), some (.inl xg), none, none] [.inl 0] w
    else
      nc_Run m_X8_go_0 75 [some (.inr (.inr (8, aa))), some (.inr (.inr (7, ab))), some (.inl xc), some (.inl xd), some (.inl xe), some (.inr (.inr (7, af))), some (.inl xg), none, none] [.inl 1] w :=
  (nc_Run_un [46, 75] 13).trans rfl
set_option maxRecDepth 100000 in
theorem qr_X8_go_0_75 (aa : Nat) (ab : Nat) (xc : Int32) (xd : Int32) (xe : Int32) (af : Nat) (xg : Int32) (za : Int32) (w : nc_H) : nc_Run m_X8_go_0 75 [some (.inr (.inr (8, aa))), some (.inr (.inr (7, ab))), some (.inl xc), some (.inl xd), some (.inl xe), some (.inr (.inr (7, af))), some (.inl xg), none, none] [.inl za] w =
  if za ≠ 0 then
    if za = 0 then
      nc_bd xd 3 fun j1 =>
      nc_lt (nc_si w 615 aa j1 xg) fun w2 =>
      nc_bV (nc_Call m_X7_copyFrom [.inr (.inr (7, af)), .inr (.inr (7, ab))] w2) fun w3 =>
      if za ≠ 0 then
        nc_bI (nc_Call m_X7_milk [.inr (.inr (7, af)), .inl xc] w3) fun r5 w4 =>
        nc_bV (nc_Call m_X7_talk [.inr (.inr (7, af))] w4) fun w6 =>
        nc_bV (nc_Call m_X7_turn [.inr (.inr (7, af))] w6) fun w7 =>
        nc_bV (nc_Call m_X8_go_1 [.inr (.inr (8, aa)), .inr (.inr (7, af)), .inl xc, .inl (xd + 1), .inl (xe + r5)] w7) fun w8 =>
        nc_li (xg + 1) fun x9 =>
        nc_Run m_X8_go_0 46 [some (.inr (.inr (8, aa))), some (.inr (.inr (7, ab))), some (.inl xc), some (.inl xd), some (.inl xe), some (.inr (.inr (7, af))), some (.inl x9), none, none] [] w8
      else
        nc_bV (nc_Call m_X7_hear [.inr (.inr (7, af)), .inl xc, .inl xg] w3) fun w10 =>
        nc_bI (nc_Call m_X7_milk [.inr (.inr (7, af)), .inl xc] w10) fun r12 w11 =>
        nc_bV (nc_Call m_X7_talk [.inr (.inr (7, af))] w11) fun w13 =>
        nc_bV (nc_Call m_X7_turn [.inr (.inr (7, af))] w13) fun w14 =>
        nc_bV (nc_Call m_X8_go_1 [.inr (.inr (8, aa)), .inr (.inr (7, af)), .inl xc, .inl (xd + 1), .inl (xe + r12)] w14) fun w15 =>
        nc_li (xg + 1) fun x16 =>
        nc_Run m_X8_go_0 46 [some (.inr (.inr (8, aa))), some (.inr (.inr (7, ab))), some (.inl xc), some (.inl xd), some (.inl xe), some (.inr (.inr (7, af))), some (.inl x16), none, none] [] w15
    else
      nc_bd xd 3 fun j17 =>
      nc_lt (nc_si w 615 aa j17 (-1)) fun w18 =>
      nc_bV (nc_Call m_X7_copyFrom [.inr (.inr (7, af)), .inr (.inr (7, ab))] w18) fun w19 =>
      if za ≠ 0 then
        nc_bI (nc_Call m_X7_milk [.inr (.inr (7, af)), .inl xc] w19) fun r21 w20 =>
        nc_bV (nc_Call m_X7_talk [.inr (.inr (7, af))] w20) fun w22 =>
        nc_bV (nc_Call m_X7_turn [.inr (.inr (7, af))] w22) fun w23 =>
        nc_bV (nc_Call m_X8_go_1 [.inr (.inr (8, aa)), .inr (.inr (7, af)), .inl xc, .inl (xd + 1), .inl (xe + r21)] w23) fun w24 =>
        nc_li (xg + 1) fun x25 =>
        nc_Run m_X8_go_0 46 [some (.inr (.inr (8, aa))), some (.inr (.inr (7, ab))), some (.inl xc), some (.inl xd), some (.inl xe), some (.inr (.inr (7, af))), some (.inl x25), none, none] [] w24
      else
        nc_bV (nc_Call m_X7_hear [.inr (.inr (7, af)), .inl xc, .inl xg] w19) fun w26 =>
        nc_bI (nc_Call m_X7_milk [.inr (.inr (7, af)), .inl xc] w26) fun r28 w27 =>
        nc_bV (nc_Call m_X7_talk [.inr (.inr (7, af))] w27) fun w29 =>
        nc_bV (nc_Call m_X7_turn [.inr (.inr (7, af))] w29) fun w30 =>
        nc_bV (nc_Call m_X8_go_1 [.inr (.inr (8, aa)), .inr (.inr (7, af)), .inl xc, .inl (xd + 1), .inl (xe + r28)] w30) fun w31 =>
        nc_li (xg + 1) fun x32 =>
        nc_Run m_X8_go_0 46 [some (.inr (.inr (8, aa))), some (.inr (.inr (7, ab))), some (.inl xc), some (.inl xd), some (.inl xe), some (.inr (.inr (7, af))), some (.inl x32), none, none] [] w31
  else
    nc_bI (nc_Call m_X7_whyNotTold [.inr (.inr (7, ab)), .inl xc, .inl xg] w) fun r34 w33 =>
    if r34 ≠ 0 then
      nc_li (xg + 1) fun x35 =>
      nc_Run m_X8_go_0 46 [some (.inr (.inr (8, aa))), some (.inr (.inr (7, ab))), some (.inl xc), some (.inl xd), some (.inl xe), some (.inr (.inr (7, af))), some (.inl x35), none, none] [] w33
    else
      if za = 0 then
        nc_bd xd 3 fun j36 =>
        nc_lt (nc_si w33 615 aa j36 xg) fun w37 =>
        nc_bV (nc_Call m_X7_copyFrom [.inr (.inr (7, af)), .inr (.inr (7, ab))] w37) fun w38 =>
        if za ≠ 0 then
          nc_bI (nc_Call m_X7_milk [.inr (.inr (7, af)), .inl xc] w38) fun r40 w39 =>
          nc_bV (nc_Call m_X7_talk [.inr (.inr (7, af))] w39) fun w41 =>
          nc_bV (nc_Call m_X7_turn [.inr (.inr (7, af))] w41) fun w42 =>
          nc_bV (nc_Call m_X8_go_1 [.inr (.inr (8, aa)), .inr (.inr (7, af)), .inl xc, .inl (xd + 1), .inl (xe + r40)] w42) fun w43 =>
          nc_li (xg + 1) fun x44 =>
          nc_Run m_X8_go_0 46 [some (.inr (.inr (8, aa))), some (.inr (.inr (7, ab))), some (.inl xc), some (.inl xd), some (.inl xe), some (.inr (.inr (7, af))), some (.inl x44), none, none] [] w43
        else
          nc_bV (nc_Call m_X7_hear [.inr (.inr (7, af)), .inl xc, .inl xg] w38) fun w45 =>
          nc_bI (nc_Call m_X7_milk [.inr (.inr (7, af)), .inl xc] w45) fun r47 w46 =>
          nc_bV (nc_Call m_X7_talk [.inr (.inr (7, af))] w46) fun w48 =>
          nc_bV (nc_Call m_X7_turn [.inr (.inr (7, af))] w48) fun w49 =>
          nc_bV (nc_Call m_X8_go_1 [.inr (.inr (8, aa)), .inr (.inr (7, af)), .inl xc, .inl (xd + 1), .inl (xe + r47)] w49) fun w50 =>
          nc_li (xg + 1) fun x51 =>
          nc_Run m_X8_go_0 46 [some (.inr (.inr (8, aa))), some (.inr (.inr (7, ab))), some (.inl xc), some (.inl xd), some (.inl xe), some (.inr (.inr (7, af))), some (.inl x51), none, none] [] w50
      else
        nc_bd xd 3 fun j52 =>
        nc_lt (nc_si w33 615 aa j52 (-1)) fun w53 =>
        nc_bV (nc_Call m_X7_copyFrom [.inr (.inr (7, af)), .inr (.inr (7, ab))] w53) fun w54 =>
        if za ≠ 0 then
          nc_bI (nc_Call m_X7_milk [.inr (.inr (7, af)), .inl xc] w54) fun r56 w55 =>
          nc_bV (nc_Call m_X7_talk [.inr (.inr (7, af))] w55) fun w57 =>
          nc_bV (nc_Call m_X7_turn [.inr (.inr (7, af))] w57) fun w58 =>
          nc_bV (nc_Call m_X8_go_1 [.inr (.inr (8, aa)), .inr (.inr (7, af)), .inl xc, .inl (xd + 1), .inl (xe + r56)] w58) fun w59 =>
          nc_li (xg + 1) fun x60 =>
          nc_Run m_X8_go_0 46 [some (.inr (.inr (8, aa))), some (.inr (.inr (7, ab))), some (.inl xc), some (.inl xd), some (.inl xe), some (.inr (.inr (7, af))), some (.inl x60), none, none] [] w59
        else
          nc_bV (nc_Call m_X7_hear [.inr (.inr (7, af)), .inl xc, .inl xg] w54) fun w61 =>
          nc_bI (nc_Call m_X7_milk [.inr (.inr (7, af)), .inl xc] w61) fun r63 w62 =>
          nc_bV (nc_Call m_X7_talk [.inr (.inr (7, af))] w62) fun w64 =>
          nc_bV (nc_Call m_X7_turn [.inr (.inr (7, af))] w64) fun w65 =>
          nc_bV (nc_Call m_X8_go_1 [.inr (.inr (8, aa)), .inr (.inr (7, af)), .inl xc, .inl (xd + 1), .inl (xe + r63)] w65) fun w66 =>
          nc_li (xg + 1) fun x67 =>
          nc_Run m_X8_go_0 46 [some (.inr (.inr (8, aa))), some (.inr (.inr (7, ab))), some (.inl xc), some (.inl xd), some (.inl xe), some (.inr (.inr (7, af))), some (.inl x67), none, none] [] w66 :=
  (nc_Run_un [46, 75] 46).trans rfl
set_option maxRecDepth 100000 in
theorem qc_X10_addRun (aa : Nat) (xb : Int32) (w : nc_H) : nc_Call m_X10_addRun [.inr (.inr (10, aa)), .inl xb] w =
  nc_Run m_X10_addRun 13 [some (.inr (.inr (10, aa))), some (.inl xb), some (.inl 0), some (.inl 0), some (.inl 0), some (.inr (.inl 0)), none, some (.inl xb)] [] w :=
  (nc_Call_eq _ _ _).trans ((if_pos (Nat.le_of_ble_eq_true rfl)).trans ((nc_Run_un [13] 11).trans rfl))
set_option maxRecDepth 100000 in
theorem qr_X10_addRun_13 (aa : Nat) (xb : Int32) (xc : Int32) (xd : Int32) (xe : Int32) (yf : Int64) (xh : Int32) (w : nc_H) : nc_Run m_X10_addRun 13 [some (.inr (.inr (10, aa))), some (.inl xb), some (.inl xc), some (.inl xd), some (.inl xe), some (.inr (.inl yf)), none, some (.inl xh)] [] w =
  if (w.1 10 aa 1) ≤ xh then
    if xd ≠ xc then
      if xd ≠ 0 then
        nc_bV (nc_Call m_X10_add [.inr (.inr (10, aa)), .inl xb, .inl 1, .inl xe, .inr (.inl 0)] w) fun w1 =>
        some (some (.inl xc), w1)
      else
        if (3 : Int32) < xc then
          nc_bV (nc_Call m_X10_add [.inr (.inr (10, aa)), .inl xb, .inl 1, .inl xe, .inr (.inl 0)] w) fun w2 =>
          some (some (.inl xc), w2)
        else
          nc_bV (nc_Call m_X10_add [.inr (.inr (10, aa)), .inl xb, .inl 4, .inl xe, .inr (.inl 0)] w) fun w3 =>
          some (some (.inl xc), w3)
    else
      if (7 : Int32) < xc then
        if xd ≠ 0 then
          nc_bV (nc_Call m_X10_add [.inr (.inr (10, aa)), .inl xb, .inl 1, .inl xe, .inr (.inl 0)] w) fun w4 =>
          some (some (.inl xc), w4)
        else
          if (3 : Int32) < xc then
            nc_bV (nc_Call m_X10_add [.inr (.inr (10, aa)), .inl xb, .inl 1, .inl xe, .inr (.inl 0)] w) fun w5 =>
            some (some (.inl xc), w5)
          else
            nc_bV (nc_Call m_X10_add [.inr (.inr (10, aa)), .inl xb, .inl 4, .inl xe, .inr (.inl 0)] w) fun w6 =>
            some (some (.inl xc), w6)
      else
        nc_bI (nc_Call m_X10_toldWord [.inr (.inr (10, aa)), .inr (.inl yf)] w) fun r8 w7 =>
        if r8 ≠ (-1) then
          nc_bV (nc_Call m_X10_add [.inr (.inr (10, aa)), .inl xb, .inl 2, .inl r8, .inr (.inl yf)] w7) fun w9 =>
          some (some (.inl xc), w9)
        else
          nc_bV (nc_Call m_X10_add [.inr (.inr (10, aa)), .inl xb, .inl 3, .inl r8, .inr (.inl yf)] w7) fun w10 =>
          some (some (.inl xc), w10)
  else
    nc_bI (nc_Call m_X10_at [.inr (.inr (10, aa)), .inl xh] w) fun r12 w11 =>
    nc_bI (nc_Call m_X10_isLetter [.inl r12] w11) fun r14 w13 =>
    if r14 ≠ 0 then
      nc_li (xc + 1) fun x15 =>
      nc_bI (nc_Call m_X10_at [.inr (.inr (10, aa)), .inl xh] w13) fun r17 w16 =>
      nc_bI (nc_Call m_X10_isLetter [.inl r17] w16) fun r19 w18 =>
      if r19 = 0 then
        nc_bI (nc_Call m_X10_at [.inr (.inr (10, aa)), .inl xh] w18) fun r21 w20 =>
        nc_li (((xe * 10) + r21) - 48) fun x22 =>
        nc_li (xh + 1) fun x23 =>
        nc_Run m_X10_addRun 13 [some (.inr (.inr (10, aa))), some (.inl xb), some (.inl x15), some (.inl xd), some (.inl x22), some (.inr (.inl yf)), none, some (.inl x23)] [] w20
      else
        nc_bI (nc_Call m_X10_at [.inr (.inr (10, aa)), .inl xh] w18) fun r25 w24 =>
        nc_bL (nc_Call m_X10_withLetter [.inr (.inl yf), .inl r25] w24) fun y27 w26 =>
        nc_li (xd + 1) fun x28 =>
        nc_li (xh + 1) fun x29 =>
        nc_Run m_X10_addRun 13 [some (.inr (.inr (10, aa))), some (.inl xb), some (.inl x15), some (.inl x28), some (.inl xe), some (.inr (.inl y27)), none, some (.inl x29)] [] w26
    else
      nc_bI (nc_Call m_X10_at [.inr (.inr (10, aa)), .inl xh] w13) fun r31 w30 =>
      nc_bI (nc_Call m_X10_isDigit [.inl r31] w30) fun r33 w32 =>
      if r33 = 0 then
        if xd ≠ xc then
          if xd ≠ 0 then
            nc_bV (nc_Call m_X10_add [.inr (.inr (10, aa)), .inl xb, .inl 1, .inl xe, .inr (.inl 0)] w32) fun w34 =>
            some (some (.inl xc), w34)
          else
            if (3 : Int32) < xc then
              nc_bV (nc_Call m_X10_add [.inr (.inr (10, aa)), .inl xb, .inl 1, .inl xe, .inr (.inl 0)] w32) fun w35 =>
              some (some (.inl xc), w35)
            else
              nc_bV (nc_Call m_X10_add [.inr (.inr (10, aa)), .inl xb, .inl 4, .inl xe, .inr (.inl 0)] w32) fun w36 =>
              some (some (.inl xc), w36)
        else
          if (7 : Int32) < xc then
            if xd ≠ 0 then
              nc_bV (nc_Call m_X10_add [.inr (.inr (10, aa)), .inl xb, .inl 1, .inl xe, .inr (.inl 0)] w32) fun w37 =>
              some (some (.inl xc), w37)
            else
              if (3 : Int32) < xc then
                nc_bV (nc_Call m_X10_add [.inr (.inr (10, aa)), .inl xb, .inl 1, .inl xe, .inr (.inl 0)] w32) fun w38 =>
                some (some (.inl xc), w38)
              else
                nc_bV (nc_Call m_X10_add [.inr (.inr (10, aa)), .inl xb, .inl 4, .inl xe, .inr (.inl 0)] w32) fun w39 =>
                some (some (.inl xc), w39)
          else
            nc_bI (nc_Call m_X10_toldWord [.inr (.inr (10, aa)), .inr (.inl yf)] w32) fun r41 w40 =>
            if r41 ≠ (-1) then
              nc_bV (nc_Call m_X10_add [.inr (.inr (10, aa)), .inl xb, .inl 2, .inl r41, .inr (.inl yf)] w40) fun w42 =>
              some (some (.inl xc), w42)
            else
              nc_bV (nc_Call m_X10_add [.inr (.inr (10, aa)), .inl xb, .inl 3, .inl r41, .inr (.inl yf)] w40) fun w43 =>
              some (some (.inl xc), w43)
      else
        nc_li (xc + 1) fun x44 =>
        nc_bI (nc_Call m_X10_at [.inr (.inr (10, aa)), .inl xh] w32) fun r46 w45 =>
        nc_bI (nc_Call m_X10_isLetter [.inl r46] w45) fun r48 w47 =>
        if r48 = 0 then
          nc_bI (nc_Call m_X10_at [.inr (.inr (10, aa)), .inl xh] w47) fun r50 w49 =>
          nc_li (((xe * 10) + r50) - 48) fun x51 =>
          nc_li (xh + 1) fun x52 =>
          nc_Run m_X10_addRun 13 [some (.inr (.inr (10, aa))), some (.inl xb), some (.inl x44), some (.inl xd), some (.inl x51), some (.inr (.inl yf)), none, some (.inl x52)] [] w49
        else
          nc_bI (nc_Call m_X10_at [.inr (.inr (10, aa)), .inl xh] w47) fun r54 w53 =>
          nc_bL (nc_Call m_X10_withLetter [.inr (.inl yf), .inl r54] w53) fun y56 w55 =>
          nc_li (xd + 1) fun x57 =>
          nc_li (xh + 1) fun x58 =>
          nc_Run m_X10_addRun 13 [some (.inr (.inr (10, aa))), some (.inl xb), some (.inl x44), some (.inl x57), some (.inl xe), some (.inr (.inl y56)), none, some (.inl x58)] [] w55 :=
  (nc_Run_un [13] 37).trans rfl
set_option maxRecDepth 100000 in
theorem qc_X10_start (aa : Nat) (xb : Int32) (w : nc_H) : nc_Call m_X10_start [.inr (.inr (10, aa)), .inl xb] w =
  nc_li (if xb < (w.1 10 aa 1) then xb else (w.1 10 aa 1)) fun x1 =>
  if (w.1 10 aa 1) ≤ xb then
    nc_lt (nc_si w 10 aa 9 0) fun w2 =>
    nc_lt (nc_si w2 10 aa 14 0) fun w3 =>
    nc_lt (nc_si w3 10 aa 15 0) fun w4 =>
    nc_lt (nc_si w4 10 aa 7 0) fun w5 =>
    nc_lt (nc_si w5 10 aa 8 0) fun w6 =>
    nc_Run m_X10_start 51 [some (.inr (.inr (10, aa))), none, some (.inl x1), some (.inl 0), some (.inl 0), none] [] w6
  else
    nc_lt (nc_si w 10 aa 9 1) fun w7 =>
    nc_lt (nc_si w7 10 aa 14 0) fun w8 =>
    nc_lt (nc_si w8 10 aa 15 0) fun w9 =>
    nc_lt (nc_si w9 10 aa 7 0) fun w10 =>
    nc_lt (nc_si w10 10 aa 8 0) fun w11 =>
    nc_Run m_X10_start 51 [some (.inr (.inr (10, aa))), none, some (.inl x1), some (.inl 0), some (.inl 0), none] [] w11 :=
  (nc_Call_eq _ _ _).trans ((if_pos (Nat.le_of_ble_eq_true rfl)).trans ((nc_Run_un [51] 30).trans rfl))
set_option maxRecDepth 100000 in
theorem qr_X10_start_51 (aa : Nat) (xc : Int32) (xd : Int32) (xe : Int32) (w : nc_H) : nc_Run m_X10_start 51 [some (.inr (.inr (10, aa))), none, some (.inl xc), some (.inl xd), some (.inl xe), none] [] w =
  if xc ≤ xe then
    nc_bV (nc_Call m_X10_add [.inr (.inr (10, aa)), .inl xc, .inl 0, .inl 0, .inr (.inl 0)] w) fun w1 =>
    some (none, w1)
  else
    nc_bI (nc_Call m_X10_at [.inr (.inr (10, aa)), .inl xe] w) fun r3 w2 =>
    if xe < xd then
      if xe < xd then
        nc_li (xe + 1) fun x4 =>
        nc_Run m_X10_start 51 [some (.inr (.inr (10, aa))), none, some (.inl xc), some (.inl xd), some (.inl x4), none] [] w2
      else
        if r3 = 32 then
          nc_li (xe + 1) fun x5 =>
          nc_Run m_X10_start 51 [some (.inr (.inr (10, aa))), none, some (.inl xc), some (.inl xd), some (.inl x5), none] [] w2
        else
          if r3 = 10 then
            nc_li (xe + 1) fun x6 =>
            nc_Run m_X10_start 51 [some (.inr (.inr (10, aa))), none, some (.inl xc), some (.inl xd), some (.inl x6), none] [] w2
          else
            if (nc_sig ((r3.toUInt32 % 65536).toInt32)) < 0 then
              nc_bV (nc_Call m_X10_add [.inr (.inr (10, aa)), .inl xe, .inl 1, .inl r3, .inr (.inl 0)] w2) fun w7 =>
              nc_li (xe + 1) fun x8 =>
              nc_Run m_X10_start 51 [some (.inr (.inr (10, aa))), none, some (.inl xc), some (.inl xd), some (.inl x8), none] [] w7
            else
              nc_bV (nc_Call m_X10_add [.inr (.inr (10, aa)), .inl xe, .inl 5, .inl r3, .inr (.inl 0)] w2) fun w9 =>
              nc_li (xe + 1) fun x10 =>
              nc_Run m_X10_start 51 [some (.inr (.inr (10, aa))), none, some (.inl xc), some (.inl xd), some (.inl x10), none] [] w9
    else
      nc_bI (nc_Call m_X10_isLetter [.inl r3] w2) fun r12 w11 =>
      if r12 ≠ 0 then
        nc_bI (nc_Call m_X10_addRun [.inr (.inr (10, aa)), .inl xe] w11) fun r14 w13 =>
        nc_li (xe + r14) fun x15 =>
        nc_li (xe + 1) fun x16 =>
        nc_Run m_X10_start 51 [some (.inr (.inr (10, aa))), none, some (.inl xc), some (.inl x15), some (.inl x16), none] [] w13
      else
        nc_bI (nc_Call m_X10_isDigit [.inl r3] w11) fun r18 w17 =>
        if r18 = 0 then
          if xe < xd then
            nc_li (xe + 1) fun x19 =>
            nc_Run m_X10_start 51 [some (.inr (.inr (10, aa))), none, some (.inl xc), some (.inl xd), some (.inl x19), none] [] w17
          else
            if r3 = 32 then
              nc_li (xe + 1) fun x20 =>
              nc_Run m_X10_start 51 [some (.inr (.inr (10, aa))), none, some (.inl xc), some (.inl xd), some (.inl x20), none] [] w17
            else
              if r3 = 10 then
                nc_li (xe + 1) fun x21 =>
                nc_Run m_X10_start 51 [some (.inr (.inr (10, aa))), none, some (.inl xc), some (.inl xd), some (.inl x21), none] [] w17
              else
                if (nc_sig ((r3.toUInt32 % 65536).toInt32)) < 0 then
                  nc_bV (nc_Call m_X10_add [.inr (.inr (10, aa)), .inl xe, .inl 1, .inl r3, .inr (.inl 0)] w17) fun w22 =>
                  nc_li (xe + 1) fun x23 =>
                  nc_Run m_X10_start 51 [some (.inr (.inr (10, aa))), none, some (.inl xc), some (.inl xd), some (.inl x23), none] [] w22
                else
                  nc_bV (nc_Call m_X10_add [.inr (.inr (10, aa)), .inl xe, .inl 5, .inl r3, .inr (.inl 0)] w17) fun w24 =>
                  nc_li (xe + 1) fun x25 =>
                  nc_Run m_X10_start 51 [some (.inr (.inr (10, aa))), none, some (.inl xc), some (.inl xd), some (.inl x25), none] [] w24
        else
          nc_bI (nc_Call m_X10_addRun [.inr (.inr (10, aa)), .inl xe] w17) fun r27 w26 =>
          nc_li (xe + r27) fun x28 =>
          nc_li (xe + 1) fun x29 =>
          nc_Run m_X10_start 51 [some (.inr (.inr (10, aa))), none, some (.inl xc), some (.inl x28), some (.inl x29), none] [] w26 :=
  (nc_Run_un [51] 40).trans rfl
set_option maxRecDepth 100000 in
theorem qc_X10_nextLine (aa : Nat) (w : nc_H) : nc_Call m_X10_nextLine [.inr (.inr (10, aa))] w =
  nc_bV (nc_Call m_X10_next [.inr (.inr (10, aa))] w) fun w1 =>
  if (w1.1 10 aa 11) = 0 then
    some (some (.inl 0), w1)
  else
    some (some (.inl 1), w1) :=
  (nc_Call_eq _ _ _).trans ((if_pos (Nat.le_of_ble_eq_true rfl)).trans ((nc_Run_un [] 8).trans rfl))
set_option maxRecDepth 100000 in
theorem qc_X0_readArg (aa : Nat) (ab : Nat) (xc : Int32) (w : nc_H) : nc_Call m_X0_readArg [.inr (.inr (10, aa)), .inr (.inr (2, ab)), .inl xc] w =
  if xc ≠ 11 then
    nc_bV (nc_Call m_X10_next [.inr (.inr (10, aa))] w) fun w1 =>
    nc_bI (nc_Call m_X2_named [.inr (.inr (2, ab)), .inr (.inr (10, aa)), .inl 12, .inl 10] w1) fun r3 w2 =>
    some (some (.inl r3), w2)
  else
    nc_bI (nc_Call m_X10_nextNumber [.inr (.inr (10, aa)), .inl 1, .inl 60] w) fun r5 w4 =>
    if r5 = 0 then
      some (some (.inl (-1)), w4)
    else
      some (some (.inl (w4.1 10 aa 12)), w4) :=
  (nc_Call_eq _ _ _).trans ((if_pos (Nat.le_of_ble_eq_true rfl)).trans ((nc_Run_un [] 12).trans rfl))
set_option maxRecDepth 100000 in
theorem qc_X10_closesLine (aa : Nat) (w : nc_H) : nc_Call m_X10_closesLine [.inr (.inr (10, aa))] w =
  nc_bV (nc_Call m_X10_next [.inr (.inr (10, aa))] w) fun w1 =>
  nc_bI (nc_Call m_X10_mustBeSign [.inr (.inr (10, aa)), .inl 59] w1) fun r3 w2 =>
  nc_z r3 <| some (some (.inl r3), w2) :=
  (nc_Call_eq _ _ _).trans ((if_pos (Nat.le_of_ble_eq_true rfl)).trans ((nc_Run_un [] 6).trans rfl))
set_option maxRecDepth 100000 in
theorem qc_X0_readLine (aa : Nat) (ab : Nat) (ac : Nat) (w : nc_H) : nc_Call m_X0_readLine [.inr (.inr (0, aa)), .inr (.inr (10, ab)), .inr (.inr (2, ac))] w =
  nc_bI (nc_Call m_X10_word [.inr (.inr (10, ab))] w) fun r2 w1 =>
  if r2 = 10 then
    nc_Run m_X0_readLine 21 [some (.inr (.inr (0, aa))), some (.inr (.inr (10, ab))), some (.inr (.inr (2, ac))), some (.inl r2), none, none, none] [] w1
  else
    if r2 = 11 then
      nc_Run m_X0_readLine 21 [some (.inr (.inr (0, aa))), some (.inr (.inr (10, ab))), some (.inr (.inr (2, ac))), some (.inl r2), none, none, none] [] w1
    else
      nc_bI (nc_Call m_X2_named [.inr (.inr (2, ac)), .inr (.inr (10, ab)), .inl 4, .inl 8] w1) fun r4 w3 =>
      if (0 : Int32) ≤ r4 then
        if (w3.1 0 aa 3) < 40 then
          nc_bV (nc_Call m_X10_next [.inr (.inr (10, ab))] w3) fun w5 =>
          nc_bI (nc_Call m_X10_word [.inr (.inr (10, ab))] w5) fun r7 w6 =>
          if r7 = 9 then
            nc_bI (nc_Call m_X0_readArg [.inr (.inr (10, ab)), .inr (.inr (2, ac)), .inl r7] w6) fun r9 w8 =>
            if r9 < 0 then
              some (some (.inl 0), w8)
            else
              nc_bI (nc_Call m_X10_closesLine [.inr (.inr (10, ab))] w8) fun r11 w10 =>
              if r11 ≠ 0 then
                nc_bd (w10.1 0 aa 3) 40 fun j12 =>
                nc_lt (nc_si w10 100 aa j12 r7) fun w13 =>
                nc_bd (w13.1 0 aa 3) 40 fun j14 =>
                nc_lt (nc_si w13 101 aa j14 r4) fun w15 =>
                nc_bd (w15.1 0 aa 3) 40 fun j16 =>
                nc_lt (nc_si w15 102 aa j16 r9) fun w17 =>
                nc_lt (nc_si w17 0 aa 3 ((w17.1 0 aa 3) + 1)) fun w18 =>
                some (some (.inl 1), w18)
              else
                some (some (.inl 0), w10)
          else
            nc_bI (nc_Call m_X10_fail [.inr (.inr (10, ab)), .inl 1] w6) fun r20 w19 =>
            nc_z r20 <| some (some (.inl r20), w19)
        else
          nc_bI (nc_Call m_X10_fail [.inr (.inr (10, ab)), .inl 4] w3) fun r22 w21 =>
          nc_z r22 <| some (some (.inl r22), w21)
      else
        some (some (.inl 0), w3) :=
  (nc_Call_eq _ _ _).trans ((if_pos (Nat.le_of_ble_eq_true rfl)).trans ((nc_Run_un [21] 73).trans rfl))
set_option maxRecDepth 100000 in
theorem qr_X0_readLine_21 (aa : Nat) (ab : Nat) (ac : Nat) (xd : Int32) (w : nc_H) : nc_Run m_X0_readLine 21 [some (.inr (.inr (0, aa))), some (.inr (.inr (10, ab))), some (.inr (.inr (2, ac))), some (.inl xd), none, none, none] [] w =
  if (w.1 0 aa 3) < 40 then
    nc_bI (nc_Call m_X0_readArg [.inr (.inr (10, ab)), .inr (.inr (2, ac)), .inl xd] w) fun r2 w1 =>
    if r2 < 0 then
      some (some (.inl 0), w1)
    else
      nc_bI (nc_Call m_X10_closesLine [.inr (.inr (10, ab))] w1) fun r4 w3 =>
      if r4 ≠ 0 then
        nc_bd (w3.1 0 aa 3) 40 fun j5 =>
        nc_lt (nc_si w3 100 aa j5 xd) fun w6 =>
        nc_bd (w6.1 0 aa 3) 40 fun j7 =>
        nc_lt (nc_si w6 101 aa j7 0) fun w8 =>
        nc_bd (w8.1 0 aa 3) 40 fun j9 =>
        nc_lt (nc_si w8 102 aa j9 r2) fun w10 =>
        nc_lt (nc_si w10 0 aa 3 ((w10.1 0 aa 3) + 1)) fun w11 =>
        some (some (.inl 1), w11)
      else
        some (some (.inl 0), w3)
  else
    nc_bI (nc_Call m_X10_fail [.inr (.inr (10, ab)), .inl 4] w) fun r13 w12 =>
    nc_z r13 <| some (some (.inl r13), w12) :=
  (nc_Run_un [21] 50).trans rfl
set_option maxRecDepth 100000 in
theorem qc_X10_mustEnd (aa : Nat) (w : nc_H) : nc_Call m_X10_mustEnd [.inr (.inr (10, aa))] w =
  if (w.1 10 aa 11) ≠ 0 then
    nc_bI (nc_Call m_X10_fail [.inr (.inr (10, aa)), .inl 1] w) fun r2 w1 =>
    if r2 = 0 then
      some (some (.inl 0), w1)
    else
      some (some (.inl 1), w1)
  else
    if (w.1 10 aa 9) = 0 then
      some (some (.inl 1), w)
    else
      nc_bI (nc_Call m_X10_fail [.inr (.inr (10, aa)), .inl 1] w) fun r4 w3 =>
      if r4 = 0 then
        some (some (.inl 0), w3)
      else
        some (some (.inl 1), w3) :=
  (nc_Call_eq _ _ _).trans ((if_pos (Nat.le_of_ble_eq_true rfl)).trans ((nc_Run_un [] 13).trans rfl))
set_option maxRecDepth 100000 in
theorem qc_X0_read (aa : Nat) (ab : Nat) (ac : Nat) (w : nc_H) : nc_Call m_X0_read [.inr (.inr (0, aa)), .inr (.inr (10, ab)), .inr (.inr (2, ac))] w =
  nc_lt (nc_si w 0 aa 3 0) fun w1 =>
  nc_bV (nc_Call m_X10_start [.inr (.inr (10, ab)), .inl 400] w1) fun w2 =>
  nc_Run m_X0_read 14 [some (.inr (.inr (0, aa))), some (.inr (.inr (10, ab))), some (.inr (.inr (2, ac))), some (.inl 0)] [] w2 :=
  (nc_Call_eq _ _ _).trans ((if_pos (Nat.le_of_ble_eq_true rfl)).trans ((nc_Run_un [14] 9).trans rfl))
set_option maxRecDepth 100000 in
theorem qr_X0_read_14 (aa : Nat) (ab : Nat) (ac : Nat) (xd : Int32) (w : nc_H) : nc_Run m_X0_read 14 [some (.inr (.inr (0, aa))), some (.inr (.inr (10, ab))), some (.inr (.inr (2, ac))), some (.inl xd)] [] w =
  if (400 : Int32) < xd then
    nc_bI (nc_Call m_X10_mustEnd [.inr (.inr (10, ab))] w) fun r2 w1 =>
    nc_z r2 <| some (some (.inl r2), w1)
  else
    nc_bI (nc_Call m_X10_nextLine [.inr (.inr (10, ab))] w) fun r4 w3 =>
    if r4 = 0 then
      nc_bI (nc_Call m_X10_mustEnd [.inr (.inr (10, ab))] w3) fun r6 w5 =>
      nc_z r6 <| some (some (.inl r6), w5)
    else
      nc_bI (nc_Call m_X0_readLine [.inr (.inr (0, aa)), .inr (.inr (10, ab)), .inr (.inr (2, ac))] w3) fun r8 w7 =>
      if r8 ≠ 0 then
        nc_li (xd + 1) fun x9 =>
        nc_Run m_X0_read 14 [some (.inr (.inr (0, aa))), some (.inr (.inr (10, ab))), some (.inr (.inr (2, ac))), some (.inl x9)] [] w7
      else
        some (some (.inl 0), w7) :=
  (nc_Run_un [14] 14).trans rfl
set_option maxRecDepth 100000 in
theorem qc_X7_fillPails (aa : Nat) (w : nc_H) : nc_Call m_X7_fillPails [.inr (.inr (7, aa))] w =
  nc_li (((w.1 7 aa 1) - (w.1 7 aa 1) / 30 * 30) * 4) fun x1 =>
  nc_Run m_X7_fillPails 12 [some (.inr (.inr (7, aa))), some (.inl x1), some (.inl 0), none, none] [] w :=
  (nc_Call_eq _ _ _).trans ((if_pos (Nat.le_of_ble_eq_true rfl)).trans ((nc_Run_un [12, 34] 10).trans rfl))
set_option maxRecDepth 100000 in
theorem qr_X7_fillPails_12 (aa : Nat) (xb : Int32) (xc : Int32) (w : nc_H) : nc_Run m_X7_fillPails 12 [some (.inr (.inr (7, aa))), some (.inl xb), some (.inl xc), none, none] [] w =
  if (4 : Int32) ≤ xc then
    nc_Run m_X7_fillPails 34 [some (.inr (.inr (7, aa))), some (.inl xb), some (.inl 0), none, none] [] w
  else
    nc_bd (xb + xc) 120 fun j1 =>
    nc_lt (nc_si w 562 aa j1 0) fun w2 =>
    nc_li (xc + 1) fun x3 =>
    nc_Run m_X7_fillPails 12 [some (.inr (.inr (7, aa))), some (.inl xb), some (.inl x3), none, none] [] w2 :=
  (nc_Run_un [12, 34] 13).trans rfl
set_option maxRecDepth 100000 in
theorem qr_X7_fillPails_34 (aa : Nat) (xb : Int32) (xc : Int32) (w : nc_H) : nc_Run m_X7_fillPails 34 [some (.inr (.inr (7, aa))), some (.inl xb), some (.inl xc), none, none] [] w =
  if (w.1 2 (nc_ld aa) 2) ≤ xc then
    some (none, w)
  else
    nc_bI (nc_Call m_X7_milk [.inr (.inr (7, aa)), .inl xc] w) fun r2 w1 =>
    nc_bd xc 8 fun j3 =>
    nc_li (w1.1 238 (nc_ld aa) j3) fun x4 =>
    nc_bd xc 8 fun j5 =>
    nc_bd xc 8 fun j6 =>
    nc_lt (nc_si w1 560 aa j6 ((w1.1 560 aa j5) + r2)) fun w7 =>
    nc_bd x4 4 fun j8 =>
    nc_bd x4 4 fun j9 =>
    nc_lt (nc_si w7 561 aa j9 ((w7.1 561 aa j8) + r2)) fun w10 =>
    nc_bd (xb + x4) 120 fun j11 =>
    nc_bd (xb + x4) 120 fun j12 =>
    nc_lt (nc_si w10 562 aa j12 ((w10.1 562 aa j11) + r2)) fun w13 =>
    nc_li (xc + 1) fun x14 =>
    nc_Run m_X7_fillPails 34 [some (.inr (.inr (7, aa))), some (.inl xb), some (.inl x14), none, none] [] w13 :=
  (nc_Run_un [12, 34] 44).trans rfl
set_option maxRecDepth 100000 in
theorem qc_X7_goDays (aa : Nat) (xb : Int32) (w : nc_H) : nc_Call m_X7_goDays [.inr (.inr (7, aa)), .inl xb] w =
  nc_li (w.1 7 aa 1) fun x1 =>
  nc_Run m_X7_goDays 7 [some (.inr (.inr (7, aa))), some (.inl xb), some (.inl x1), some (.inl 0)] [] w :=
  (nc_Call_eq _ _ _).trans ((if_pos (Nat.le_of_ble_eq_true rfl)).trans ((nc_Run_un [7] 6).trans rfl))
set_option maxRecDepth 100000 in
theorem qr_X7_goDays_7 (aa : Nat) (xb : Int32) (xc : Int32) (xd : Int32) (w : nc_H) : nc_Run m_X7_goDays 7 [some (.inr (.inr (7, aa))), some (.inl xb), some (.inl xc), some (.inl xd)] [] w =
  if xb ≤ xd then
    some (some (.inl ((w.1 7 aa 1) - xc)), w)
  else
    if (400 : Int32) ≤ (w.1 7 aa 1) then
      some (some (.inl ((w.1 7 aa 1) - xc)), w)
    else
      nc_bV (nc_Call m_X7_fillPails [.inr (.inr (7, aa))] w) fun w1 =>
      nc_bV (nc_Call m_X7_talk [.inr (.inr (7, aa))] w1) fun w2 =>
      nc_bV (nc_Call m_X7_turn [.inr (.inr (7, aa))] w2) fun w3 =>
      nc_li (xd + 1) fun x4 =>
      nc_Run m_X7_goDays 7 [some (.inr (.inr (7, aa))), some (.inl xb), some (.inl xc), some (.inl x4)] [] w3 :=
  (nc_Run_un [7] 16).trans rfl
set_option maxRecDepth 100000 in
theorem qc_X7_whyNotFound (aa : Nat) (xb : Int32) (w : nc_H) : nc_Call m_X7_whyNotFound [.inr (.inr (7, aa)), .inl xb] w =
  nc_bI (nc_Call m_X2_isLie [.inr (.inr (2, nc_ld aa)), .inl xb] w) fun r2 w1 =>
  if r2 ≠ 0 then
    if (((w1.1 7 aa 4) >>> (xb &&& 31)) &&& 1) ≠ 1 then
      some (some (.inl 0), w1)
    else
      some (some (.inl 2), w1)
  else
    some (some (.inl 1), w1) :=
  (nc_Call_eq _ _ _).trans ((if_pos (Nat.le_of_ble_eq_true rfl)).trans ((nc_Run_un [] 16).trans rfl))
set_option maxRecDepth 100000 in
theorem qc_X7_wouldDoubt (aa : Nat) (xb : Int32) (xc : Int32) (w : nc_H) : nc_Call m_X7_wouldDoubt [.inr (.inr (7, aa)), .inl xb, .inl xc] w =
  nc_bI (nc_Call m_X7_isDry [.inr (.inr (7, aa)), .inl xb] w) fun r2 w1 =>
  if r2 ≠ 0 then
    some (some (.inl 0), w1)
  else
    nc_bd xb 8 fun j3 =>
    if (((w1.1 554 aa j3) >>> (xc &&& 31)) &&& 1) ≠ 1 then
      some (some (.inl 0), w1)
    else
      some (some (.inl 1), w1) :=
  (nc_Call_eq _ _ _).trans ((if_pos (Nat.le_of_ble_eq_true rfl)).trans ((nc_Run_un [] 17).trans rfl))
set_option maxRecDepth 100000 in
theorem qc_X7_wouldDry (aa : Nat) (xb : Int32) (w : nc_H) : nc_Call m_X7_wouldDry [.inr (.inr (7, aa)), .inl xb] w =
  nc_Run m_X7_wouldDry 4 [some (.inr (.inr (7, aa))), some (.inl xb), some (.inl 0), some (.inl 0)] [] w :=
  (nc_Call_eq _ _ _).trans ((if_pos (Nat.le_of_ble_eq_true rfl)).trans ((nc_Run_un [4] 5).trans rfl))
set_option maxRecDepth 100000 in
theorem qr_X7_wouldDry_4 (aa : Nat) (xb : Int32) (xc : Int32) (xd : Int32) (w : nc_H) : nc_Run m_X7_wouldDry 4 [some (.inr (.inr (7, aa))), some (.inl xb), some (.inl xc), some (.inl xd)] [] w =
  if (w.1 2 (nc_ld aa) 2) ≤ xd then
    some (some (.inl xc), w)
  else
    nc_bI (nc_Call m_X7_wouldDoubt [.inr (.inr (7, aa)), .inl xd, .inl xb] w) fun r2 w1 =>
    if r2 = 0 then
      nc_li (xd + 1) fun x3 =>
      nc_Run m_X7_wouldDry 4 [some (.inr (.inr (7, aa))), some (.inl xb), some (.inl xc), some (.inl x3)] [] w1
    else
      nc_bd xd 8 fun j4 =>
      nc_bd xd 8 fun j5 =>
      if ((w1.1 559 aa j4) + 1) < (w1.1 240 (nc_ld aa) j5) then
        nc_li (xd + 1) fun x6 =>
        nc_Run m_X7_wouldDry 4 [some (.inr (.inr (7, aa))), some (.inl xb), some (.inl xc), some (.inl x6)] [] w1
      else
        nc_li (xc ||| (1 <<< (xd &&& 31))) fun x7 =>
        nc_li (xd + 1) fun x8 =>
        nc_Run m_X7_wouldDry 4 [some (.inr (.inr (7, aa))), some (.inl xb), some (.inl x7), some (.inl x8)] [] w1 :=
  (nc_Run_un [4] 31).trans rfl
set_option maxRecDepth 100000 in
theorem qc_X7_findOut (aa : Nat) (xb : Int32) (w : nc_H) : nc_Call m_X7_findOut [.inr (.inr (7, aa)), .inl xb] w =
  nc_bI (nc_Call m_X7_wouldDry [.inr (.inr (7, aa)), .inl xb] w) fun r2 w1 =>
  nc_Run m_X7_findOut 8 [some (.inr (.inr (7, aa))), some (.inl xb), some (.inl r2), some (.inl 0)] [] w1 :=
  (nc_Call_eq _ _ _).trans ((if_pos (Nat.le_of_ble_eq_true rfl)).trans ((nc_Run_un [8] 7).trans rfl))
set_option maxRecDepth 100000 in
theorem qr_X7_findOut_8 (aa : Nat) (xb : Int32) (xc : Int32) (xd : Int32) (w : nc_H) : nc_Run m_X7_findOut 8 [some (.inr (.inr (7, aa))), some (.inl xb), some (.inl xc), some (.inl xd)] [] w =
  if (w.1 2 (nc_ld aa) 2) ≤ xd then
    nc_lt (nc_si w 7 aa 3 ((w.1 7 aa 3) ||| xc)) fun w1 =>
    nc_lt (nc_si w1 7 aa 4 ((w1.1 7 aa 4) ||| (1 <<< (xb &&& 31)))) fun w2 =>
    some (none, w2)
  else
    nc_bI (nc_Call m_X7_wouldDoubt [.inr (.inr (7, aa)), .inl xd, .inl xb] w) fun r4 w3 =>
    if r4 = 0 then
      nc_li (xd + 1) fun x5 =>
      nc_Run m_X7_findOut 8 [some (.inr (.inr (7, aa))), some (.inl xb), some (.inl xc), some (.inl x5)] [] w3
    else
      nc_bd xd 8 fun j6 =>
      nc_bd xd 8 fun j7 =>
      nc_lt (nc_si w3 559 aa j7 ((w3.1 559 aa j6) + 1)) fun w8 =>
      nc_li (xd + 1) fun x9 =>
      nc_Run m_X7_findOut 8 [some (.inr (.inr (7, aa))), some (.inl xb), some (.inl xc), some (.inl x9)] [] w8 :=
  (nc_Run_un [8] 21).trans rfl
set_option maxRecDepth 100000 in
theorem qc_X0_live (aa : Nat) (ab : Nat) (xc : Int32) (w : nc_H) : nc_Call m_X0_live [.inr (.inr (0, aa)), .inr (.inr (7, ab)), .inl xc] w =
  nc_bd xc 40 fun j1 =>
  if (w.1 100 aa j1) ≠ 11 then
    nc_bd xc 40 fun j2 =>
    if (w.1 100 aa j2) ≠ 10 then
      nc_bd xc 40 fun j3 =>
      nc_bd xc 40 fun j4 =>
      nc_bI (nc_Call m_X7_whyNotTold [.inr (.inr (7, ab)), .inl (w.1 101 aa j3), .inl (w.1 102 aa j4)] w) fun r6 w5 =>
      if r6 ≠ 0 then
        some (some (.inl r6), w5)
      else
        nc_bd xc 40 fun j7 =>
        nc_bd xc 40 fun j8 =>
        nc_bV (nc_Call m_X7_hear [.inr (.inr (7, ab)), .inl (w5.1 101 aa j7), .inl (w5.1 102 aa j8)] w5) fun w9 =>
        some (some (.inl r6), w9)
    else
      nc_bd xc 40 fun j10 =>
      nc_bI (nc_Call m_X7_whyNotFound [.inr (.inr (7, ab)), .inl (w.1 102 aa j10)] w) fun r12 w11 =>
      if r12 = 0 then
        nc_bd xc 40 fun j13 =>
        nc_bV (nc_Call m_X7_findOut [.inr (.inr (7, ab)), .inl (w11.1 102 aa j13)] w11) fun w14 =>
        some (some (.inl 0), w14)
      else
        some (some (.inl (10 + r12)), w11)
  else
    nc_bd xc 40 fun j15 =>
    if ((w.1 7 ab 1) + (w.1 102 aa j15)) ≤ 400 then
      nc_bd xc 40 fun j16 =>
      nc_bI (nc_Call m_X7_goDays [.inr (.inr (7, ab)), .inl (w.1 102 aa j16)] w) fun r18 w17 =>
      some (some (.inl 0), w17)
    else
      some (some (.inl 21), w) :=
  (nc_Call_eq _ _ _).trans ((if_pos (Nat.le_of_ble_eq_true rfl)).trans ((nc_Run_un [] 37).trans rfl))
set_option maxRecDepth 100000 in
theorem qc_X0_judge (aa : Nat) (ab : Nat) (w : nc_H) : nc_Call m_X0_judge [.inr (.inr (0, aa)), .inr (.inr (7, ab))] w =
  nc_lt (nc_si w 0 aa 4 1) fun w1 =>
  nc_lt (nc_si w1 0 aa 5 0) fun w2 =>
  nc_lt (nc_si w2 0 aa 6 0) fun w3 =>
  nc_Run m_X0_judge 17 [some (.inr (.inr (0, aa))), some (.inr (.inr (7, ab))), some (.inl 0)] [] w3 :=
  (nc_Call_eq _ _ _).trans ((if_pos (Nat.le_of_ble_eq_true rfl)).trans ((nc_Run_un [17] 12).trans rfl))
set_option maxRecDepth 100000 in
theorem qr_X0_judge_17 (aa : Nat) (ab : Nat) (xc : Int32) (w : nc_H) : nc_Run m_X0_judge 17 [some (.inr (.inr (0, aa))), some (.inr (.inr (7, ab))), some (.inl xc)] [] w =
  if (w.1 0 aa 3) ≤ xc then
    nc_lt (nc_si w 0 aa 7 (w.1 7 ab 1)) fun w1 =>
    nc_lt (nc_si w1 0 aa 8 (w1.1 7 ab 3)) fun w2 =>
    if (w2.1 0 aa 5) ≠ 0 then
      some (some (.inl (w2.1 0 aa 6)), w2)
    else
      some (some (.inl (-1)), w2)
  else
    if (w.1 0 aa 5) ≠ 0 then
      nc_lt (nc_si w 0 aa 7 (w.1 7 ab 1)) fun w3 =>
      nc_lt (nc_si w3 0 aa 8 (w3.1 7 ab 3)) fun w4 =>
      if (w4.1 0 aa 5) ≠ 0 then
        some (some (.inl (w4.1 0 aa 6)), w4)
      else
        some (some (.inl (-1)), w4)
    else
      nc_bI (nc_Call m_X0_live [.inr (.inr (0, aa)), .inr (.inr (7, ab)), .inl xc] w) fun r6 w5 =>
      nc_lt (nc_si w5 0 aa 5 r6) fun w7 =>
      if (w7.1 0 aa 5) ≠ 0 then
        nc_lt (nc_si w7 0 aa 6 xc) fun w8 =>
        nc_li (xc + 1) fun x9 =>
        nc_Run m_X0_judge 17 [some (.inr (.inr (0, aa))), some (.inr (.inr (7, ab))), some (.inl x9)] [] w8
      else
        nc_lt (nc_si w7 0 aa 6 (xc + 1)) fun w10 =>
        nc_li (xc + 1) fun x11 =>
        nc_Run m_X0_judge 17 [some (.inr (.inr (0, aa))), some (.inr (.inr (7, ab))), some (.inl x11)] [] w10 :=
  (nc_Run_un [17] 25).trans rfl
set_option maxRecDepth 100000 in
theorem qc_X1_lookAt (aa : Nat) (xb : Int32) (w : nc_H) : nc_Call m_X1_lookAt [.inr (.inr (1, aa)), .inl xb] w =
  nc_bI (nc_Call m_X2_allNews [.inr (.inr (2, 0))] w) fun r2 w1 =>
  nc_bd xb 8 fun j3 =>
  nc_lt (nc_si w1 1 aa 4 (r2 &&& ((w1.1 555 0 j3) ^^^ (-1)))) fun w4 =>
  nc_bd xb 8 fun j5 =>
  nc_bI (nc_Call m_J6_bitCount_0f7a4 [.inl (w4.1 555 0 j5)] w4) fun r7 w6 =>
  nc_lt (nc_si w6 1 aa 5 ((w4.1 2 0 5) - r7)) fun w8 =>
  nc_bI (nc_Call m_X7_sumOf [.inr (.inr (7, 0)), .inl xb] w8) fun r10 w9 =>
  nc_lt (nc_si w9 1 aa 6 r10) fun w11 =>
  nc_bI (nc_Call m_X7_isCurdled [.inr (.inr (7, 0)), .inl xb] w11) fun r13 w12 =>
  nc_z r13 <|
  nc_lt (nc_si w12 1 aa 7 r13) fun w14 =>
  nc_bI (nc_Call m_X7_heardByOthers [.inr (.inr (7, 0)), .inl xb] w14) fun r16 w15 =>
  nc_bd 0 1024 fun j17 =>
  nc_lt (nc_si w15 166 aa j17 0) fun w18 =>
  nc_Run m_X1_lookAt 89 [some (.inr (.inr (1, aa))), some (.inl xb), some (.inl r16), some (.inl 0), none, none] [] w18 :=
  (nc_Call_eq _ _ _).trans ((if_pos (Nat.le_of_ble_eq_true rfl)).trans ((nc_Run_un [89, 123] 50).trans rfl))
set_option maxRecDepth 100000 in
theorem qr_X1_lookAt_89 (aa : Nat) (xb : Int32) (xc : Int32) (xd : Int32) (w : nc_H) : nc_Run m_X1_lookAt 89 [some (.inr (.inr (1, aa))), some (.inl xb), some (.inl xc), some (.inl xd), none, none] [] w =
  if (w.1 2 0 3) ≤ xd then
    some (none, w)
  else
    nc_bd xb 8 fun j1 =>
    nc_bI (nc_Call m_X7_addedBy [.inr (.inr (7, 0)), .inl xd, .inl xc, .inl (w.1 554 0 j1)] w) fun r3 w2 =>
    nc_Run m_X1_lookAt 123 [some (.inr (.inr (1, aa))), some (.inl xb), some (.inl xc), some (.inl xd), some (.inl r3), some (.inl 0)] [] w2 :=
  (nc_Run_un [89, 123] 19).trans rfl
set_option maxRecDepth 100000 in
theorem qr_X1_lookAt_123 (aa : Nat) (xb : Int32) (xc : Int32) (xd : Int32) (xe : Int32) (xf : Int32) (w : nc_H) : nc_Run m_X1_lookAt 123 [some (.inr (.inr (1, aa))), some (.inl xb), some (.inl xc), some (.inl xd), some (.inl xe), some (.inl xf)] [] w =
  if (1 <<< (xd &&& 31)) ≤ xf then
    nc_li (xd + 1) fun x1 =>
    nc_Run m_X1_lookAt 89 [some (.inr (.inr (1, aa))), some (.inl xb), some (.inl xc), some (.inl x1), none, none] [] w
  else
    nc_bd xf 1024 fun j2 =>
    nc_bd (xf ||| (1 <<< (xd &&& 31))) 1024 fun j3 =>
    nc_lt (nc_si w 166 aa j3 ((w.1 166 aa j2) + xe)) fun w4 =>
    nc_li (xf + 1) fun x5 =>
    nc_Run m_X1_lookAt 123 [some (.inr (.inr (1, aa))), some (.inl xb), some (.inl xc), some (.inl xd), some (.inl xe), some (.inl x5)] [] w4 :=
  (nc_Run_un [89, 123] 22).trans rfl
set_option maxRecDepth 100000 in
theorem qc_X1_milkBy (aa : Nat) (xb : Int32) (w : nc_H) : nc_Call m_X1_milkBy [.inr (.inr (1, aa)), .inl xb] w =
  if (w.1 1 aa 7) ≠ 0 then
    some (some (.inl 0), w)
  else
    if (xb &&& (w.1 2 0 7)) = 0 then
      nc_bd xb 1024 fun j1 =>
      some (some (.inl (if (0 : Int32) < ((w.1 1 aa 6) + (w.1 166 aa j1)) then ((w.1 1 aa 6) + (w.1 166 aa j1)) else (0 : Int32))), w)
    else
      some (some (.inl 0), w) :=
  (nc_Call_eq _ _ _).trans ((if_pos (Nat.le_of_ble_eq_true rfl)).trans ((nc_Run_un [] 19).trans rfl))
set_option maxRecDepth 100000 in
theorem qc_X1_bestOf (aa : Nat) (xb : Int32) (w : nc_H) : nc_Call m_X1_bestOf [.inr (.inr (1, aa)), .inl xb] w =
  nc_bI (nc_Call m_J6_bitCount_0f7a4 [.inl xb] w) fun r2 w1 =>
  nc_li (1 <<< (r2 &&& 31)) fun x3 =>
  nc_Run m_X1_bestOf 15 [some (.inr (.inr (1, aa))), some (.inl xb), some (.inl 0), some (.inl x3), some (.inl 0), some (.inl 1), none, none] [] w1 :=
  (nc_Call_eq _ _ _).trans ((if_pos (Nat.le_of_ble_eq_true rfl)).trans ((nc_Run_un [15] 12).trans rfl))
set_option maxRecDepth 100000 in
theorem qr_X1_bestOf_15 (aa : Nat) (xb : Int32) (xc : Int32) (xd : Int32) (xe : Int32) (xf : Int32) (w : nc_H) : nc_Run m_X1_bestOf 15 [some (.inr (.inr (1, aa))), some (.inl xb), some (.inl xc), some (.inl xd), some (.inl xe), some (.inl xf), none, none] [] w =
  if xd ≤ xf then
    some (some (.inl xc), w)
  else
    nc_bI (nc_Call m_X1_setAfter [.inl xe, .inl xb] w) fun r2 w1 =>
    nc_bI (nc_Call m_J6_bitCount_0f7a4 [.inl r2] w1) fun r4 w3 =>
    if (w3.1 1 aa 5) < r4 then
      nc_li (xf + 1) fun x5 =>
      nc_Run m_X1_bestOf 15 [some (.inr (.inr (1, aa))), some (.inl xb), some (.inl xc), some (.inl xd), some (.inl r2), some (.inl x5), none, none] [] w3
    else
      nc_bI (nc_Call m_X1_milkBy [.inr (.inr (1, aa)), .inl r2] w3) fun r7 w6 =>
      nc_bI (nc_Call m_X1_milkBy [.inr (.inr (1, aa)), .inl xc] w6) fun r9 w8 =>
      nc_li (r7 - r9) fun x10 =>
      if (0 : Int32) < x10 then
        nc_li (xf + 1) fun x11 =>
        nc_Run m_X1_bestOf 15 [some (.inr (.inr (1, aa))), some (.inl xb), some (.inl r2), some (.inl xd), some (.inl r2), some (.inl x11), none, none] [] w8
      else
        if x10 ≠ 0 then
          nc_li (xf + 1) fun x12 =>
          nc_Run m_X1_bestOf 15 [some (.inr (.inr (1, aa))), some (.inl xb), some (.inl xc), some (.inl xd), some (.inl r2), some (.inl x12), none, none] [] w8
        else
          nc_bI (nc_Call m_J6_bitCount_0f7a4 [.inl xc] w8) fun r14 w13 =>
          if r14 ≤ r4 then
            nc_li (xf + 1) fun x15 =>
            nc_Run m_X1_bestOf 15 [some (.inr (.inr (1, aa))), some (.inl xb), some (.inl xc), some (.inl xd), some (.inl r2), some (.inl x15), none, none] [] w13
          else
            nc_li (xf + 1) fun x16 =>
            nc_Run m_X1_bestOf 15 [some (.inr (.inr (1, aa))), some (.inl xb), some (.inl r2), some (.inl xd), some (.inl r2), some (.inl x16), none, none] [] w13 :=
  (nc_Run_un [15] 35).trans rfl
set_option maxRecDepth 100000 in
theorem qc_X1_most (aa : Nat) (xb : Int32) (w : nc_H) : nc_Call m_X1_most [.inr (.inr (1, aa)), .inl xb] w =
  nc_bV (nc_Call m_X1_lookAt [.inr (.inr (1, aa)), .inl xb] w) fun w1 =>
  nc_bI (nc_Call m_X1_bestOf [.inr (.inr (1, aa)), .inl ((w1.1 1 aa 4) &&& ((w1.1 2 0 7) ^^^ (-1)))] w1) fun r3 w2 =>
  nc_lt (nc_si w2 1 aa 8 r3) fun w4 =>
  nc_bI (nc_Call m_X1_milkBy [.inr (.inr (1, aa)), .inl (w4.1 1 aa 8)] w4) fun r6 w5 =>
  some (some (.inl r6), w5) :=
  (nc_Call_eq _ _ _).trans ((if_pos (Nat.le_of_ble_eq_true rfl)).trans ((nc_Run_un [] 20).trans rfl))
set_option maxRecDepth 100000 in
theorem qc_X1_mostWithoutLies (aa : Nat) (xb : Int32) (w : nc_H) : nc_Call m_X1_mostWithoutLies [.inr (.inr (1, aa)), .inl xb] w =
  nc_bV (nc_Call m_X1_lookAt [.inr (.inr (1, aa)), .inl xb] w) fun w1 =>
  nc_bI (nc_Call m_X1_bestOf [.inr (.inr (1, aa)), .inl (((w1.1 1 aa 4) &&& ((w1.1 2 0 7) ^^^ (-1))) &&& ((w1.1 2 0 6) ^^^ (-1)))] w1) fun r3 w2 =>
  nc_bI (nc_Call m_X1_milkBy [.inr (.inr (1, aa)), .inl r3] w2) fun r5 w4 =>
  some (some (.inl r5), w4) :=
  (nc_Call_eq _ _ _).trans ((if_pos (Nat.le_of_ble_eq_true rfl)).trans ((nc_Run_un [] 22).trans rfl))
set_option maxRecDepth 100000 in
theorem qc_X1_isLess (aa : Nat) (xb : Int32) (xc : Int32) (w : nc_H) : nc_Call m_X1_isLess [.inr (.inr (1, aa)), .inl xb, .inl xc] w =
  if xc ≠ (-1) then
    nc_bI (nc_Call m_J6_bitCount_0f7a4 [.inl (xb &&& (w.1 2 0 6))] w) fun r2 w1 =>
    nc_bI (nc_Call m_J6_bitCount_0f7a4 [.inl (xc &&& (w1.1 2 0 6))] w1) fun r4 w3 =>
    nc_li (r2 - r4) fun x5 =>
    if x5 < 0 then
      some (some (.inl 1), w3)
    else
      if x5 ≠ 0 then
        some (some (.inl 0), w3)
      else
        nc_bI (nc_Call m_J6_bitCount_0f7a4 [.inl xb] w3) fun r7 w6 =>
        nc_bI (nc_Call m_J6_bitCount_0f7a4 [.inl xc] w6) fun r9 w8 =>
        if r9 ≤ r7 then
          some (some (.inl 0), w8)
        else
          some (some (.inl 1), w8)
  else
    some (some (.inl 1), w) :=
  (nc_Call_eq _ _ _).trans ((if_pos (Nat.le_of_ble_eq_true rfl)).trans ((nc_Run_un [] 29).trans rfl))
set_option maxRecDepth 100000 in
theorem qc_X1_fewestLies (aa : Nat) (xb : Int32) (xc : Int32) (w : nc_H) : nc_Call m_X1_fewestLies [.inr (.inr (1, aa)), .inl xb, .inl xc] w =
  nc_bV (nc_Call m_X1_lookAt [.inr (.inr (1, aa)), .inl xb] w) fun w1 =>
  nc_li ((w1.1 1 aa 4) &&& ((w1.1 2 0 7) ^^^ (-1))) fun x2 =>
  nc_bI (nc_Call m_J6_bitCount_0f7a4 [.inl x2] w1) fun r4 w3 =>
  nc_li (1 <<< (r4 &&& 31)) fun x5 =>
  nc_Run m_X1_fewestLies 37 [some (.inr (.inr (1, aa))), none, some (.inl xc), some (.inl x2), some (.inl x5), some (.inl (-1)), some (.inl 0), some (.inl 0)] [] w3 :=
  (nc_Call_eq _ _ _).trans ((if_pos (Nat.le_of_ble_eq_true rfl)).trans ((nc_Run_un [37] 24).trans rfl))
set_option maxRecDepth 100000 in
theorem qr_X1_fewestLies_37 (aa : Nat) (xc : Int32) (xd : Int32) (xe : Int32) (xf : Int32) (xg : Int32) (xh : Int32) (w : nc_H) : nc_Run m_X1_fewestLies 37 [some (.inr (.inr (1, aa))), none, some (.inl xc), some (.inl xd), some (.inl xe), some (.inl xf), some (.inl xg), some (.inl xh)] [] w =
  if xe ≤ xh then
    if xf ≠ (-1) then
      nc_lt (nc_si w 1 aa 8 xf) fun w1 =>
      nc_bI (nc_Call m_J6_bitCount_0f7a4 [.inl (xf &&& (w1.1 2 0 6))] w1) fun r3 w2 =>
      some (some (.inl r3), w2)
    else
      some (some (.inl (-1)), w)
  else
    nc_bI (nc_Call m_J6_bitCount_0f7a4 [.inl xg] w) fun r5 w4 =>
    if (w4.1 1 aa 5) < r5 then
      nc_bI (nc_Call m_X1_setAfter [.inl xg, .inl xd] w4) fun r7 w6 =>
      nc_li (xh + 1) fun x8 =>
      nc_Run m_X1_fewestLies 37 [some (.inr (.inr (1, aa))), none, some (.inl xc), some (.inl xd), some (.inl xe), some (.inl xf), some (.inl r7), some (.inl x8)] [] w6
    else
      nc_bI (nc_Call m_X1_milkBy [.inr (.inr (1, aa)), .inl xg] w4) fun r10 w9 =>
      if r10 < xc then
        nc_bI (nc_Call m_X1_setAfter [.inl xg, .inl xd] w9) fun r12 w11 =>
        nc_li (xh + 1) fun x13 =>
        nc_Run m_X1_fewestLies 37 [some (.inr (.inr (1, aa))), none, some (.inl xc), some (.inl xd), some (.inl xe), some (.inl xf), some (.inl r12), some (.inl x13)] [] w11
      else
        nc_bI (nc_Call m_X1_isLess [.inr (.inr (1, aa)), .inl xg, .inl xf] w9) fun r15 w14 =>
        if r15 = 0 then
          nc_bI (nc_Call m_X1_setAfter [.inl xg, .inl xd] w14) fun r17 w16 =>
          nc_li (xh + 1) fun x18 =>
          nc_Run m_X1_fewestLies 37 [some (.inr (.inr (1, aa))), none, some (.inl xc), some (.inl xd), some (.inl xe), some (.inl xf), some (.inl r17), some (.inl x18)] [] w16
        else
          nc_bI (nc_Call m_X1_setAfter [.inl xg, .inl xd] w14) fun r20 w19 =>
          nc_li (xh + 1) fun x21 =>
          nc_Run m_X1_fewestLies 37 [some (.inr (.inr (1, aa))), none, some (.inl xc), some (.inl xd), some (.inl xe), some (.inl xg), some (.inl r20), some (.inl x21)] [] w19 :=
  (nc_Run_un [37] 27).trans rfl
set_option maxRecDepth 100000 in
theorem qc_X1_mostEven (aa : Nat) (xb : Int32) (w : nc_H) : nc_Call m_X1_mostEven [.inr (.inr (1, aa)), .inl xb] w =
  nc_Run m_X1_mostEven 7 [some (.inr (.inr (1, aa))), some (.inl xb), some (.inl (-1)), some (.inl 0), some (.inl 0), none] [] w :=
  (nc_Call_eq _ _ _).trans ((if_pos (Nat.le_of_ble_eq_true rfl)).trans ((nc_Run_un [7] 7).trans rfl))
set_option maxRecDepth 100000 in
theorem qr_X1_mostEven_7 (aa : Nat) (xb : Int32) (xc : Int32) (xd : Int32) (xe : Int32) (w : nc_H) : nc_Run m_X1_mostEven 7 [some (.inr (.inr (1, aa))), some (.inl xb), some (.inl xc), some (.inl xd), some (.inl xe), none] [] w =
  if (w.1 2 0 3) ≤ xe then
    some (some (.inl xc), w)
  else
    nc_bd xe 10 fun j1 =>
    nc_li (if 0 ≤ ((2 * (w.1 167 aa j1)) - xb) then ((2 * (w.1 167 aa j1)) - xb) else 0 - ((2 * (w.1 167 aa j1)) - xb)) fun x2 =>
    if xc = (-1) then
      nc_li (xe + 1) fun x3 =>
      nc_Run m_X1_mostEven 7 [some (.inr (.inr (1, aa))), some (.inl xb), some (.inl xe), some (.inl x2), some (.inl x3), none] [] w
    else
      if xd ≤ x2 then
        nc_li (xe + 1) fun x4 =>
        nc_Run m_X1_mostEven 7 [some (.inr (.inr (1, aa))), some (.inl xb), some (.inl xc), some (.inl xd), some (.inl x4), none] [] w
      else
        nc_li (xe + 1) fun x5 =>
        nc_Run m_X1_mostEven 7 [some (.inr (.inr (1, aa))), some (.inl xb), some (.inl xe), some (.inl x2), some (.inl x5), none] [] w :=
  (nc_Run_un [7] 28).trans rfl
set_option maxRecDepth 100000 in
theorem qc_X1_setsThatGive (aa : Nat) (xb : Int32) (xc : Int32) (w : nc_H) : nc_Call m_X1_setsThatGive [.inr (.inr (1, aa)), .inl xb, .inl xc] w =
  nc_bV (nc_Call m_X1_lookAt [.inr (.inr (1, aa)), .inl xb] w) fun w1 =>
  nc_bV (nc_Call m_J7_fill_53178 [.inr (.inr (167, aa)), .inl 0] w1) fun w2 =>
  nc_bI (nc_Call m_J6_bitCount_0f7a4 [.inl (w2.1 1 aa 4)] w2) fun r4 w3 =>
  nc_li (1 <<< (r4 &&& 31)) fun x5 =>
  nc_bI (nc_Call m_X2_allNews [.inr (.inr (2, 0))] w3) fun r7 w6 =>
  nc_Run m_X1_setsThatGive 41 [some (.inr (.inr (1, aa))), none, some (.inl xc), some (.inl x5), some (.inl 0), some (.inl r7), some (.inl 0), some (.inl 0)] [] w6 :=
  (nc_Call_eq _ _ _).trans ((if_pos (Nat.le_of_ble_eq_true rfl)).trans ((nc_Run_un [41] 24).trans rfl))
set_option maxRecDepth 100000 in
theorem qr_X1_setsThatGive_41 (aa : Nat) (xc : Int32) (xd : Int32) (xe : Int32) (xf : Int32) (xg : Int32) (xh : Int32) (w : nc_H) : nc_Run m_X1_setsThatGive 41 [some (.inr (.inr (1, aa))), none, some (.inl xc), some (.inl xd), some (.inl xe), some (.inl xf), some (.inl xg), some (.inl xh)] [] w =
  if xd ≤ xh then
    if xe ≤ 0 then
      some (some (.inl xe), w)
    else
      nc_lt (nc_si w 1 aa 9 xf) fun w1 =>
      nc_bI (nc_Call m_X1_mostEven [.inr (.inr (1, aa)), .inl xe] w1) fun r3 w2 =>
      nc_lt (nc_si w2 1 aa 10 r3) fun w4 =>
      some (some (.inl xe), w4)
  else
    nc_bI (nc_Call m_J6_bitCount_0f7a4 [.inl xg] w) fun r6 w5 =>
    if (w5.1 1 aa 5) < r6 then
      nc_bI (nc_Call m_X1_setAfter [.inl xg, .inl (w5.1 1 aa 4)] w5) fun r8 w7 =>
      nc_li (xh + 1) fun x9 =>
      nc_Run m_X1_setsThatGive 41 [some (.inr (.inr (1, aa))), none, some (.inl xc), some (.inl xd), some (.inl xe), some (.inl xf), some (.inl r8), some (.inl x9)] [] w7
    else
      nc_bI (nc_Call m_X1_milkBy [.inr (.inr (1, aa)), .inl xg] w5) fun r11 w10 =>
      if r11 ≠ xc then
        nc_bI (nc_Call m_X1_setAfter [.inl xg, .inl (w10.1 1 aa 4)] w10) fun r13 w12 =>
        nc_li (xh + 1) fun x14 =>
        nc_Run m_X1_setsThatGive 41 [some (.inr (.inr (1, aa))), none, some (.inl xc), some (.inl xd), some (.inl xe), some (.inl xf), some (.inl r13), some (.inl x14)] [] w12
      else
        nc_li (xe + 1) fun x15 =>
        nc_li (xf &&& xg) fun x16 =>
        nc_bV (nc_Call m_X1_countNews [.inr (.inr (1, aa)), .inl xg] w10) fun w17 =>
        nc_bI (nc_Call m_X1_setAfter [.inl xg, .inl (w17.1 1 aa 4)] w17) fun r19 w18 =>
        nc_li (xh + 1) fun x20 =>
        nc_Run m_X1_setsThatGive 41 [some (.inr (.inr (1, aa))), none, some (.inl xc), some (.inl xd), some (.inl x15), some (.inl x16), some (.inl r19), some (.inl x20)] [] w18 :=
  (nc_Run_un [41] 29).trans rfl
set_option maxRecDepth 100000 in
theorem qc_X2_clear (aa : Nat) (w : nc_H) : nc_Call m_X2_clear [.inr (.inr (2, aa))] w =
  nc_lt (nc_si w 2 aa 0 0) fun w1 =>
  nc_lt (nc_si w1 2 aa 1 0) fun w2 =>
  nc_lt (nc_si w2 2 aa 2 0) fun w3 =>
  nc_lt (nc_si w3 2 aa 3 0) fun w4 =>
  nc_lt (nc_si w4 2 aa 4 0) fun w5 =>
  nc_lt (nc_si w5 2 aa 5 3) fun w6 =>
  nc_lt (nc_si w6 2 aa 6 0) fun w7 =>
  nc_lt (nc_si w7 2 aa 7 0) fun w8 =>
  nc_bV (nc_Call m_J7_fill_d0a16 [.inr (.inr (236, aa)), .inr (.inl 0)] w8) fun w9 =>
  nc_bV (nc_Call m_J7_fill_53178 [.inr (.inr (237, aa)), .inl 0] w9) fun w10 =>
  some (none, w10) :=
  (nc_Call_eq _ _ _).trans ((if_pos (Nat.le_of_ble_eq_true rfl)).trans ((nc_Run_un [] 33).trans rfl))
set_option maxRecDepth 100000 in
theorem qc_X2_copyFrom (aa : Nat) (ab : Nat) (w : nc_H) : nc_Call m_X2_copyFrom [.inr (.inr (2, aa)), .inr (.inr (2, ab))] w =
  nc_lt (nc_si w 2 aa 0 (w.1 2 ab 0)) fun w1 =>
  nc_lt (nc_si w1 2 aa 1 (w1.1 2 ab 1)) fun w2 =>
  nc_lt (nc_si w2 2 aa 2 (w2.1 2 ab 2)) fun w3 =>
  nc_lt (nc_si w3 2 aa 3 (w3.1 2 ab 3)) fun w4 =>
  nc_lt (nc_si w4 2 aa 4 (w4.1 2 ab 4)) fun w5 =>
  nc_lt (nc_si w5 2 aa 5 (w5.1 2 ab 5)) fun w6 =>
  nc_lt (nc_si w6 2 aa 6 (w6.1 2 ab 6)) fun w7 =>
  nc_lt (nc_si w7 2 aa 7 (w7.1 2 ab 7)) fun w8 =>
  nc_lt (nc_cpl w8 236 ab 0 236 aa 0 22) fun w9 =>
  nc_lt (nc_cpi w9 237 ab 0 237 aa 0 4) fun w10 =>
  nc_lt (nc_cpi w10 238 ab 0 238 aa 0 8) fun w11 =>
  nc_lt (nc_cpi w11 239 ab 0 239 aa 0 8) fun w12 =>
  nc_lt (nc_cpi w12 240 ab 0 240 aa 0 8) fun w13 =>
  nc_lt (nc_cpi w13 241 ab 0 241 aa 0 8) fun w14 =>
  nc_lt (nc_cpi w14 242 ab 0 242 aa 0 10) fun w15 =>
  nc_lt (nc_cpi w15 243 ab 0 243 aa 0 10) fun w16 =>
  nc_lt (nc_cpi w16 244 ab 0 244 aa 0 6) fun w17 =>
  nc_lt (nc_cpi w17 245 ab 0 245 aa 0 6) fun w18 =>
  nc_lt (nc_cpi w18 246 ab 0 246 aa 0 6) fun w19 =>
  some (none, w19) :=
  (nc_Call_eq _ _ _).trans ((if_pos (Nat.le_of_ble_eq_true rfl)).trans ((nc_Run_un [] 121).trans rfl))
set_option maxRecDepth 100000 in
theorem qc_X2_nextNewName (aa : Nat) (ab : Nat) (xc : Int32) (w : nc_H) : nc_Call m_X2_nextNewName [.inr (.inr (2, aa)), .inr (.inr (10, ab)), .inl xc] w =
  nc_bV (nc_Call m_X10_next [.inr (.inr (10, ab))] w) fun w1 =>
  if (w1.1 10 ab 11) = 3 then
    nc_bI (nc_Call m_X2_slotOf [.inr (.inr (2, aa)), .inr (.inl (w1.2 10 ab 13))] w1) fun r3 w2 =>
    if r3 ≠ (-1) then
      nc_bI (nc_Call m_X10_fail [.inr (.inr (10, ab)), .inl 3] w2) fun r5 w4 =>
      nc_z r5 <| some (some (.inl r5), w4)
    else
      if xc < 0 then
        nc_bI (nc_Call m_X10_fail [.inr (.inr (10, ab)), .inl 3] w2) fun r7 w6 =>
        nc_z r7 <| some (some (.inl r7), w6)
      else
        if xc < 22 then
          nc_bd xc 22 fun j8 =>
          nc_lt (nc_sl w2 236 aa j8 (w2.2 10 ab 13)) fun w9 =>
          some (some (.inl 1), w9)
        else
          nc_bI (nc_Call m_X10_fail [.inr (.inr (10, ab)), .inl 3] w2) fun r11 w10 =>
          nc_z r11 <| some (some (.inl r11), w10)
  else
    nc_bI (nc_Call m_X10_fail [.inr (.inr (10, ab)), .inl 1] w1) fun r13 w12 =>
    nc_z r13 <| some (some (.inl r13), w12) :=
  (nc_Call_eq _ _ _).trans ((if_pos (Nat.le_of_ble_eq_true rfl)).trans ((nc_Run_un [] 25).trans rfl))
set_option maxRecDepth 100000 in
theorem qc_X2_hasHedge (aa : Nat) (xb : Int32) (xc : Int32) (w : nc_H) : nc_Call m_X2_hasHedge [.inr (.inr (2, aa)), .inl xb, .inl xc] w =
  nc_bI (nc_Call m_X2_hedgesOf [.inr (.inr (2, aa)), .inl xb] w) fun r2 w1 =>
  nc_bI (nc_Call m_X2_hedgesOf [.inr (.inr (2, aa)), .inl xc] w1) fun r4 w3 =>
  if (r2 &&& r4) = 0 then
    some (some (.inl 0), w3)
  else
    some (some (.inl 1), w3) :=
  (nc_Call_eq _ _ _).trans ((if_pos (Nat.le_of_ble_eq_true rfl)).trans ((nc_Run_un [] 11).trans rfl))
set_option maxRecDepth 100000 in
theorem qc_X2_fewestBetween (aa : Nat) (xb : Int32) (xc : Int32) (w : nc_H) : nc_Call m_X2_fewestBetween [.inr (.inr (2, aa)), .inl xb, .inl xc] w =
  nc_li ((1 <<< ((w.1 2 aa 4) &&& 31)) - 1) fun x1 =>
  nc_Run m_X2_fewestBetween 12 [some (.inr (.inr (2, aa))), some (.inl xb), some (.inl xc), some (.inl x1), some (.inl 0)] [] w :=
  (nc_Call_eq _ _ _).trans ((if_pos (Nat.le_of_ble_eq_true rfl)).trans ((nc_Run_un [12] 10).trans rfl))
set_option maxRecDepth 100000 in
theorem qr_X2_fewestBetween_12 (aa : Nat) (xb : Int32) (xc : Int32) (xd : Int32) (xe : Int32) (w : nc_H) : nc_Run m_X2_fewestBetween 12 [some (.inr (.inr (2, aa))), some (.inl xb), some (.inl xc), some (.inl xd), some (.inl xe)] [] w =
  if (1 <<< ((w.1 2 aa 4) &&& 31)) ≤ xe then
    some (some (.inl xd), w)
  else
    nc_bI (nc_Call m_J6_bitCount_0f7a4 [.inl xe] w) fun r2 w1 =>
    nc_bI (nc_Call m_J6_bitCount_0f7a4 [.inl xd] w1) fun r4 w3 =>
    if r4 ≤ r2 then
      nc_li (xe + 1) fun x5 =>
      nc_Run m_X2_fewestBetween 12 [some (.inr (.inr (2, aa))), some (.inl xb), some (.inl xc), some (.inl xd), some (.inl x5)] [] w3
    else
      nc_bI (nc_Call m_X2_comesTo [.inr (.inr (2, aa)), .inl xb, .inl xc, .inl xe] w3) fun r7 w6 =>
      if r7 ≠ 0 then
        nc_li (xe + 1) fun x8 =>
        nc_Run m_X2_fewestBetween 12 [some (.inr (.inr (2, aa))), some (.inl xb), some (.inl xc), some (.inl xd), some (.inl x8)] [] w6
      else
        nc_li (xe + 1) fun x9 =>
        nc_Run m_X2_fewestBetween 12 [some (.inr (.inr (2, aa))), some (.inl xb), some (.inl xc), some (.inl xe), some (.inl x9)] [] w6 :=
  (nc_Run_un [12] 22).trans rfl
set_option maxRecDepth 100000 in
theorem qc_X3_readFarm (aa : Nat) (w : nc_H) : nc_Call m_X3_readFarm [.inr (.inr (3, aa))] w =
  nc_li (w.1 2 1 1) fun x1 =>
  if x1 < 4 then
    nc_bI (nc_Call m_X2_nextNewName [.inr (.inr (2, 1)), .inr (.inr (10, 0)), .inl (0 + x1)] w) fun r3 w2 =>
    if r3 ≠ 0 then
      nc_lt (nc_si w2 2 1 1 ((w2.1 2 1 1) + 1)) fun w4 =>
      nc_bI (nc_Call m_X10_closesLine [.inr (.inr (10, 0))] w4) fun r6 w5 =>
      nc_z r6 <| some (some (.inl r6), w5)
    else
      some (some (.inl 0), w2)
  else
    nc_bI (nc_Call m_X10_fail [.inr (.inr (10, 0)), .inl 4] w) fun r8 w7 =>
    nc_z r8 <| some (some (.inl r8), w7) :=
  (nc_Call_eq _ _ _).trans ((if_pos (Nat.le_of_ble_eq_true rfl)).trans ((nc_Run_un [] 27).trans rfl))
set_option maxRecDepth 100000 in
theorem qc_X3_readCow (aa : Nat) (w : nc_H) : nc_Call m_X3_readCow [.inr (.inr (3, aa))] w =
  nc_li (w.1 2 1 2) fun x1 =>
  if x1 < 8 then
    nc_bI (nc_Call m_X2_nextNewName [.inr (.inr (2, 1)), .inr (.inr (10, 0)), .inl (4 + x1)] w) fun r3 w2 =>
    if r3 ≠ 0 then
      nc_bV (nc_Call m_X10_next [.inr (.inr (10, 0))] w2) fun w4 =>
      nc_bI (nc_Call m_X2_named [.inr (.inr (2, 1)), .inr (.inr (10, 0)), .inl 0, .inl 4] w4) fun r6 w5 =>
      if r6 < 0 then
        some (some (.inl 0), w5)
      else
        if (4 : Int32) ≤ r6 then
          some (some (.inl 0), w5)
        else
          nc_bI (nc_Call m_X10_nextNumber [.inr (.inr (10, 0)), .inl 1, .inl 40] w5) fun r8 w7 =>
          if r8 ≠ 0 then
            nc_bd x1 8 fun j9 =>
            nc_lt (nc_si w7 238 1 j9 r6) fun w10 =>
            nc_bd r6 4 fun j11 =>
            nc_bd r6 4 fun j12 =>
            nc_lt (nc_si w10 237 1 j12 ((w10.1 237 1 j11) ||| (1 <<< (x1 &&& 31)))) fun w13 =>
            nc_bd x1 8 fun j14 =>
            nc_lt (nc_si w13 239 1 j14 (w13.1 10 0 12)) fun w15 =>
            nc_bI (nc_Call m_X10_nextNumber [.inr (.inr (10, 0)), .inl 1, .inl 9] w15) fun r17 w16 =>
            if r17 ≠ 0 then
              nc_bd x1 8 fun j18 =>
              nc_lt (nc_si w16 240 1 j18 (w16.1 10 0 12)) fun w19 =>
              nc_bI (nc_Call m_X10_nextNumber [.inr (.inr (10, 0)), .inl 1, .inl 30] w19) fun r21 w20 =>
              if r21 ≠ 0 then
                nc_bd x1 8 fun j22 =>
                nc_lt (nc_si w20 241 1 j22 (w20.1 10 0 12)) fun w23 =>
                nc_lt (nc_si w23 2 1 2 ((w23.1 2 1 2) + 1)) fun w24 =>
                nc_bI (nc_Call m_X10_closesLine [.inr (.inr (10, 0))] w24) fun r26 w25 =>
                nc_z r26 <| some (some (.inl r26), w25)
              else
                some (some (.inl 0), w20)
            else
              some (some (.inl 0), w16)
          else
            some (some (.inl 0), w7)
    else
      some (some (.inl 0), w2)
  else
    nc_bI (nc_Call m_X10_fail [.inr (.inr (10, 0)), .inl 4] w) fun r28 w27 =>
    nc_z r28 <| some (some (.inl r28), w27) :=
  (nc_Call_eq _ _ _).trans ((if_pos (Nat.le_of_ble_eq_true rfl)).trans ((nc_Run_un [] 102).trans rfl))
set_option maxRecDepth 100000 in
theorem qc_X3_readNews (aa : Nat) (w : nc_H) : nc_Call m_X3_readNews [.inr (.inr (3, aa))] w =
  nc_li (w.1 2 1 3) fun x1 =>
  if x1 < 10 then
    nc_bI (nc_Call m_X2_nextNewName [.inr (.inr (2, 1)), .inr (.inr (10, 0)), .inl (12 + x1)] w) fun r3 w2 =>
    if r3 ≠ 0 then
      nc_bV (nc_Call m_X10_next [.inr (.inr (10, 0))] w2) fun w4 =>
      nc_bI (nc_Call m_X10_word [.inr (.inr (10, 0))] w4) fun r6 w5 =>
      if r6 < 4 then
        nc_bI (nc_Call m_X10_fail [.inr (.inr (10, 0)), .inl 1] w5) fun r8 w7 =>
        nc_z r8 <| some (some (.inl r8), w7)
      else
        if r6 ≤ 7 then
          nc_bd x1 10 fun j9 =>
          nc_lt (nc_si w5 242 1 j9 (r6 - 4)) fun w10 =>
          nc_bd x1 10 fun j11 =>
          if (w10.1 242 1 j11) ≠ 2 then
            nc_bI (nc_Call m_X10_nextNumber [.inr (.inr (10, 0)), .inl 0, .inl 20] w10) fun r13 w12 =>
            if r13 ≠ 0 then
              nc_bd x1 10 fun j14 =>
              nc_lt (nc_si w12 243 1 j14 (w12.1 10 0 12)) fun w15 =>
              nc_lt (nc_si w15 2 1 3 ((w15.1 2 1 3) + 1)) fun w16 =>
              nc_bV (nc_Call m_X10_next [.inr (.inr (10, 0))] w16) fun w17 =>
              nc_bI (nc_Call m_X10_word [.inr (.inr (10, 0))] w17) fun r19 w18 =>
              if r19 ≠ 3 then
                nc_bI (nc_Call m_X10_mustBeSign [.inr (.inr (10, 0)), .inl 59] w18) fun r21 w20 =>
                nc_z r21 <| some (some (.inl r21), w20)
              else
                nc_lt (nc_si w18 2 1 6 ((w18.1 2 1 6) ||| (1 <<< (x1 &&& 31)))) fun w22 =>
                nc_bV (nc_Call m_X10_next [.inr (.inr (10, 0))] w22) fun w23 =>
                nc_bI (nc_Call m_X10_mustBeSign [.inr (.inr (10, 0)), .inl 59] w23) fun r25 w24 =>
                nc_z r25 <| some (some (.inl r25), w24)
            else
              some (some (.inl 0), w12)
          else
            nc_lt (nc_si w10 2 1 7 ((w10.1 2 1 7) ||| (1 <<< (x1 &&& 31)))) fun w26 =>
            nc_bI (nc_Call m_X10_nextNumber [.inr (.inr (10, 0)), .inl 0, .inl 20] w26) fun r28 w27 =>
            if r28 ≠ 0 then
              nc_bd x1 10 fun j29 =>
              nc_lt (nc_si w27 243 1 j29 (w27.1 10 0 12)) fun w30 =>
              nc_lt (nc_si w30 2 1 3 ((w30.1 2 1 3) + 1)) fun w31 =>
              nc_bV (nc_Call m_X10_next [.inr (.inr (10, 0))] w31) fun w32 =>
              nc_bI (nc_Call m_X10_word [.inr (.inr (10, 0))] w32) fun r34 w33 =>
              if r34 ≠ 3 then
                nc_bI (nc_Call m_X10_mustBeSign [.inr (.inr (10, 0)), .inl 59] w33) fun r36 w35 =>
                nc_z r36 <| some (some (.inl r36), w35)
              else
                nc_lt (nc_si w33 2 1 6 ((w33.1 2 1 6) ||| (1 <<< (x1 &&& 31)))) fun w37 =>
                nc_bV (nc_Call m_X10_next [.inr (.inr (10, 0))] w37) fun w38 =>
                nc_bI (nc_Call m_X10_mustBeSign [.inr (.inr (10, 0)), .inl 59] w38) fun r40 w39 =>
                nc_z r40 <| some (some (.inl r40), w39)
            else
              some (some (.inl 0), w27)
        else
          nc_bI (nc_Call m_X10_fail [.inr (.inr (10, 0)), .inl 1] w5) fun r42 w41 =>
          nc_z r42 <| some (some (.inl r42), w41)
    else
      some (some (.inl 0), w2)
  else
    nc_bI (nc_Call m_X10_fail [.inr (.inr (10, 0)), .inl 4] w) fun r44 w43 =>
    nc_z r44 <| some (some (.inl r44), w43) :=
  (nc_Call_eq _ _ _).trans ((if_pos (Nat.le_of_ble_eq_true rfl)).trans ((nc_Run_un [] 99).trans rfl))
set_option maxRecDepth 100000 in
theorem qc_X3_readHedge (aa : Nat) (w : nc_H) : nc_Call m_X3_readHedge [.inr (.inr (3, aa))] w =
  nc_bV (nc_Call m_X10_next [.inr (.inr (10, 0))] w) fun w1 =>
  nc_bI (nc_Call m_X2_named [.inr (.inr (2, 1)), .inr (.inr (10, 0)), .inl 0, .inl 4] w1) fun r3 w2 =>
  if (0 : Int32) ≤ r3 then
    nc_bV (nc_Call m_X10_next [.inr (.inr (10, 0))] w2) fun w4 =>
    nc_bI (nc_Call m_X2_named [.inr (.inr (2, 1)), .inr (.inr (10, 0)), .inl 0, .inl 4] w4) fun r6 w5 =>
    if (0 : Int32) ≤ r6 then
      nc_li (w5.1 2 1 4) fun x7 =>
      if r3 = r6 then
        nc_bI (nc_Call m_X10_fail [.inr (.inr (10, 0)), .inl 3] w5) fun r9 w8 =>
        nc_z r9 <| some (some (.inl r9), w8)
      else
        nc_bI (nc_Call m_X2_hasHedge [.inr (.inr (2, 1)), .inl r3, .inl r6] w5) fun r11 w10 =>
        if r11 ≠ 0 then
          nc_bI (nc_Call m_X10_fail [.inr (.inr (10, 0)), .inl 3] w10) fun r13 w12 =>
          nc_z r13 <| some (some (.inl r13), w12)
        else
          if x7 < 6 then
            nc_bI (nc_Call m_X10_nextNumber [.inr (.inr (10, 0)), .inl 1, .inl 9] w10) fun r15 w14 =>
            if r15 ≠ 0 then
              nc_bd x7 6 fun j16 =>
              nc_lt (nc_si w14 244 1 j16 r3) fun w17 =>
              nc_bd x7 6 fun j18 =>
              nc_lt (nc_si w17 245 1 j18 r6) fun w19 =>
              nc_bd x7 6 fun j20 =>
              nc_lt (nc_si w19 246 1 j20 (w19.1 10 0 12)) fun w21 =>
              nc_lt (nc_si w21 2 1 4 ((w21.1 2 1 4) + 1)) fun w22 =>
              nc_bI (nc_Call m_X10_closesLine [.inr (.inr (10, 0))] w22) fun r24 w23 =>
              nc_z r24 <| some (some (.inl r24), w23)
            else
              some (some (.inl 0), w14)
          else
            nc_bI (nc_Call m_X10_fail [.inr (.inr (10, 0)), .inl 3] w10) fun r26 w25 =>
            nc_z r26 <| some (some (.inl r26), w25)
    else
      some (some (.inl 0), w5)
  else
    some (some (.inl 0), w2) :=
  (nc_Call_eq _ _ _).trans ((if_pos (Nat.le_of_ble_eq_true rfl)).trans ((nc_Run_un [] 79).trans rfl))
set_option maxRecDepth 100000 in
theorem qc_X3_readHears (aa : Nat) (w : nc_H) : nc_Call m_X3_readHears [.inr (.inr (3, aa))] w =
  if (w.1 3 aa 2) = 0 then
    nc_bI (nc_Call m_X10_nextNumber [.inr (.inr (10, 0)), .inl 1, .inl 5] w) fun r2 w1 =>
    if r2 ≠ 0 then
      nc_lt (nc_si w1 3 aa 2 1) fun w3 =>
      nc_lt (nc_si w3 2 1 5 (w3.1 10 0 12)) fun w4 =>
      nc_bI (nc_Call m_X10_closesLine [.inr (.inr (10, 0))] w4) fun r6 w5 =>
      nc_z r6 <| some (some (.inl r6), w5)
    else
      some (some (.inl 0), w1)
  else
    nc_bI (nc_Call m_X10_fail [.inr (.inr (10, 0)), .inl 3] w) fun r8 w7 =>
    nc_z r8 <| some (some (.inl r8), w7) :=
  (nc_Call_eq _ _ _).trans ((if_pos (Nat.le_of_ble_eq_true rfl)).trans ((nc_Run_un [] 22).trans rfl))
set_option maxRecDepth 100000 in
theorem qc_X3_readLine (aa : Nat) (w : nc_H) : nc_Call m_X3_readLine [.inr (.inr (3, aa))] w =
  nc_bI (nc_Call m_X10_word [.inr (.inr (10, 0))] w) fun r2 w1 =>
  if r2 = 0 then
    nc_bI (nc_Call m_X3_readFarm [.inr (.inr (3, aa))] w1) fun r4 w3 =>
    nc_z r4 <| some (some (.inl r4), w3)
  else
  if r2 = 1 then
    nc_bI (nc_Call m_X3_readCow [.inr (.inr (3, aa))] w1) fun r6 w5 =>
    nc_z r6 <| some (some (.inl r6), w5)
  else
  if r2 = 2 then
    nc_bI (nc_Call m_X3_readNews [.inr (.inr (3, aa))] w1) fun r8 w7 =>
    nc_z r8 <| some (some (.inl r8), w7)
  else
  if r2 = 3 then
    nc_bI (nc_Call m_X10_fail [.inr (.inr (10, 0)), .inl 1] w1) fun r10 w9 =>
    nc_z r10 <| some (some (.inl r10), w9)
  else
  if r2 = 4 then
    nc_bI (nc_Call m_X10_fail [.inr (.inr (10, 0)), .inl 1] w1) fun r12 w11 =>
    nc_z r12 <| some (some (.inl r12), w11)
  else
  if r2 = 5 then
    nc_bI (nc_Call m_X10_fail [.inr (.inr (10, 0)), .inl 1] w1) fun r14 w13 =>
    nc_z r14 <| some (some (.inl r14), w13)
  else
  if r2 = 6 then
    nc_bI (nc_Call m_X10_fail [.inr (.inr (10, 0)), .inl 1] w1) fun r16 w15 =>
    nc_z r16 <| some (some (.inl r16), w15)
  else
  if r2 = 7 then
    nc_bI (nc_Call m_X10_fail [.inr (.inr (10, 0)), .inl 1] w1) fun r18 w17 =>
    nc_z r18 <| some (some (.inl r18), w17)
  else
  if r2 = 8 then
    nc_bI (nc_Call m_X3_readHedge [.inr (.inr (3, aa))] w1) fun r20 w19 =>
    nc_z r20 <| some (some (.inl r20), w19)
  else
  if r2 = 9 then
    nc_bI (nc_Call m_X3_readHears [.inr (.inr (3, aa))] w1) fun r22 w21 =>
    nc_z r22 <| some (some (.inl r22), w21)
  else
    nc_bI (nc_Call m_X10_fail [.inr (.inr (10, 0)), .inl 1] w1) fun r24 w23 =>
    nc_z r24 <| some (some (.inl r24), w23) :=
  (nc_Call_eq _ _ _).trans ((if_pos (Nat.le_of_ble_eq_true rfl)).trans ((nc_Run_un [] 9).trans rfl))
set_option maxRecDepth 100000 in
theorem qc_X3_read (aa : Nat) (w : nc_H) : nc_Call m_X3_read [.inr (.inr (3, aa))] w =
  nc_bV (nc_Call m_X2_clear [.inr (.inr (2, 1))] w) fun w1 =>
  nc_lt (nc_si w1 3 aa 2 0) fun w2 =>
  nc_bV (nc_Call m_X10_start [.inr (.inr (10, 0)), .inl 900] w2) fun w3 =>
  nc_Run m_X3_read 24 [some (.inr (.inr (3, aa))), some (.inl 0)] [] w3 :=
  (nc_Call_eq _ _ _).trans ((if_pos (Nat.le_of_ble_eq_true rfl)).trans ((nc_Run_un [24] 13).trans rfl))
set_option maxRecDepth 100000 in
theorem qr_X3_read_24 (aa : Nat) (xb : Int32) (w : nc_H) : nc_Run m_X3_read 24 [some (.inr (.inr (3, aa))), some (.inl xb)] [] w =
  if (900 : Int32) < xb then
    nc_bI (nc_Call m_X10_mustEnd [.inr (.inr (10, 0))] w) fun r2 w1 =>
    nc_z r2 <| some (some (.inl r2), w1)
  else
    nc_bI (nc_Call m_X10_nextLine [.inr (.inr (10, 0))] w) fun r4 w3 =>
    if r4 = 0 then
      nc_bI (nc_Call m_X10_mustEnd [.inr (.inr (10, 0))] w3) fun r6 w5 =>
      nc_z r6 <| some (some (.inl r6), w5)
    else
      nc_bI (nc_Call m_X3_readLine [.inr (.inr (3, aa))] w3) fun r8 w7 =>
      if r8 ≠ 0 then
        nc_lt (nc_si w7 2 1 0 ((w7.1 2 1 0) + 1)) fun w9 =>
        nc_li (xb + 1) fun x10 =>
        nc_Run m_X3_read 24 [some (.inr (.inr (3, aa))), some (.inl x10)] [] w9
      else
        some (some (.inl 0), w7) :=
  (nc_Run_un [24] 20).trans rfl
set_option maxRecDepth 100000 in
theorem qc_X4_tellAndFind (aa : Nat) (ab : Nat) (w : nc_H) : nc_Call m_X4_tellAndFind [.inr (.inr (4, aa)), .inr (.inr (7, ab))] w =
  nc_li (w.1 2 (nc_ld ab) 3) fun x1 =>
  if x1 ≠ 0 then
    nc_Run m_X4_tellAndFind 15 [some (.inr (.inr (4, aa))), some (.inr (.inr (7, ab))), some (.inl x1), some (.inl 0), none] [] w
  else
    some (none, w) :=
  (nc_Call_eq _ _ _).trans ((if_pos (Nat.le_of_ble_eq_true rfl)).trans ((nc_Run_un [15] 9).trans rfl))
set_option maxRecDepth 100000 in
theorem qr_X4_tellAndFind_15 (aa : Nat) (ab : Nat) (xc : Int32) (xd : Int32) (w : nc_H) : nc_Run m_X4_tellAndFind 15 [some (.inr (.inr (4, aa))), some (.inr (.inr (7, ab))), some (.inl xc), some (.inl xd), none] [] w =
  if (w.1 2 (nc_ld ab) 2) ≤ xd then
    nc_bI (nc_Call m_X4_draw [.inr (.inr (4, aa)), .inl 12] w) fun r2 w1 =>
    if r2 ≠ 0 then
      some (none, w1)
    else
      nc_bI (nc_Call m_X4_draw [.inr (.inr (4, aa)), .inl xc] w1) fun r4 w3 =>
      nc_bI (nc_Call m_X7_whyNotFound [.inr (.inr (7, ab)), .inl r4] w3) fun r6 w5 =>
      if r6 ≠ 0 then
        some (none, w5)
      else
        nc_bV (nc_Call m_X7_findOut [.inr (.inr (7, ab)), .inl r4] w5) fun w7 =>
        some (none, w7)
  else
    nc_bI (nc_Call m_X4_draw [.inr (.inr (4, aa)), .inl 3] w) fun r9 w8 =>
    if r9 ≠ 0 then
      nc_li (xd + 1) fun x10 =>
      nc_Run m_X4_tellAndFind 15 [some (.inr (.inr (4, aa))), some (.inr (.inr (7, ab))), some (.inl xc), some (.inl x10), none] [] w8
    else
      nc_bI (nc_Call m_X4_draw [.inr (.inr (4, aa)), .inl xc] w8) fun r12 w11 =>
      nc_bI (nc_Call m_X7_whyNotTold [.inr (.inr (7, ab)), .inl xd, .inl r12] w11) fun r14 w13 =>
      if r14 ≠ 0 then
        nc_li (xd + 1) fun x15 =>
        nc_Run m_X4_tellAndFind 15 [some (.inr (.inr (4, aa))), some (.inr (.inr (7, ab))), some (.inl xc), some (.inl x15), none] [] w13
      else
        nc_bV (nc_Call m_X7_hear [.inr (.inr (7, ab)), .inl xd, .inl r12] w13) fun w16 =>
        nc_li (xd + 1) fun x17 =>
        nc_Run m_X4_tellAndFind 15 [some (.inr (.inr (4, aa))), some (.inr (.inr (7, ab))), some (.inl xc), some (.inl x17), none] [] w16 :=
  (nc_Run_un [15] 25).trans rfl
set_option maxRecDepth 100000 in
theorem qc_X5_keep (aa : Nat) (ab : Nat) (w : nc_H) : nc_Call m_X5_keep [.inr (.inr (5, aa)), .inr (.inr (7, ab))] w =
  nc_lt (nc_si w 5 aa 1 (((w.1 5 aa 1) + 1) - ((w.1 5 aa 1) + 1) / 8 * 8)) fun w1 =>
  nc_bd (w1.1 5 aa 1) 8 fun j2 =>
  nc_bV (nc_Call m_X7_copyFrom [.inr (.inr (7, 2 + j2)), .inr (.inr (7, ab))] w1) fun w3 =>
  nc_lt (nc_si w3 5 aa 2 (if (8 : Int32) < ((w3.1 5 aa 2) + 1) then (8 : Int32) else ((w3.1 5 aa 2) + 1))) fun w4 =>
  some (none, w4) :=
  (nc_Call_eq _ _ _).trans ((if_pos (Nat.le_of_ble_eq_true rfl)).trans ((nc_Run_un [] 28).trans rfl))
set_option maxRecDepth 100000 in
theorem qc_X5_takeBack (aa : Nat) (ab : Nat) (w : nc_H) : nc_Call m_X5_takeBack [.inr (.inr (5, aa)), .inr (.inr (7, ab))] w =
  nc_bd (w.1 5 aa 1) 8 fun j1 =>
  if (w.1 5 aa 2) = 0 then
    some (some (.inl (-1)), w)
  else
    nc_bV (nc_Call m_X7_copyFrom [.inr (.inr (7, ab)), .inr (.inr (7, 2 + j1))] w) fun w2 =>
    nc_lt (nc_si w2 5 aa 1 ((((w2.1 5 aa 1) + 8) - 1) - (((w2.1 5 aa 1) + 8) - 1) / 8 * 8)) fun w3 =>
    nc_lt (nc_si w3 5 aa 2 ((w3.1 5 aa 2) - 1)) fun w4 =>
    some (some (.inl (w4.1 5 aa 2)), w4) :=
  (nc_Call_eq _ _ _).trans ((if_pos (Nat.le_of_ble_eq_true rfl)).trans ((nc_Run_un [] 33).trans rfl))
set_option maxRecDepth 100000 in
theorem qc_X7_clear (aa : Nat) (w : nc_H) : nc_Call m_X7_clear [.inr (.inr (7, aa))] w =
  nc_lt (nc_si w 7 aa 1 0) fun w1 =>
  nc_lt (nc_si w1 7 aa 2 0) fun w2 =>
  nc_lt (nc_si w2 7 aa 3 0) fun w3 =>
  nc_lt (nc_si w3 7 aa 4 0) fun w4 =>
  nc_bV (nc_Call m_J7_fill_53178 [.inr (.inr (554, aa)), .inl 0] w4) fun w5 =>
  nc_bV (nc_Call m_J7_fill_53178 [.inr (.inr (555, aa)), .inl 0] w5) fun w6 =>
  nc_bV (nc_Call m_J7_fill_53178 [.inr (.inr (556, aa)), .inl 0] w6) fun w7 =>
  nc_bV (nc_Call m_J7_fill_53178 [.inr (.inr (557, aa)), .inl 0] w7) fun w8 =>
  nc_bV (nc_Call m_J7_fill_53178 [.inr (.inr (558, aa)), .inl (-100)] w8) fun w9 =>
  nc_bV (nc_Call m_J7_fill_53178 [.inr (.inr (559, aa)), .inl 0] w9) fun w10 =>
  nc_bV (nc_Call m_J7_fill_53178 [.inr (.inr (560, aa)), .inl 0] w10) fun w11 =>
  nc_bV (nc_Call m_J7_fill_53178 [.inr (.inr (561, aa)), .inl 0] w11) fun w12 =>
  some (none, w12) :=
  (nc_Call_eq _ _ _).trans ((if_pos (Nat.le_of_ble_eq_true rfl)).trans ((nc_Run_un [] 45).trans rfl))
set_option maxRecDepth 100000 in
theorem qc_X8_seek (aa : Nat) (ab : Nat) (xc : Int32) (xd : Int32) (w : nc_H) : nc_Call m_X8_seek [.inr (.inr (8, aa)), .inr (.inr (7, ab)), .inl xc, .inl xd] w =
  nc_lt (nc_si w 8 aa 5 xd) fun w1 =>
  nc_lt (nc_si w1 8 aa 6 (-1)) fun w2 =>
  nc_bV (nc_Call m_X8_go_0 [.inr (.inr (8, aa)), .inr (.inr (7, ab)), .inl xc, .inl 0, .inl 0] w2) fun w3 =>
  some (some (.inl (w3.1 8 aa 6)), w3) :=
  (nc_Call_eq _ _ _).trans ((if_pos (Nat.le_of_ble_eq_true rfl)).trans ((nc_Run_un [] 15).trans rfl))
set_option maxRecDepth 100000 in
theorem qc_X9_copyFrom (aa : Nat) (ab : Nat) (w : nc_H) : nc_Call m_X9_copyFrom [.inr (.inr (9, aa)), .inr (.inr (9, ab))] w =
  nc_lt (nc_si w 9 aa 3 (w.1 9 ab 3)) fun w1 =>
  nc_lt (nc_si w1 9 aa 4 (w1.1 9 ab 4)) fun w2 =>
  nc_lt (nc_cpi w2 676 ab 0 676 aa 0 40) fun w3 =>
  nc_lt (nc_cpi w3 677 ab 0 677 aa 0 40) fun w4 =>
  nc_lt (nc_cpi w4 678 ab 0 678 aa 0 40) fun w5 =>
  some (none, w5) :=
  (nc_Call_eq _ _ _).trans ((if_pos (Nat.le_of_ble_eq_true rfl)).trans ((nc_Run_un [] 33).trans rfl))
set_option maxRecDepth 100000 in
theorem qc_X9_read (aa : Nat) (ab : Nat) (ac : Nat) (w : nc_H) : nc_Call m_X9_read [.inr (.inr (9, aa)), .inr (.inr (10, ab)), .inr (.inr (2, ac))] w =
  nc_bV (nc_Call m_X9_clear [.inr (.inr (9, aa))] w) fun w1 =>
  nc_bV (nc_Call m_X10_start [.inr (.inr (10, ab)), .inl 200] w1) fun w2 =>
  nc_bV (nc_Call m_X10_next [.inr (.inr (10, ab))] w2) fun w3 =>
  nc_bI (nc_Call m_X9_readCond_1 [.inr (.inr (9, aa)), .inr (.inr (10, ab)), .inr (.inr (2, ac)), .inl 1] w3) fun r5 w4 =>
  if r5 = 0 then
    some (some (.inl 0), w4)
  else
    nc_bI (nc_Call m_X10_mustEnd [.inr (.inr (10, ab))] w4) fun r7 w6 =>
    if r7 = 0 then
      some (some (.inl 0), w6)
    else
      some (some (.inl 1), w6) :=
  (nc_Call_eq _ _ _).trans ((if_pos (Nat.le_of_ble_eq_true rfl)).trans ((nc_Run_un [] 19).trans rfl))
set_option maxRecDepth 100000 in
theorem qc_X9_isSo (aa : Nat) (ab : Nat) (xc : Int32) (xd : Int32) (w : nc_H) : nc_Call m_X9_isSo [.inr (.inr (9, aa)), .inr (.inr (7, ab)), .inl xc, .inl xd] w =
  nc_bd xd 40 fun j1 =>
  if (w.1 676 aa j1) = 15 then
    nc_bI (nc_Call m_X7_isDry [.inr (.inr (7, ab)), .inl xc] w) fun r3 w2 =>
    nc_z r3 <| some (some (.inl r3), w2)
  else
  if (w.1 676 aa j1) = 16 then
    nc_bI (nc_Call m_X7_isCurdled [.inr (.inr (7, ab)), .inl xc] w) fun r5 w4 =>
    nc_z r5 <| some (some (.inl r5), w4)
  else
  if (w.1 676 aa j1) = 17 then
    nc_bd xc 8 fun j6 =>
    nc_bd xd 40 fun j7 =>
    if (w.1 238 (nc_ld ab) j6) ≠ (w.1 678 aa j7) then
      some (some (.inl 0), w)
    else
      some (some (.inl 1), w)
  else
  if (w.1 676 aa j1) = 18 then
    nc_bd xc 8 fun j8 =>
    nc_bd xd 40 fun j9 =>
    if (((w.1 554 ab j8) >>> ((w.1 678 aa j9) &&& 31)) &&& 1) ≠ 1 then
      some (some (.inl 0), w)
    else
      some (some (.inl 1), w)
  else
  if (w.1 676 aa j1) = 19 then
    nc_bd xc 8 fun j10 =>
    nc_bd xd 40 fun j11 =>
    if (((w.1 555 ab j10) >>> ((w.1 678 aa j11) &&& 31)) &&& 1) ≠ 1 then
      some (some (.inl 0), w)
    else
      some (some (.inl 1), w)
  else
  if (w.1 676 aa j1) = 20 then
    nc_bI (nc_Call m_X7_milk [.inr (.inr (7, ab)), .inl xc] w) fun r13 w12 =>
    nc_bI (nc_Call m_X9_compares [.inr (.inr (9, aa)), .inl r13, .inl xd] w12) fun r15 w14 =>
    nc_z r15 <| some (some (.inl r15), w14)
  else
  if (w.1 676 aa j1) = 21 then
    nc_bd xc 8 fun j16 =>
    nc_bI (nc_Call m_X9_compares [.inr (.inr (9, aa)), .inl (w.1 560 ab j16), .inl xd] w) fun r18 w17 =>
    nc_z r18 <| some (some (.inl r18), w17)
  else
  if (w.1 676 aa j1) = 22 then
    nc_bd xc 8 fun j19 =>
    nc_bI (nc_Call m_X9_compares [.inr (.inr (9, aa)), .inl (w.1 559 ab j19), .inl xd] w) fun r21 w20 =>
    nc_z r21 <| some (some (.inl r21), w20)
  else
    nc_bI (nc_Call m_X9_compares [.inr (.inr (9, aa)), .inl xc, .inl xd] w) fun r23 w22 =>
    nc_z r23 <| some (some (.inl r23), w22) :=
  (nc_Call_eq _ _ _).trans ((if_pos (Nat.le_of_ble_eq_true rfl)).trans ((nc_Run_un [] 21).trans rfl))
set_option maxRecDepth 100000 in
theorem qc_X9_holds (aa : Nat) (ab : Nat) (xc : Int32) (w : nc_H) : nc_Call m_X9_holds [.inr (.inr (9, aa)), .inr (.inr (7, ab)), .inl xc] w =
  nc_Run m_X9_holds 5 [some (.inr (.inr (9, aa))), some (.inr (.inr (7, ab))), some (.inl xc), some (.inl 0), some (.inl 0), none] [] w :=
  (nc_Call_eq _ _ _).trans ((if_pos (Nat.le_of_ble_eq_true rfl)).trans ((nc_Run_un [5] 5).trans rfl))
set_option maxRecDepth 100000 in
theorem qr_X9_holds_5 (aa : Nat) (ab : Nat) (xc : Int32) (xd : Int32) (xe : Int32) (w : nc_H) : nc_Run m_X9_holds 5 [some (.inr (.inr (9, aa))), some (.inr (.inr (7, ab))), some (.inl xc), some (.inl xd), some (.inl xe), none] [] w =
  if (w.1 9 aa 3) ≤ xe then
    if (xd &&& 1) ≠ 1 then
      some (some (.inl 0), w)
    else
      some (some (.inl 1), w)
  else
    nc_li (xd &&& 1) fun x1 =>
    nc_bd xe 40 fun j2 =>
    if (w.1 676 aa j2) ≠ 12 then
      nc_bd xe 40 fun j3 =>
      if (w.1 676 aa j3) ≠ 13 then
        nc_bd xe 40 fun j4 =>
        if (w.1 676 aa j4) ≠ 14 then
          nc_bI (nc_Call m_X9_isSo [.inr (.inr (9, aa)), .inr (.inr (7, ab)), .inl xc, .inl xe] w) fun r6 w5 =>
          if r6 = 0 then
            nc_li ((xd <<< (1 &&& 31)) ||| 0) fun x7 =>
            nc_li (xe + 1) fun x8 =>
            nc_Run m_X9_holds 5 [some (.inr (.inr (9, aa))), some (.inr (.inr (7, ab))), some (.inl xc), some (.inl x7), some (.inl x8), none] [] w5
          else
            nc_li ((xd <<< (1 &&& 31)) ||| 1) fun x9 =>
            nc_li (xe + 1) fun x10 =>
            nc_Run m_X9_holds 5 [some (.inr (.inr (9, aa))), some (.inr (.inr (7, ab))), some (.inl xc), some (.inl x9), some (.inl x10), none] [] w5
        else
          nc_li (xd ^^^ 1) fun x11 =>
          nc_li (xe + 1) fun x12 =>
          nc_Run m_X9_holds 5 [some (.inr (.inr (9, aa))), some (.inr (.inr (7, ab))), some (.inl xc), some (.inl x11), some (.inl x12), none] [] w
      else
        nc_li ((xd >>> (1 &&& 31)) &&& (x1 ||| (-2))) fun x13 =>
        nc_li (xe + 1) fun x14 =>
        nc_Run m_X9_holds 5 [some (.inr (.inr (9, aa))), some (.inr (.inr (7, ab))), some (.inl xc), some (.inl x13), some (.inl x14), none] [] w
    else
      nc_li ((xd >>> (1 &&& 31)) ||| x1) fun x15 =>
      nc_li (xe + 1) fun x16 =>
      nc_Run m_X9_holds 5 [some (.inr (.inr (9, aa))), some (.inr (.inr (7, ab))), some (.inl xc), some (.inl x15), some (.inl x16), none] [] w :=
  (nc_Run_un [5] 42).trans rfl
set_option maxRecDepth 100000 in
theorem qc_X11_feed (aa : Nat) (xb : Int32) (xc : Int32) (xd : Int32) (xe : Int32) (xf : Int32) (w : nc_H) : nc_Call m_X11_feed [.inr (.inr (11, aa)), .inl xb, .inl xc, .inl xd, .inl xe, .inl xf] w =
  if ((w.1 10 0 1) + 20) ≤ 940 then
    nc_bV (nc_Call m_X10_append [.inr (.inr (10, 0)), .inl xb] w) fun w1 =>
    nc_bV (nc_Call m_X10_append [.inr (.inr (10, 0)), .inl xc] w1) fun w2 =>
    nc_bV (nc_Call m_X10_append [.inr (.inr (10, 0)), .inl xd] w2) fun w3 =>
    nc_bV (nc_Call m_X10_append [.inr (.inr (10, 0)), .inl xe] w3) fun w4 =>
    nc_bV (nc_Call m_X10_append [.inr (.inr (10, 0)), .inl xf] w4) fun w5 =>
    some (some (.inl (w5.1 10 0 1)), w5)
  else
    some (some (.inl (-1)), w) :=
  (nc_Call_eq _ _ _).trans ((if_pos (Nat.le_of_ble_eq_true rfl)).trans ((nc_Run_un [] 31).trans rfl))
set_option maxRecDepth 100000 in
theorem qc_X11_dairy (aa : Nat) (w : nc_H) : nc_Call m_X11_dairy [.inr (.inr (11, aa))] w =
  nc_bI (nc_Call m_X3_read [.inr (.inr (3, 0))] w) fun r2 w1 =>
  nc_lt (nc_si w1 10 0 1 0) fun w3 =>
  if r2 ≠ 0 then
    nc_bV (nc_Call m_X2_copyFrom [.inr (.inr (2, 0)), .inr (.inr (2, 1))] w3) fun w4 =>
    nc_bV (nc_Call m_X7_clear [.inr (.inr (7, 0))] w4) fun w5 =>
    nc_bV (nc_Call m_X9_clear [.inr (.inr (9, 0))] w5) fun w6 =>
    nc_bV (nc_Call m_X5_clear [.inr (.inr (5, 0))] w6) fun w7 =>
    some (some (.inl (w7.1 2 0 0)), w7)
  else
    some (some (.inl ((-1) - (w3.1 10 0 15))), w3) :=
  (nc_Call_eq _ _ _).trans ((if_pos (Nat.le_of_ble_eq_true rfl)).trans ((nc_Run_un [] 28).trans rfl))
set_option maxRecDepth 100000 in
theorem qc_X11_cow (aa : Nat) (xb : Int32) (xc : Int32) (w : nc_H) : nc_Call m_X11_cow [.inr (.inr (11, aa)), .inl xb, .inl xc] w =
  nc_bI (nc_Call m_X11_isCow [.inr (.inr (11, aa)), .inl xb] w) fun r2 w1 =>
  if r2 = 0 then
    none
  else
    if xc < 0 then
      none
    else
      if xc ≤ 7 then
        if xc = 0 then
          nc_bd xb 8 fun j3 =>
          some (some (.inl (w1.1 238 0 j3)), w1)
        else
        if xc = 1 then
          nc_bI (nc_Call m_X7_isDry [.inr (.inr (7, 0)), .inl xb] w1) fun r5 w4 =>
          if r5 = 0 then
            some (some (.inl 0), w4)
          else
            some (some (.inl 1), w4)
        else
        if xc = 2 then
          nc_bI (nc_Call m_X7_isCurdled [.inr (.inr (7, 0)), .inl xb] w1) fun r7 w6 =>
          if r7 = 0 then
            some (some (.inl 0), w6)
          else
            some (some (.inl 1), w6)
        else
        if xc = 3 then
          nc_bd xb 8 fun j8 =>
          some (some (.inl (w1.1 559 0 j8)), w1)
        else
        if xc = 4 then
          nc_bd xb 8 fun j9 =>
          some (some (.inl (w1.1 555 0 j9)), w1)
        else
        if xc = 5 then
          nc_bd xb 8 fun j10 =>
          some (some (.inl (w1.1 554 0 j10)), w1)
        else
        if xc = 6 then
          nc_bI (nc_Call m_X7_milk [.inr (.inr (7, 0)), .inl xb] w1) fun r12 w11 =>
          some (some (.inl r12), w11)
        else
          nc_bd xb 8 fun j13 =>
          some (some (.inl (w1.1 560 0 j13)), w1)
      else
        none :=
  (nc_Call_eq _ _ _).trans ((if_pos (Nat.le_of_ble_eq_true rfl)).trans ((nc_Run_un [] 19).trans rfl))
set_option maxRecDepth 100000 in
theorem qc_X11_news (aa : Nat) (xb : Int32) (xc : Int32) (w : nc_H) : nc_Call m_X11_news [.inr (.inr (11, aa)), .inl xb, .inl xc] w =
  nc_bI (nc_Call m_X11_isNews [.inr (.inr (11, aa)), .inl xb] w) fun r2 w1 =>
  if r2 ≠ 0 then
    if xc = 0 then
      nc_bd xb 10 fun j3 =>
      some (some (.inl (w1.1 242 0 j3)), w1)
    else
    if xc = 1 then
      nc_bd xb 10 fun j4 =>
      some (some (.inl (w1.1 243 0 j4)), w1)
    else
    if xc = 2 then
      nc_bI (nc_Call m_X2_isLie [.inr (.inr (2, 0)), .inl xb] w1) fun r6 w5 =>
      if r6 = 0 then
        some (some (.inl 0), w5)
      else
        some (some (.inl 1), w5)
    else
    if xc = 3 then
      some (some (.inl (((w1.1 7 0 4) >>> (xb &&& 31)) &&& 1)), w1)
    else
    if xc = 4 then
      nc_bI (nc_Call m_X11_cowsWith [.inr (.inr (11, aa)), .inr (.inr (555, 0)), .inl xb] w1) fun r8 w7 =>
      some (some (.inl r8), w7)
    else
    if xc = 5 then
      nc_bI (nc_Call m_X11_cowsWith [.inr (.inr (11, aa)), .inr (.inr (554, 0)), .inl xb] w1) fun r10 w9 =>
      some (some (.inl r10), w9)
    else
      some (some (.inl (-1)), w1)
  else
    some (some (.inl (-1)), w1) :=
  (nc_Call_eq _ _ _).trans ((if_pos (Nat.le_of_ble_eq_true rfl)).trans ((nc_Run_un [] 14).trans rfl))
set_option maxRecDepth 100000 in
theorem qc_X11_milkOfFarm (aa : Nat) (xb : Int32) (w : nc_H) : nc_Call m_X11_milkOfFarm [.inr (.inr (11, aa)), .inl xb] w =
  nc_Run m_X11_milkOfFarm 4 [some (.inr (.inr (11, aa))), some (.inl xb), some (.inl 0), some (.inl 0)] [] w :=
  (nc_Call_eq _ _ _).trans ((if_pos (Nat.le_of_ble_eq_true rfl)).trans ((nc_Run_un [4] 5).trans rfl))
set_option maxRecDepth 100000 in
theorem qr_X11_milkOfFarm_4 (aa : Nat) (xb : Int32) (xc : Int32) (xd : Int32) (w : nc_H) : nc_Run m_X11_milkOfFarm 4 [some (.inr (.inr (11, aa))), some (.inl xb), some (.inl xc), some (.inl xd)] [] w =
  if (w.1 2 0 2) ≤ xd then
    some (some (.inl xc), w)
  else
    nc_bd xd 8 fun j1 =>
    if (w.1 238 0 j1) ≠ xb then
      nc_li (xd + 1) fun x2 =>
      nc_Run m_X11_milkOfFarm 4 [some (.inr (.inr (11, aa))), some (.inl xb), some (.inl xc), some (.inl x2)] [] w
    else
      nc_bI (nc_Call m_X7_milk [.inr (.inr (7, 0)), .inl xd] w) fun r4 w3 =>
      nc_li (xc + r4) fun x5 =>
      nc_li (xd + 1) fun x6 =>
      nc_Run m_X11_milkOfFarm 4 [some (.inr (.inr (11, aa))), some (.inl xb), some (.inl x5), some (.inl x6)] [] w3 :=
  (nc_Run_un [4] 22).trans rfl
set_option maxRecDepth 100000 in
theorem qc_X11_farm (aa : Nat) (xb : Int32) (xc : Int32) (w : nc_H) : nc_Call m_X11_farm [.inr (.inr (11, aa)), .inl xb, .inl xc] w =
  nc_bI (nc_Call m_X11_isFarm [.inr (.inr (11, aa)), .inl xb] w) fun r2 w1 =>
  if r2 = 0 then
    none
  else
    if xc < 0 then
      none
    else
      if xc ≤ 3 then
        if xc = 0 then
          nc_bd xb 4 fun j3 =>
          some (some (.inl (w1.1 237 0 j3)), w1)
        else
        if xc = 1 then
          nc_bd xb 4 fun j4 =>
          some (some (.inl (w1.1 561 0 j4)), w1)
        else
        if xc = 2 then
          nc_bI (nc_Call m_X11_milkOfFarm [.inr (.inr (11, aa)), .inl xb] w1) fun r6 w5 =>
          some (some (.inl r6), w5)
        else
          nc_bI (nc_Call m_X2_hedgesOf [.inr (.inr (2, 0)), .inl xb] w1) fun r8 w7 =>
          some (some (.inl r8), w7)
      else
        none :=
  (nc_Call_eq _ _ _).trans ((if_pos (Nat.le_of_ble_eq_true rfl)).trans ((nc_Run_un [] 17).trans rfl))
set_option maxRecDepth 100000 in
theorem qc_X11_now (aa : Nat) (xb : Int32) (w : nc_H) : nc_Call m_X11_now [.inr (.inr (11, aa)), .inl xb] w =
  if xb = 0 then
    some (some (.inl (w.1 7 0 1)), w)
  else
  if xb = 1 then
    some (some (.inl (w.1 7 0 3)), w)
  else
  if xb = 2 then
    some (some (.inl (w.1 7 0 4)), w)
  else
  if xb = 3 then
    nc_bI (nc_Call m_X7_allPails [.inr (.inr (7, 0))] w) fun r2 w1 =>
    some (some (.inl r2), w1)
  else
  if xb = 4 then
    some (some (.inl (w.1 7 0 2)), w)
  else
  if xb = 5 then
    nc_bI (nc_Call m_X7_talking [.inr (.inr (7, 0))] w) fun r4 w3 =>
    some (some (.inl r4), w3)
  else
    some (some (.inl (-1)), w) :=
  (nc_Call_eq _ _ _).trans ((if_pos (Nat.le_of_ble_eq_true rfl)).trans ((nc_Run_un [] 6).trans rfl))
set_option maxRecDepth 100000 in
theorem qc_X11_why (aa : Nat) (xb : Int32) (xc : Int32) (w : nc_H) : nc_Call m_X11_why [.inr (.inr (11, aa)), .inl xb, .inl xc] w =
  nc_bI (nc_Call m_X11_isCow [.inr (.inr (11, aa)), .inl xb] w) fun r2 w1 =>
  if r2 = 0 then
    some (some (.inl (-1)), w1)
  else
    nc_bI (nc_Call m_X11_isNews [.inr (.inr (11, aa)), .inl xc] w1) fun r4 w3 =>
    if r4 = 0 then
      some (some (.inl (-1)), w3)
    else
      nc_bI (nc_Call m_X7_whyNotTold [.inr (.inr (7, 0)), .inl xb, .inl xc] w3) fun r6 w5 =>
      some (some (.inl r6), w5) :=
  (nc_Call_eq _ _ _).trans ((if_pos (Nat.le_of_ble_eq_true rfl)).trans ((nc_Run_un [] 15).trans rfl))
set_option maxRecDepth 100000 in
theorem qc_X11_tell (aa : Nat) (xb : Int32) (xc : Int32) (w : nc_H) : nc_Call m_X11_tell [.inr (.inr (11, aa)), .inl xb, .inl xc] w =
  nc_bI (nc_Call m_X11_why [.inr (.inr (11, aa)), .inl xb, .inl xc] w) fun r2 w1 =>
  if r2 ≠ 0 then
    some (some (.inl r2), w1)
  else
    nc_bV (nc_Call m_X5_keep [.inr (.inr (5, 0)), .inr (.inr (7, 0))] w1) fun w3 =>
    nc_bV (nc_Call m_X7_hear [.inr (.inr (7, 0)), .inl xb, .inl xc] w3) fun w4 =>
    some (some (.inl r2), w4) :=
  (nc_Call_eq _ _ _).trans ((if_pos (Nat.le_of_ble_eq_true rfl)).trans ((nc_Run_un [] 19).trans rfl))
set_option maxRecDepth 100000 in
theorem qc_X11_find (aa : Nat) (xb : Int32) (w : nc_H) : nc_Call m_X11_find [.inr (.inr (11, aa)), .inl xb] w =
  nc_bI (nc_Call m_X11_isNews [.inr (.inr (11, aa)), .inl xb] w) fun r2 w1 =>
  if r2 ≠ 0 then
    nc_bI (nc_Call m_X7_whyNotFound [.inr (.inr (7, 0)), .inl xb] w1) fun r4 w3 =>
    if r4 ≠ 0 then
      some (some (.inl r4), w3)
    else
      nc_bV (nc_Call m_X5_keep [.inr (.inr (5, 0)), .inr (.inr (7, 0))] w3) fun w5 =>
      nc_bV (nc_Call m_X7_findOut [.inr (.inr (7, 0)), .inl xb] w5) fun w6 =>
      some (some (.inl r4), w6)
  else
    some (some (.inl (-1)), w1) :=
  (nc_Call_eq _ _ _).trans ((if_pos (Nat.le_of_ble_eq_true rfl)).trans ((nc_Run_un [] 22).trans rfl))
set_option maxRecDepth 100000 in
theorem qc_X11_days (aa : Nat) (xb : Int32) (w : nc_H) : nc_Call m_X11_days [.inr (.inr (11, aa)), .inl xb] w =
  if xb < 1 then
    some (some (.inl (-1)), w)
  else
    if xb ≤ 60 then
      if (400 : Int32) ≤ (w.1 7 0 1) then
        nc_bI (nc_Call m_X7_goDays [.inr (.inr (7, 0)), .inl xb] w) fun r2 w1 =>
        some (some (.inl r2), w1)
      else
        nc_bV (nc_Call m_X5_keep [.inr (.inr (5, 0)), .inr (.inr (7, 0))] w) fun w3 =>
        nc_bI (nc_Call m_X7_goDays [.inr (.inr (7, 0)), .inl xb] w3) fun r5 w4 =>
        some (some (.inl r5), w4)
    else
      some (some (.inl (-1)), w) :=
  (nc_Call_eq _ _ _).trans ((if_pos (Nat.le_of_ble_eq_true rfl)).trans ((nc_Run_un [] 21).trans rfl))
set_option maxRecDepth 100000 in
theorem qc_X11_undo (aa : Nat) (w : nc_H) : nc_Call m_X11_undo [.inr (.inr (11, aa))] w =
  nc_bI (nc_Call m_X5_takeBack [.inr (.inr (5, 0)), .inr (.inr (7, 0))] w) fun r2 w1 =>
  some (some (.inl r2), w1) :=
  (nc_Call_eq _ _ _).trans ((if_pos (Nat.le_of_ble_eq_true rfl)).trans ((nc_Run_un [] 6).trans rfl))
set_option maxRecDepth 100000 in
theorem qc_X11_canBeTold (aa : Nat) (xb : Int32) (w : nc_H) : nc_Call m_X11_canBeTold [.inr (.inr (11, aa)), .inl xb] w =
  nc_bI (nc_Call m_X11_isCow [.inr (.inr (11, aa)), .inl xb] w) fun r2 w1 =>
  if r2 = 0 then
    some (some (.inl 0), w1)
  else
    nc_bI (nc_Call m_X7_isDry [.inr (.inr (7, 0)), .inl xb] w1) fun r4 w3 =>
    if r4 ≠ 0 then
      some (some (.inl 0), w3)
    else
      some (some (.inl 1), w3) :=
  (nc_Call_eq _ _ _).trans ((if_pos (Nat.le_of_ble_eq_true rfl)).trans ((nc_Run_un [] 12).trans rfl))
set_option maxRecDepth 100000 in
theorem qc_X11_best (aa : Nat) (xb : Int32) (w : nc_H) : nc_Call m_X11_best [.inr (.inr (11, aa)), .inl xb] w =
  nc_bI (nc_Call m_X11_canBeTold [.inr (.inr (11, aa)), .inl xb] w) fun r2 w1 =>
  if r2 = 0 then
    some (some (.inl (-1)), w1)
  else
    nc_bI (nc_Call m_X1_most [.inr (.inr (1, 0)), .inl xb] w1) fun r4 w3 =>
    some (some (.inl r4), w3) :=
  (nc_Call_eq _ _ _).trans ((if_pos (Nat.le_of_ble_eq_true rfl)).trans ((nc_Run_un [] 10).trans rfl))
set_option maxRecDepth 100000 in
theorem qc_X11_least (aa : Nat) (xb : Int32) (xc : Int32) (w : nc_H) : nc_Call m_X11_least [.inr (.inr (11, aa)), .inl xb, .inl xc] w =
  nc_bI (nc_Call m_X11_canBeTold [.inr (.inr (11, aa)), .inl xb] w) fun r2 w1 =>
  if r2 = 0 then
    some (some (.inl (-1)), w1)
  else
    if xc < 0 then
      some (some (.inl (-1)), w1)
    else
      if (999 : Int32) < xc then
        some (some (.inl (-1)), w1)
      else
        nc_bI (nc_Call m_X1_fewestLies [.inr (.inr (1, 0)), .inl xb, .inl xc] w1) fun r4 w3 =>
        some (some (.inl r4), w3) :=
  (nc_Call_eq _ _ _).trans ((if_pos (Nat.le_of_ble_eq_true rfl)).trans ((nc_Run_un [] 16).trans rfl))
set_option maxRecDepth 100000 in
theorem qc_X11_honest (aa : Nat) (xb : Int32) (w : nc_H) : nc_Call m_X11_honest [.inr (.inr (11, aa)), .inl xb] w =
  nc_bI (nc_Call m_X11_canBeTold [.inr (.inr (11, aa)), .inl xb] w) fun r2 w1 =>
  if r2 = 0 then
    some (some (.inl (-1)), w1)
  else
    nc_bI (nc_Call m_X1_mostWithoutLies [.inr (.inr (1, 0)), .inl xb] w1) fun r4 w3 =>
    some (some (.inl r4), w3) :=
  (nc_Call_eq _ _ _).trans ((if_pos (Nat.le_of_ble_eq_true rfl)).trans ((nc_Run_un [] 10).trans rfl))
set_option maxRecDepth 100000 in
theorem qc_X11_plan (aa : Nat) (xb : Int32) (xc : Int32) (w : nc_H) : nc_Call m_X11_plan [.inr (.inr (11, aa)), .inl xb, .inl xc] w =
  nc_bI (nc_Call m_X11_isCow [.inr (.inr (11, aa)), .inl xb] w) fun r2 w1 =>
  if r2 = 0 then
    some (some (.inl (-1)), w1)
  else
    if xc < 1 then
      some (some (.inl (-1)), w1)
    else
      if (3 : Int32) < xc then
        some (some (.inl (-1)), w1)
      else
        if ((w1.1 7 0 1) + xc) ≤ 400 then
          nc_bI (nc_Call m_X8_seek [.inr (.inr (8, 0)), .inr (.inr (7, 0)), .inl xb, .inl xc] w1) fun r4 w3 =>
          some (some (.inl r4), w3)
        else
          some (some (.inl (-1)), w1) :=
  (nc_Call_eq _ _ _).trans ((if_pos (Nat.le_of_ble_eq_true rfl)).trans ((nc_Run_un [] 25).trans rfl))
set_option maxRecDepth 100000 in
theorem qc_X11_allKnow (aa : Nat) (xb : Int32) (w : nc_H) : nc_Call m_X11_allKnow [.inr (.inr (11, aa)), .inl xb] w =
  nc_bI (nc_Call m_X11_isNews [.inr (.inr (11, aa)), .inl xb] w) fun r2 w1 =>
  if r2 = 0 then
    some (some (.inl (-1)), w1)
  else
    if (w1.1 2 0 2) ≠ 0 then
      nc_bV (nc_Call m_X7_copyFrom [.inr (.inr (7, 1)), .inr (.inr (7, 0))] w1) fun w3 =>
      nc_Run m_X11_allKnow 33 [some (.inr (.inr (11, aa))), some (.inl xb), some (.inl 0), none] [] w3
    else
      some (some (.inl (-1)), w1) :=
  (nc_Call_eq _ _ _).trans ((if_pos (Nat.le_of_ble_eq_true rfl)).trans ((nc_Run_un [33] 16).trans rfl))
set_option maxRecDepth 100000 in
theorem qr_X11_allKnow_33 (aa : Nat) (xb : Int32) (xc : Int32) (w : nc_H) : nc_Run m_X11_allKnow 33 [some (.inr (.inr (11, aa))), some (.inl xb), some (.inl xc), none] [] w =
  if (200 : Int32) ≤ xc then
    some (some (.inl (-1)), w)
  else
    if (400 : Int32) ≤ (w.1 7 1 1) then
      some (some (.inl (-1)), w)
    else
      nc_li (w.1 7 1 1) fun x1 =>
      nc_bV (nc_Call m_X7_talk [.inr (.inr (7, 1))] w) fun w2 =>
      nc_bV (nc_Call m_X7_turn [.inr (.inr (7, 1))] w2) fun w3 =>
      nc_bI (nc_Call m_X11_cowsWith [.inr (.inr (11, aa)), .inr (.inr (554, 1)), .inl xb] w3) fun r5 w4 =>
      nc_bI (nc_Call m_X2_allCows [.inr (.inr (2, 0))] w4) fun r7 w6 =>
      if r5 ≠ r7 then
        nc_li (xc + 1) fun x8 =>
        nc_Run m_X11_allKnow 33 [some (.inr (.inr (11, aa))), some (.inl xb), some (.inl x8), none] [] w6
      else
        some (some (.inl x1), w6) :=
  (nc_Run_un [33] 31).trans rfl
set_option maxRecDepth 100000 in
theorem qc_X11_part (aa : Nat) (xb : Int32) (xc : Int32) (w : nc_H) : nc_Call m_X11_part [.inr (.inr (11, aa)), .inl xb, .inl xc] w =
  nc_bI (nc_Call m_X11_isFarm [.inr (.inr (11, aa)), .inl xb] w) fun r2 w1 =>
  if r2 = 0 then
    some (some (.inl (-1)), w1)
  else
    nc_bI (nc_Call m_X11_isFarm [.inr (.inr (11, aa)), .inl xc] w1) fun r4 w3 =>
    if r4 = 0 then
      some (some (.inl (-1)), w3)
    else
      if xb ≠ xc then
        nc_bI (nc_Call m_X2_fewestBetween [.inr (.inr (2, 0)), .inl xb, .inl xc] w3) fun r6 w5 =>
        nc_lt (nc_si w5 11 aa 15 r6) fun w7 =>
        nc_bI (nc_Call m_J6_bitCount_0f7a4 [.inl (w7.1 11 aa 15)] w7) fun r9 w8 =>
        some (some (.inl r9), w8)
      else
        some (some (.inl (-1)), w3) :=
  (nc_Call_eq _ _ _).trans ((if_pos (Nat.le_of_ble_eq_true rfl)).trans ((nc_Run_un [] 22).trans rfl))
set_option maxRecDepth 100000 in
theorem qc_X11_tasted (aa : Nat) (xb : Int32) (w : nc_H) : nc_Call m_X11_tasted [.inr (.inr (11, aa)), .inl xb] w =
  if (w.1 10 0 1) ≠ 1 then
    nc_lt (nc_si w 10 0 1 0) fun w1 =>
    some (some (.inl (-1)), w1)
  else
    nc_bI (nc_Call m_X10_at [.inr (.inr (10, 0)), .inl 0] w) fun r3 w2 =>
    nc_lt (nc_si w2 10 0 1 0) fun w4 =>
    if r3 = (-1) then
      some (some (.inl (-1)), w4)
    else
      nc_bI (nc_Call m_X11_canBeTold [.inr (.inr (11, aa)), .inl xb] w4) fun r6 w5 =>
      if r6 = 0 then
        some (some (.inl (-1)), w5)
      else
        nc_bI (nc_Call m_X1_setsThatGive [.inr (.inr (1, 0)), .inl xb, .inl r3] w5) fun r8 w7 =>
        some (some (.inl r8), w7) :=
  (nc_Call_eq _ _ _).trans ((if_pos (Nat.le_of_ble_eq_true rfl)).trans ((nc_Run_un [] 29).trans rfl))
set_option maxRecDepth 100000 in
theorem qc_X11_dries (aa : Nat) (xb : Int32) (w : nc_H) : nc_Call m_X11_dries [.inr (.inr (11, aa)), .inl xb] w =
  nc_bI (nc_Call m_X11_isNews [.inr (.inr (11, aa)), .inl xb] w) fun r2 w1 =>
  if r2 = 0 then
    some (some (.inl (-1)), w1)
  else
    nc_bI (nc_Call m_X7_whyNotFound [.inr (.inr (7, 0)), .inl xb] w1) fun r4 w3 =>
    if r4 ≠ 0 then
      some (some (.inl (-1)), w3)
    else
      nc_bI (nc_Call m_X7_wouldDry [.inr (.inr (7, 0)), .inl xb] w3) fun r6 w5 =>
      some (some (.inl r6), w5) :=
  (nc_Call_eq _ _ _).trans ((if_pos (Nat.le_of_ble_eq_true rfl)).trans ((nc_Run_un [] 15).trans rfl))
set_option maxRecDepth 100000 in
theorem qc_X11_fits (aa : Nat) (xb : Int32) (xc : Int32) (xd : Int32) (w : nc_H) : nc_Call m_X11_fits [.inr (.inr (11, aa)), .inl xb, .inl xc, .inl xd] w =
  nc_Run m_X11_fits 3 [some (.inr (.inr (11, aa))), some (.inl xb), some (.inl xc), some (.inl xd), some (.inl 0)] [] w :=
  (nc_Call_eq _ _ _).trans ((if_pos (Nat.le_of_ble_eq_true rfl)).trans ((nc_Run_un [3] 3).trans rfl))
set_option maxRecDepth 100000 in
theorem qr_X11_fits_3 (aa : Nat) (xb : Int32) (xc : Int32) (xd : Int32) (xe : Int32) (w : nc_H) : nc_Run m_X11_fits 3 [some (.inr (.inr (11, aa))), some (.inl xb), some (.inl xc), some (.inl xd), some (.inl xe)] [] w =
  if xd ≤ xe then
    some (some (.inl 1), w)
  else
    nc_bI (nc_Call m_X7_pailsOn [.inr (.inr (7, 0)), .inl xb, .inl (xc + xe)] w) fun r2 w1 =>
    nc_bI (nc_Call m_X10_at [.inr (.inr (10, 0)), .inl xe] w1) fun r4 w3 =>
    if r2 = r4 then
      nc_li (xe + 1) fun x5 =>
      nc_Run m_X11_fits 3 [some (.inr (.inr (11, aa))), some (.inl xb), some (.inl xc), some (.inl xd), some (.inl x5)] [] w3
    else
      some (some (.inl 0), w3) :=
  (nc_Run_un [3] 18).trans rfl
set_option maxRecDepth 100000 in
theorem qc_X11_week (aa : Nat) (xb : Int32) (w : nc_H) : nc_Call m_X11_week [.inr (.inr (11, aa)), .inl xb] w =
  nc_li (w.1 10 0 1) fun x1 =>
  nc_lt (nc_si w 10 0 1 0) fun w2 =>
  nc_bI (nc_Call m_X11_isFarm [.inr (.inr (11, aa)), .inl xb] w2) fun r4 w3 =>
  if r4 = 0 then
    some (some (.inl (-1)), w3)
  else
    if x1 < 1 then
      some (some (.inl (-1)), w3)
    else
      if x1 ≤ 7 then
        nc_li (if (0 : Int32) < ((w3.1 7 0 1) - 30) then ((w3.1 7 0 1) - 30) else (0 : Int32)) fun x5 =>
        nc_Run m_X11_week 52 [some (.inr (.inr (11, aa))), some (.inl xb), some (.inl x1), some (.inl x5)] [] w3
      else
        some (some (.inl (-1)), w3) :=
  (nc_Call_eq _ _ _).trans ((if_pos (Nat.le_of_ble_eq_true rfl)).trans ((nc_Run_un [52] 27).trans rfl))
set_option maxRecDepth 100000 in
theorem qr_X11_week_52 (aa : Nat) (xb : Int32) (xc : Int32) (xd : Int32) (w : nc_H) : nc_Run m_X11_week 52 [some (.inr (.inr (11, aa))), some (.inl xb), some (.inl xc), some (.inl xd)] [] w =
  if (w.1 7 0 1) < (xd + xc) then
    some (some (.inl (-1)), w)
  else
    nc_bI (nc_Call m_X11_fits [.inr (.inr (11, aa)), .inl xb, .inl xd, .inl xc] w) fun r2 w1 =>
    if r2 = 0 then
      nc_li (xd + 1) fun x3 =>
      nc_Run m_X11_week 52 [some (.inr (.inr (11, aa))), some (.inl xb), some (.inl xc), some (.inl x3)] [] w1
    else
      some (some (.inl xd), w1) :=
  (nc_Run_un [52] 16).trans rfl
set_option maxRecDepth 100000 in
theorem qc_X11_pails (aa : Nat) (xb : Int32) (xc : Int32) (w : nc_H) : nc_Call m_X11_pails [.inr (.inr (11, aa)), .inl xb, .inl xc] w =
  nc_bI (nc_Call m_X11_isFarm [.inr (.inr (11, aa)), .inl xb] w) fun r2 w1 =>
  if r2 = 0 then
    some (some (.inl (-1)), w1)
  else
    nc_bI (nc_Call m_X7_pailsOn [.inr (.inr (7, 0)), .inl xb, .inl xc] w1) fun r4 w3 =>
    some (some (.inl r4), w3) :=
  (nc_Call_eq _ _ _).trans ((if_pos (Nat.le_of_ble_eq_true rfl)).trans ((nc_Run_un [] 11).trans rfl))
set_option maxRecDepth 100000 in
theorem qc_X11_ahead (aa : Nat) (xb : Int32) (w : nc_H) : nc_Call m_X11_ahead [.inr (.inr (11, aa)), .inl xb] w =
  if xb < 1 then
    some (some (.inl (-1)), w)
  else
    if xb ≤ 60 then
      nc_bV (nc_Call m_X7_copyFrom [.inr (.inr (7, 1)), .inr (.inr (7, 0))] w) fun w1 =>
      nc_bI (nc_Call m_X7_goDays [.inr (.inr (7, 1)), .inl xb] w1) fun r3 w2 =>
      nc_bI (nc_Call m_X7_allPails [.inr (.inr (7, 1))] w2) fun r5 w4 =>
      nc_bI (nc_Call m_X7_allPails [.inr (.inr (7, 0))] w4) fun r7 w6 =>
      some (some (.inl (r5 - r7)), w6)
    else
      some (some (.inl (-1)), w) :=
  (nc_Call_eq _ _ _).trans ((if_pos (Nat.le_of_ble_eq_true rfl)).trans ((nc_Run_un [] 24).trans rfl))
set_option maxRecDepth 100000 in
theorem qc_X11_drawn (aa : Nat) (xb : Int32) (xc : Int32) (w : nc_H) : nc_Call m_X11_drawn [.inr (.inr (11, aa)), .inl xb, .inl xc] w =
  if xb < 1 then
    some (some (.inl (-1)), w)
  else
    if (60 : Int32) < xb then
      some (some (.inl (-1)), w)
    else
      if (w.1 2 0 3) ≠ 0 then
        if (400 : Int32) ≤ (w.1 7 0 1) then
          nc_lt (nc_si w 4 0 0 xc) fun w1 =>
          nc_li (w1.1 7 0 1) fun x2 =>
          nc_Run m_X11_drawn 66 [some (.inr (.inr (11, aa))), some (.inl xb), none, some (.inl x2), some (.inl 0)] [] w1
        else
          nc_bV (nc_Call m_X5_keep [.inr (.inr (5, 0)), .inr (.inr (7, 0))] w) fun w3 =>
          nc_lt (nc_si w3 4 0 0 xc) fun w4 =>
          nc_li (w4.1 7 0 1) fun x5 =>
          nc_Run m_X11_drawn 66 [some (.inr (.inr (11, aa))), some (.inl xb), none, some (.inl x5), some (.inl 0)] [] w4
      else
        some (some (.inl (-1)), w) :=
  (nc_Call_eq _ _ _).trans ((if_pos (Nat.le_of_ble_eq_true rfl)).trans ((nc_Run_un [66] 31).trans rfl))
set_option maxRecDepth 100000 in
theorem qr_X11_drawn_66 (aa : Nat) (xb : Int32) (xd : Int32) (xe : Int32) (w : nc_H) : nc_Run m_X11_drawn 66 [some (.inr (.inr (11, aa))), some (.inl xb), none, some (.inl xd), some (.inl xe)] [] w =
  if xb ≤ xe then
    some (some (.inl ((w.1 7 0 1) - xd)), w)
  else
    if (400 : Int32) ≤ (w.1 7 0 1) then
      some (some (.inl ((w.1 7 0 1) - xd)), w)
    else
      nc_bV (nc_Call m_X4_tellAndFind [.inr (.inr (4, 0)), .inr (.inr (7, 0))] w) fun w1 =>
      nc_bI (nc_Call m_X7_goDays [.inr (.inr (7, 0)), .inl 1] w1) fun r3 w2 =>
      nc_li (xe + 1) fun x4 =>
      nc_Run m_X11_drawn 66 [some (.inr (.inr (11, aa))), some (.inl xb), none, some (.inl xd), some (.inl x4)] [] w2 :=
  (nc_Run_un [66] 21).trans rfl
set_option maxRecDepth 100000 in
theorem qc_X11_driesByDraws (aa : Nat) (xb : Int32) (w : nc_H) : nc_Call m_X11_driesByDraws [.inr (.inr (11, aa)), .inl xb] w =
  nc_Run m_X11_driesByDraws 2 [some (.inr (.inr (11, aa))), some (.inl xb), some (.inl 0)] [] w :=
  (nc_Call_eq _ _ _).trans ((if_pos (Nat.le_of_ble_eq_true rfl)).trans ((nc_Run_un [2] 3).trans rfl))
set_option maxRecDepth 100000 in
theorem qr_X11_driesByDraws_2 (aa : Nat) (xb : Int32) (xc : Int32) (w : nc_H) : nc_Run m_X11_driesByDraws 2 [some (.inr (.inr (11, aa))), some (.inl xb), some (.inl xc)] [] w =
  if (20 : Int32) ≤ xc then
    nc_bI (nc_Call m_X7_isDry [.inr (.inr (7, 1)), .inl xb] w) fun r2 w1 =>
    nc_z r2 <| some (some (.inl r2), w1)
  else
    if (400 : Int32) ≤ (w.1 7 1 1) then
      nc_bI (nc_Call m_X7_isDry [.inr (.inr (7, 1)), .inl xb] w) fun r4 w3 =>
      nc_z r4 <| some (some (.inl r4), w3)
    else
      nc_bI (nc_Call m_X7_isDry [.inr (.inr (7, 1)), .inl xb] w) fun r6 w5 =>
      if r6 ≠ 0 then
        nc_bI (nc_Call m_X7_isDry [.inr (.inr (7, 1)), .inl xb] w5) fun r8 w7 =>
        nc_z r8 <| some (some (.inl r8), w7)
      else
        nc_bV (nc_Call m_X4_tellAndFind [.inr (.inr (4, 0)), .inr (.inr (7, 1))] w5) fun w9 =>
        nc_bV (nc_Call m_X7_talk [.inr (.inr (7, 1))] w9) fun w10 =>
        nc_bV (nc_Call m_X7_turn [.inr (.inr (7, 1))] w10) fun w11 =>
        nc_li (xc + 1) fun x12 =>
        nc_Run m_X11_driesByDraws 2 [some (.inr (.inr (11, aa))), some (.inl xb), some (.inl x12)] [] w11 :=
  (nc_Run_un [2] 27).trans rfl
set_option maxRecDepth 100000 in
theorem qc_X11_odds (aa : Nat) (xb : Int32) (xc : Int32) (xd : Int32) (w : nc_H) : nc_Call m_X11_odds [.inr (.inr (11, aa)), .inl xb, .inl xc, .inl xd] w =
  nc_bI (nc_Call m_X11_isCow [.inr (.inr (11, aa)), .inl xb] w) fun r2 w1 =>
  if r2 = 0 then
    some (some (.inl (-1)), w1)
  else
    if xc < 1 then
      some (some (.inl (-1)), w1)
    else
      if (30 : Int32) < xc then
        some (some (.inl (-1)), w1)
      else
        if (w1.1 2 0 3) ≠ 0 then
          nc_Run m_X11_odds 37 [some (.inr (.inr (11, aa))), some (.inl xb), some (.inl xc), some (.inl xd), some (.inl 0), some (.inl 0)] [] w1
        else
          some (some (.inl (-1)), w1) :=
  (nc_Call_eq _ _ _).trans ((if_pos (Nat.le_of_ble_eq_true rfl)).trans ((nc_Run_un [37] 19).trans rfl))
set_option maxRecDepth 100000 in
theorem qr_X11_odds_37 (aa : Nat) (xb : Int32) (xc : Int32) (xd : Int32) (xe : Int32) (xf : Int32) (w : nc_H) : nc_Run m_X11_odds 37 [some (.inr (.inr (11, aa))), some (.inl xb), some (.inl xc), some (.inl xd), some (.inl xe), some (.inl xf)] [] w =
  if xc ≤ xf then
    some (some (.inl xe), w)
  else
    nc_bV (nc_Call m_X7_copyFrom [.inr (.inr (7, 1)), .inr (.inr (7, 0))] w) fun w1 =>
    nc_lt (nc_si w1 4 0 0 (xd + xf)) fun w2 =>
    nc_bI (nc_Call m_X11_driesByDraws [.inr (.inr (11, aa)), .inl xb] w2) fun r4 w3 =>
    if r4 = 0 then
      nc_li (xf + 1) fun x5 =>
      nc_Run m_X11_odds 37 [some (.inr (.inr (11, aa))), some (.inl xb), some (.inl xc), some (.inl xd), some (.inl xe), some (.inl x5)] [] w3
    else
      nc_li (xe + 1) fun x6 =>
      nc_li (xf + 1) fun x7 =>
      nc_Run m_X11_odds 37 [some (.inr (.inr (11, aa))), some (.inl xb), some (.inl xc), some (.inl xd), some (.inl x6), some (.inl x7)] [] w3 :=
  (nc_Run_un [37] 22).trans rfl
set_option maxRecDepth 100000 in
theorem qc_X11_book (aa : Nat) (xb : Int32) (w : nc_H) : nc_Call m_X11_book [.inr (.inr (11, aa)), .inl xb] w =
  if xb = 0 then
    nc_bI (nc_Call m_X0_read [.inr (.inr (0, 0)), .inr (.inr (10, 0)), .inr (.inr (2, 0))] w) fun r2 w1 =>
    nc_lt (nc_si w1 10 0 1 0) fun w3 =>
    if r2 ≠ 0 then
      nc_bV (nc_Call m_X7_copyFrom [.inr (.inr (7, 1)), .inr (.inr (7, 0))] w3) fun w4 =>
      nc_bI (nc_Call m_X0_judge [.inr (.inr (0, 0)), .inr (.inr (7, 1))] w4) fun r6 w5 =>
      if xb ≠ 1 then
        some (some (.inl r6), w5)
      else
        if (w5.1 0 0 6) ≤ 0 then
          some (some (.inl r6), w5)
        else
          nc_bV (nc_Call m_X5_keep [.inr (.inr (5, 0)), .inr (.inr (7, 0))] w5) fun w7 =>
          nc_bV (nc_Call m_X7_copyFrom [.inr (.inr (7, 0)), .inr (.inr (7, 1))] w7) fun w8 =>
          some (some (.inl r6), w8)
    else
      some (some (.inl ((-2) - (w3.1 10 0 15))), w3)
  else
    if xb = 1 then
      nc_bI (nc_Call m_X0_read [.inr (.inr (0, 0)), .inr (.inr (10, 0)), .inr (.inr (2, 0))] w) fun r10 w9 =>
      nc_lt (nc_si w9 10 0 1 0) fun w11 =>
      if r10 ≠ 0 then
        nc_bV (nc_Call m_X7_copyFrom [.inr (.inr (7, 1)), .inr (.inr (7, 0))] w11) fun w12 =>
        nc_bI (nc_Call m_X0_judge [.inr (.inr (0, 0)), .inr (.inr (7, 1))] w12) fun r14 w13 =>
        if xb ≠ 1 then
          some (some (.inl r14), w13)
        else
          if (w13.1 0 0 6) ≤ 0 then
            some (some (.inl r14), w13)
          else
            nc_bV (nc_Call m_X5_keep [.inr (.inr (5, 0)), .inr (.inr (7, 0))] w13) fun w15 =>
            nc_bV (nc_Call m_X7_copyFrom [.inr (.inr (7, 0)), .inr (.inr (7, 1))] w15) fun w16 =>
            some (some (.inl r14), w16)
      else
        some (some (.inl ((-2) - (w11.1 10 0 15))), w11)
    else
      some (some (.inl (-1000)), w) :=
  (nc_Call_eq _ _ _).trans ((if_pos (Nat.le_of_ble_eq_true rfl)).trans ((nc_Run_un [] 49).trans rfl))
set_option maxRecDepth 100000 in
theorem qc_X11_sentence (aa : Nat) (w : nc_H) : nc_Call m_X11_sentence [.inr (.inr (11, aa))] w =
  nc_bI (nc_Call m_X9_read [.inr (.inr (9, 1)), .inr (.inr (10, 0)), .inr (.inr (2, 0))] w) fun r2 w1 =>
  nc_lt (nc_si w1 10 0 1 0) fun w3 =>
  if r2 ≠ 0 then
    nc_bV (nc_Call m_X9_copyFrom [.inr (.inr (9, 0)), .inr (.inr (9, 1))] w3) fun w4 =>
    some (some (.inl (w4.1 9 0 4)), w4)
  else
    some (some (.inl ((-1) - (w3.1 10 0 15))), w3) :=
  (nc_Call_eq _ _ _).trans ((if_pos (Nat.le_of_ble_eq_true rfl)).trans ((nc_Run_un [] 23).trans rfl))
set_option maxRecDepth 100000 in
theorem qc_X11_said (aa : Nat) (xb : Int32) (w : nc_H) : nc_Call m_X11_said [.inr (.inr (11, aa)), .inl xb] w =
  if (w.1 9 0 4) ≠ 0 then
    nc_Run m_X11_said 16 [some (.inr (.inr (11, aa))), some (.inl xb), some (.inl 0), some (.inl 0)] [] w
  else
    some (some (.inl (-1)), w) :=
  (nc_Call_eq _ _ _).trans ((if_pos (Nat.le_of_ble_eq_true rfl)).trans ((nc_Run_un [16] 9).trans rfl))
set_option maxRecDepth 100000 in
theorem qr_X11_said_16 (aa : Nat) (xb : Int32) (xc : Int32) (xd : Int32) (w : nc_H) : nc_Run m_X11_said 16 [some (.inr (.inr (11, aa))), some (.inl xb), some (.inl xc), some (.inl xd)] [] w =
  if (w.1 2 0 2) ≤ xd then
    if xb ≠ (-1) then
      some (some (.inl (-1)), w)
    else
      some (some (.inl xc), w)
  else
    nc_bI (nc_Call m_X9_holds [.inr (.inr (9, 0)), .inr (.inr (7, 0)), .inl xd] w) fun r2 w1 =>
    if r2 = 0 then
      nc_li (xd + 1) fun x3 =>
      nc_Run m_X11_said 16 [some (.inr (.inr (11, aa))), some (.inl xb), some (.inl xc), some (.inl x3)] [] w1
    else
      if xc ≠ xb then
        nc_li (xc + 1) fun x4 =>
        nc_li (xd + 1) fun x5 =>
        nc_Run m_X11_said 16 [some (.inr (.inr (11, aa))), some (.inl xb), some (.inl x4), some (.inl x5)] [] w1
      else
        some (some (.inl xd), w1) :=
  (nc_Run_un [16] 19).trans rfl
set_option maxRecDepth 100000 in
theorem qc_X11_image (aa : Nat) (xb : Int32) (w : nc_H) : nc_Call m_X11_image [.inr (.inr (11, aa)), .inl xb] w =
  if xb = 0 then
    if xb ≠ 0 then
      nc_lt (nc_si w 6 1 0 1) fun w1 =>
      nc_bV (nc_Call m_X2_copyFrom [.inr (.inr (2, 2 + 1)), .inr (.inr (2, 0))] w1) fun w2 =>
      nc_bV (nc_Call m_X7_copyFrom [.inr (.inr (7, 12 + 1)), .inr (.inr (7, 0))] w2) fun w3 =>
      nc_bV (nc_Call m_X9_copyFrom [.inr (.inr (9, 2 + 1)), .inr (.inr (9, 0))] w3) fun w4 =>
      some (some (.inl 1), w4)
    else
      nc_lt (nc_si w 6 0 0 1) fun w5 =>
      nc_bV (nc_Call m_X2_copyFrom [.inr (.inr (2, 2 + 0)), .inr (.inr (2, 0))] w5) fun w6 =>
      nc_bV (nc_Call m_X7_copyFrom [.inr (.inr (7, 12 + 0)), .inr (.inr (7, 0))] w6) fun w7 =>
      nc_bV (nc_Call m_X9_copyFrom [.inr (.inr (9, 2 + 0)), .inr (.inr (9, 0))] w7) fun w8 =>
      some (some (.inl 1), w8)
  else
    if xb = 1 then
      if xb ≠ 0 then
        nc_lt (nc_si w 6 1 0 1) fun w9 =>
        nc_bV (nc_Call m_X2_copyFrom [.inr (.inr (2, 2 + 1)), .inr (.inr (2, 0))] w9) fun w10 =>
        nc_bV (nc_Call m_X7_copyFrom [.inr (.inr (7, 12 + 1)), .inr (.inr (7, 0))] w10) fun w11 =>
        nc_bV (nc_Call m_X9_copyFrom [.inr (.inr (9, 2 + 1)), .inr (.inr (9, 0))] w11) fun w12 =>
        some (some (.inl 1), w12)
      else
        nc_lt (nc_si w 6 0 0 1) fun w13 =>
        nc_bV (nc_Call m_X2_copyFrom [.inr (.inr (2, 2 + 0)), .inr (.inr (2, 0))] w13) fun w14 =>
        nc_bV (nc_Call m_X7_copyFrom [.inr (.inr (7, 12 + 0)), .inr (.inr (7, 0))] w14) fun w15 =>
        nc_bV (nc_Call m_X9_copyFrom [.inr (.inr (9, 2 + 0)), .inr (.inr (9, 0))] w15) fun w16 =>
        some (some (.inl 1), w16)
    else
      some (some (.inl 0), w) :=
  (nc_Call_eq _ _ _).trans ((if_pos (Nat.le_of_ble_eq_true rfl)).trans ((nc_Run_un [] 31).trans rfl))
set_option maxRecDepth 100000 in
theorem qc_X11_restore (aa : Nat) (xb : Int32) (w : nc_H) : nc_Call m_X11_restore [.inr (.inr (11, aa)), .inl xb] w =
  if xb = 0 then
    if xb ≠ 0 then
      if (w.1 6 1 0) ≠ 0 then
        nc_bV (nc_Call m_X2_copyFrom [.inr (.inr (2, 0)), .inr (.inr (2, 2 + 1))] w) fun w1 =>
        nc_bV (nc_Call m_X7_copyFrom [.inr (.inr (7, 0)), .inr (.inr (7, 12 + 1))] w1) fun w2 =>
        nc_bV (nc_Call m_X9_copyFrom [.inr (.inr (9, 0)), .inr (.inr (9, 2 + 1))] w2) fun w3 =>
        nc_bV (nc_Call m_X5_clear [.inr (.inr (5, 0))] w3) fun w4 =>
        some (some (.inl 1), w4)
      else
        some (some (.inl 0), w)
    else
      if (w.1 6 0 0) ≠ 0 then
        nc_bV (nc_Call m_X2_copyFrom [.inr (.inr (2, 0)), .inr (.inr (2, 2 + 0))] w) fun w5 =>
        nc_bV (nc_Call m_X7_copyFrom [.inr (.inr (7, 0)), .inr (.inr (7, 12 + 0))] w5) fun w6 =>
        nc_bV (nc_Call m_X9_copyFrom [.inr (.inr (9, 0)), .inr (.inr (9, 2 + 0))] w6) fun w7 =>
        nc_bV (nc_Call m_X5_clear [.inr (.inr (5, 0))] w7) fun w8 =>
        some (some (.inl 1), w8)
      else
        some (some (.inl 0), w)
  else
    if xb = 1 then
      if xb ≠ 0 then
        if (w.1 6 1 0) ≠ 0 then
          nc_bV (nc_Call m_X2_copyFrom [.inr (.inr (2, 0)), .inr (.inr (2, 2 + 1))] w) fun w9 =>
          nc_bV (nc_Call m_X7_copyFrom [.inr (.inr (7, 0)), .inr (.inr (7, 12 + 1))] w9) fun w10 =>
          nc_bV (nc_Call m_X9_copyFrom [.inr (.inr (9, 0)), .inr (.inr (9, 2 + 1))] w10) fun w11 =>
          nc_bV (nc_Call m_X5_clear [.inr (.inr (5, 0))] w11) fun w12 =>
          some (some (.inl 1), w12)
        else
          some (some (.inl 0), w)
      else
        if (w.1 6 0 0) ≠ 0 then
          nc_bV (nc_Call m_X2_copyFrom [.inr (.inr (2, 0)), .inr (.inr (2, 2 + 0))] w) fun w13 =>
          nc_bV (nc_Call m_X7_copyFrom [.inr (.inr (7, 0)), .inr (.inr (7, 12 + 0))] w13) fun w14 =>
          nc_bV (nc_Call m_X9_copyFrom [.inr (.inr (9, 0)), .inr (.inr (9, 2 + 0))] w14) fun w15 =>
          nc_bV (nc_Call m_X5_clear [.inr (.inr (5, 0))] w15) fun w16 =>
          some (some (.inl 1), w16)
        else
          some (some (.inl 0), w)
    else
      some (some (.inl 0), w) :=
  (nc_Call_eq _ _ _).trans ((if_pos (Nat.le_of_ble_eq_true rfl)).trans ((nc_Run_un [] 34).trans rfl))
