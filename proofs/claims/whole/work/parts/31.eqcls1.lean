set_option maxRecDepth 100000 in
theorem qc_X1_setAfter (xa : Int32) (xb : Int32) (w : nc_H) : nc_Call m_X1_setAfter [.inl xa, .inl xb] w =
  some (some (.inl ((xa - xb) &&& xb)), w) :=
  (nc_Call_eq _ _ _).trans ((if_pos (Nat.le_of_ble_eq_true rfl)).trans ((nc_Run_un [] 6).trans rfl))
set_option maxRecDepth 100000 in
theorem qc_X1_countNews (aa : Nat) (xb : Int32) (w : nc_H) : nc_Call m_X1_countNews [.inr (.inr (1, aa)), .inl xb] w =
  nc_Run m_X1_countNews 2 [some (.inr (.inr (1, aa))), some (.inl xb), some (.inl 0)] [] w :=
  (nc_Call_eq _ _ _).trans ((if_pos (Nat.le_of_ble_eq_true rfl)).trans ((nc_Run_un [2] 3).trans rfl))
set_option maxRecDepth 100000 in
theorem qr_X1_countNews_2 (aa : Nat) (xb : Int32) (xc : Int32) (w : nc_H) : nc_Run m_X1_countNews 2 [some (.inr (.inr (1, aa))), some (.inl xb), some (.inl xc)] [] w =
  if (w.1 2 0 3) ≤ xc then
    some (none, w)
  else
    nc_bd xc 10 fun j1 =>
    nc_bd xc 10 fun j2 =>
    nc_lt (nc_si w 167 aa j2 ((w.1 167 aa j1) + ((xb >>> (xc &&& 31)) &&& 1))) fun w3 =>
    nc_li (xc + 1) fun x4 =>
    nc_Run m_X1_countNews 2 [some (.inr (.inr (1, aa))), some (.inl xb), some (.inl x4)] [] w3 :=
  (nc_Run_un [2] 20).trans rfl
set_option maxRecDepth 100000 in
theorem qc_X2_isLie (aa : Nat) (xb : Int32) (w : nc_H) : nc_Call m_X2_isLie [.inr (.inr (2, aa)), .inl xb] w =
  if (((w.1 2 aa 6) >>> (xb &&& 31)) &&& 1) ≠ 1 then
    some (some (.inl 0), w)
  else
    some (some (.inl 1), w) :=
  (nc_Call_eq _ _ _).trans ((if_pos (Nat.le_of_ble_eq_true rfl)).trans ((nc_Run_un [] 11).trans rfl))
set_option maxRecDepth 100000 in
theorem qc_X2_allCows (aa : Nat) (w : nc_H) : nc_Call m_X2_allCows [.inr (.inr (2, aa))] w =
  some (some (.inl ((1 <<< ((w.1 2 aa 2) &&& 31)) - 1)), w) :=
  (nc_Call_eq _ _ _).trans ((if_pos (Nat.le_of_ble_eq_true rfl)).trans ((nc_Run_un [] 7).trans rfl))
set_option maxRecDepth 100000 in
theorem qc_X2_allNews (aa : Nat) (w : nc_H) : nc_Call m_X2_allNews [.inr (.inr (2, aa))] w =
  some (some (.inl ((1 <<< ((w.1 2 aa 3) &&& 31)) - 1)), w) :=
  (nc_Call_eq _ _ _).trans ((if_pos (Nat.le_of_ble_eq_true rfl)).trans ((nc_Run_un [] 7).trans rfl))
set_option maxRecDepth 100000 in
theorem qc_X2_slotOf (aa : Nat) (yb : Int64) (w : nc_H) : nc_Call m_X2_slotOf [.inr (.inr (2, aa)), .inr (.inl yb)] w =
  nc_Run m_X2_slotOf 2 [some (.inr (.inr (2, aa))), some (.inr (.inl yb)), none, some (.inl 0)] [] w :=
  (nc_Call_eq _ _ _).trans ((if_pos (Nat.le_of_ble_eq_true rfl)).trans ((nc_Run_un [2] 3).trans rfl))
set_option maxRecDepth 100000 in
theorem qr_X2_slotOf_2 (aa : Nat) (yb : Int64) (xd : Int32) (w : nc_H) : nc_Run m_X2_slotOf 2 [some (.inr (.inr (2, aa))), some (.inr (.inl yb)), none, some (.inl xd)] [] w =
  if (22 : Int32) ≤ xd then
    some (some (.inl (-1)), w)
  else
    nc_bd xd 22 fun j1 =>
    if (lg_cmp (w.2 236 aa j1) yb) ≠ 0 then
      nc_li (xd + 1) fun x2 =>
      nc_Run m_X2_slotOf 2 [some (.inr (.inr (2, aa))), some (.inr (.inl yb)), none, some (.inl x2)] [] w
    else
      some (some (.inl xd), w) :=
  (nc_Run_un [2] 13).trans rfl
set_option maxRecDepth 100000 in
theorem qc_X2_hedgesOf (aa : Nat) (xb : Int32) (w : nc_H) : nc_Call m_X2_hedgesOf [.inr (.inr (2, aa)), .inl xb] w =
  nc_Run m_X2_hedgesOf 4 [some (.inr (.inr (2, aa))), some (.inl xb), some (.inl 0), some (.inl 0)] [] w :=
  (nc_Call_eq _ _ _).trans ((if_pos (Nat.le_of_ble_eq_true rfl)).trans ((nc_Run_un [4] 5).trans rfl))
set_option maxRecDepth 100000 in
theorem qr_X2_hedgesOf_4 (aa : Nat) (xb : Int32) (xc : Int32) (xd : Int32) (w : nc_H) : nc_Run m_X2_hedgesOf 4 [some (.inr (.inr (2, aa))), some (.inl xb), some (.inl xc), some (.inl xd)] [] w =
  if (w.1 2 aa 4) ≤ xd then
    some (some (.inl xc), w)
  else
    nc_bd xd 6 fun j1 =>
    if (w.1 244 aa j1) = xb then
      nc_li (xc ||| (1 <<< (xd &&& 31))) fun x2 =>
      nc_li (xd + 1) fun x3 =>
      nc_Run m_X2_hedgesOf 4 [some (.inr (.inr (2, aa))), some (.inl xb), some (.inl x2), some (.inl x3)] [] w
    else
      nc_bd xd 6 fun j4 =>
      if (w.1 245 aa j4) ≠ xb then
        nc_li (xd + 1) fun x5 =>
        nc_Run m_X2_hedgesOf 4 [some (.inr (.inr (2, aa))), some (.inl xb), some (.inl xc), some (.inl x5)] [] w
      else
        nc_li (xc ||| (1 <<< (xd &&& 31))) fun x6 =>
        nc_li (xd + 1) fun x7 =>
        nc_Run m_X2_hedgesOf 4 [some (.inr (.inr (2, aa))), some (.inl xb), some (.inl x6), some (.inl x7)] [] w :=
  (nc_Run_un [4] 25).trans rfl
set_option maxRecDepth 100000 in
theorem qc_X2_comesTo (aa : Nat) (xb : Int32) (xc : Int32) (xd : Int32) (w : nc_H) : nc_Call m_X2_comesTo [.inr (.inr (2, aa)), .inl xb, .inl xc, .inl xd] w =
  nc_li (1 <<< (xb &&& 31)) fun x1 =>
  nc_Run m_X2_comesTo 8 [some (.inr (.inr (2, aa))), none, some (.inl xc), some (.inl xd), some (.inl x1), some (.inl 1), none, none] [] w :=
  (nc_Call_eq _ _ _).trans ((if_pos (Nat.le_of_ble_eq_true rfl)).trans ((nc_Run_un [8, 20] 7).trans rfl))
set_option maxRecDepth 100000 in
theorem qr_X2_comesTo_8 (aa : Nat) (xc : Int32) (xd : Int32) (xe : Int32) (xf : Int32) (w : nc_H) : nc_Run m_X2_comesTo 8 [some (.inr (.inr (2, aa))), none, some (.inl xc), some (.inl xd), some (.inl xe), some (.inl xf), none, none] [] w =
  if (w.1 2 aa 1) ≤ xf then
    if ((xe >>> (xc &&& 31)) &&& 1) ≠ 1 then
      some (some (.inl 0), w)
    else
      some (some (.inl 1), w)
  else
    nc_Run m_X2_comesTo 20 [some (.inr (.inr (2, aa))), none, some (.inl xc), some (.inl xd), some (.inl xe), some (.inl xf), some (.inl 0), none] [] w :=
  (nc_Run_un [8, 20] 14).trans rfl
set_option maxRecDepth 100000 in
theorem qr_X2_comesTo_20 (aa : Nat) (xc : Int32) (xd : Int32) (xe : Int32) (xf : Int32) (xg : Int32) (w : nc_H) : nc_Run m_X2_comesTo 20 [some (.inr (.inr (2, aa))), none, some (.inl xc), some (.inl xd), some (.inl xe), some (.inl xf), some (.inl xg), none] [] w =
  if (w.1 2 aa 4) ≤ xg then
    nc_li (xf + 1) fun x1 =>
    nc_Run m_X2_comesTo 8 [some (.inr (.inr (2, aa))), none, some (.inl xc), some (.inl xd), some (.inl xe), some (.inl x1), none, none] [] w
  else
    nc_bd xg 6 fun j2 =>
    nc_bd xg 6 fun j3 =>
    nc_li ((1 <<< ((w.1 244 aa j2) &&& 31)) ||| (1 <<< ((w.1 245 aa j3) &&& 31))) fun x4 =>
    if ((xd >>> (xg &&& 31)) &&& 1) ≠ 0 then
      nc_li (xg + 1) fun x5 =>
      nc_Run m_X2_comesTo 20 [some (.inr (.inr (2, aa))), none, some (.inl xc), some (.inl xd), some (.inl xe), some (.inl xf), some (.inl x5), none] [] w
    else
      if (xe &&& x4) = 0 then
        nc_li (xg + 1) fun x6 =>
        nc_Run m_X2_comesTo 20 [some (.inr (.inr (2, aa))), none, some (.inl xc), some (.inl xd), some (.inl xe), some (.inl xf), some (.inl x6), none] [] w
      else
        nc_li (xe ||| x4) fun x7 =>
        nc_li (xg + 1) fun x8 =>
        nc_Run m_X2_comesTo 20 [some (.inr (.inr (2, aa))), none, some (.inl xc), some (.inl xd), some (.inl x7), some (.inl xf), some (.inl x8), none] [] w :=
  (nc_Run_un [8, 20] 35).trans rfl
set_option maxRecDepth 100000 in
theorem qc_X4_draw (aa : Nat) (xb : Int32) (w : nc_H) : nc_Call m_X4_draw [.inr (.inr (4, aa)), .inl xb] w =
  nc_lt (nc_si w 4 aa 0 (((w.1 4 aa 0) * 1103515245) + 12345)) fun w1 =>
  if xb ≤ 0 then
    some (some (.inl 0), w1)
  else
    if xb = 0 then none else
    some (some (.inl ((((w1.1 4 aa 0).toUInt32 >>> ((8 : Int32).toUInt32 &&& Int32.toUInt32 31)).toInt32) - (((w1.1 4 aa 0).toUInt32 >>> ((8 : Int32).toUInt32 &&& Int32.toUInt32 31)).toInt32) / xb * xb)), w1) :=
  (nc_Call_eq _ _ _).trans ((if_pos (Nat.le_of_ble_eq_true rfl)).trans ((nc_Run_un [] 18).trans rfl))
set_option maxRecDepth 100000 in
theorem qc_X5_clear (aa : Nat) (w : nc_H) : nc_Call m_X5_clear [.inr (.inr (5, aa))] w =
  nc_lt (nc_si w 5 aa 2 0) fun w1 =>
  some (none, w1) :=
  (nc_Call_eq _ _ _).trans ((if_pos (Nat.le_of_ble_eq_true rfl)).trans ((nc_Run_un [] 4).trans rfl))
set_option maxRecDepth 100000 in
theorem qc_X7_isDry (aa : Nat) (xb : Int32) (w : nc_H) : nc_Call m_X7_isDry [.inr (.inr (7, aa)), .inl xb] w =
  if (((w.1 7 aa 3) >>> (xb &&& 31)) &&& 1) ≠ 1 then
    some (some (.inl 0), w)
  else
    some (some (.inl 1), w) :=
  (nc_Call_eq _ _ _).trans ((if_pos (Nat.le_of_ble_eq_true rfl)).trans ((nc_Run_un [] 11).trans rfl))
set_option maxRecDepth 100000 in
theorem qc_X7_isCurdled (aa : Nat) (xb : Int32) (w : nc_H) : nc_Call m_X7_isCurdled [.inr (.inr (7, aa)), .inl xb] w =
  nc_bd xb 8 fun j1 =>
  if (6 : Int32) < ((w.1 7 aa 1) - (w.1 558 aa j1)) then
    some (some (.inl 0), w)
  else
    some (some (.inl 1), w) :=
  (nc_Call_eq _ _ _).trans ((if_pos (Nat.le_of_ble_eq_true rfl)).trans ((nc_Run_un [] 12).trans rfl))
set_option maxRecDepth 100000 in
theorem qc_X7_comes (aa : Nat) (xb : Int32) (xc : Int32) (w : nc_H) : nc_Call m_X7_comes [.inr (.inr (7, aa)), .inl xb, .inl xc] w =
  nc_bd xb 8 fun j1 =>
  nc_bd xb 8 fun j2 =>
  nc_lt (nc_si w 554 aa j2 ((w.1 554 aa j1) ||| (1 <<< (xc &&& 31)))) fun w3 =>
  nc_bd ((xb * 10) + xc) 80 fun j4 =>
  nc_lt (nc_si w3 553 aa j4 (w3.1 7 aa 1)) fun w5 =>
  some (none, w5) :=
  (nc_Call_eq _ _ _).trans ((if_pos (Nat.le_of_ble_eq_true rfl)).trans ((nc_Run_un [] 21).trans rfl))
set_option maxRecDepth 100000 in
theorem qc_X7_addedBy (aa : Nat) (xb : Int32) (xc : Int32) (xd : Int32) (w : nc_H) : nc_Call m_X7_addedBy [.inr (.inr (7, aa)), .inl xb, .inl xc, .inl xd] w =
  nc_bd xb 10 fun j1 =>
  if (w.1 242 (nc_ld aa) j1) = 0 then
    nc_Run m_X7_addedBy 27 [some (.inr (.inr (7, aa))), some (.inl xb), some (.inl xc), some (.inl xd), none] [] w
  else
    nc_bd xb 10 fun j2 =>
    if (w.1 242 (nc_ld aa) j2) = 1 then
      nc_Run m_X7_addedBy 27 [some (.inr (.inr (7, aa))), some (.inl xb), some (.inl xc), some (.inl xd), none] [] w
    else
      some (some (.inl 0), w) :=
  (nc_Call_eq _ _ _).trans ((if_pos (Nat.le_of_ble_eq_true rfl)).trans ((nc_Run_un [27] 15).trans rfl))
set_option maxRecDepth 100000 in
theorem qr_X7_addedBy_27 (aa : Nat) (xb : Int32) (xc : Int32) (xd : Int32) (w : nc_H) : nc_Run m_X7_addedBy 27 [some (.inr (.inr (7, aa))), some (.inl xb), some (.inl xc), some (.inl xd), none] [] w =
  nc_bd xb 10 fun j1 =>
  nc_li (w.1 243 (nc_ld aa) j1) fun x2 =>
  if ((((w.1 2 (nc_ld aa) 6) &&& ((w.1 7 aa 4) ^^^ (-1))) >>> (xb &&& 31)) &&& 1) ≠ 1 then
    nc_bd xb 10 fun j3 =>
    if (w.1 242 (nc_ld aa) j3) ≠ 1 then
      if ((xd >>> (xb &&& 31)) &&& 1) ≠ 1 then
        some (some (.inl x2), w)
      else
        some (some (.inl (x2 / 2)), w)
    else
      if ((xc >>> (xb &&& 31)) &&& 1) ≠ 1 then
        if ((xd >>> (xb &&& 31)) &&& 1) ≠ 1 then
          some (some (.inl x2), w)
        else
          some (some (.inl (x2 / 2)), w)
      else
        nc_li (x2 * 2) fun x4 =>
        if ((xd >>> (xb &&& 31)) &&& 1) ≠ 1 then
          some (some (.inl x4), w)
        else
          some (some (.inl (x4 / 2)), w)
  else
    nc_li (x2 + 5) fun x5 =>
    nc_bd xb 10 fun j6 =>
    if (w.1 242 (nc_ld aa) j6) ≠ 1 then
      if ((xd >>> (xb &&& 31)) &&& 1) ≠ 1 then
        some (some (.inl x5), w)
      else
        some (some (.inl (x5 / 2)), w)
    else
      if ((xc >>> (xb &&& 31)) &&& 1) ≠ 1 then
        if ((xd >>> (xb &&& 31)) &&& 1) ≠ 1 then
          some (some (.inl x5), w)
        else
          some (some (.inl (x5 / 2)), w)
      else
        nc_li (x5 * 2) fun x7 =>
        if ((xd >>> (xb &&& 31)) &&& 1) ≠ 1 then
          some (some (.inl x7), w)
        else
          some (some (.inl (x7 / 2)), w) :=
  (nc_Run_un [27] 51).trans rfl
set_option maxRecDepth 100000 in
theorem qc_X7_heardByOthers (aa : Nat) (xb : Int32) (w : nc_H) : nc_Call m_X7_heardByOthers [.inr (.inr (7, aa)), .inl xb] w =
  nc_Run m_X7_heardByOthers 4 [some (.inr (.inr (7, aa))), some (.inl xb), some (.inl 0), some (.inl 0)] [] w :=
  (nc_Call_eq _ _ _).trans ((if_pos (Nat.le_of_ble_eq_true rfl)).trans ((nc_Run_un [4] 5).trans rfl))
set_option maxRecDepth 100000 in
theorem qr_X7_heardByOthers_4 (aa : Nat) (xb : Int32) (xc : Int32) (xd : Int32) (w : nc_H) : nc_Run m_X7_heardByOthers 4 [some (.inr (.inr (7, aa))), some (.inl xb), some (.inl xc), some (.inl xd)] [] w =
  if (w.1 2 (nc_ld aa) 2) ≤ xd then
    some (some (.inl xc), w)
  else
    if xd = xb then
      nc_li (xd + 1) fun x1 =>
      nc_Run m_X7_heardByOthers 4 [some (.inr (.inr (7, aa))), some (.inl xb), some (.inl xc), some (.inl x1)] [] w
    else
      nc_bd xd 8 fun j2 =>
      nc_bd xb 8 fun j3 =>
      if (w.1 238 (nc_ld aa) j2) ≠ (w.1 238 (nc_ld aa) j3) then
        nc_li (xd + 1) fun x4 =>
        nc_Run m_X7_heardByOthers 4 [some (.inr (.inr (7, aa))), some (.inl xb), some (.inl xc), some (.inl x4)] [] w
      else
        nc_bd xd 8 fun j5 =>
        nc_li (xc ||| (w.1 555 aa j5)) fun x6 =>
        nc_li (xd + 1) fun x7 =>
        nc_Run m_X7_heardByOthers 4 [some (.inr (.inr (7, aa))), some (.inl xb), some (.inl x6), some (.inl x7)] [] w :=
  (nc_Run_un [4] 29).trans rfl
set_option maxRecDepth 100000 in
theorem qc_X7_talking (aa : Nat) (w : nc_H) : nc_Call m_X7_talking [.inr (.inr (7, aa))] w =
  nc_Run m_X7_talking 4 [some (.inr (.inr (7, aa))), some (.inl 0), some (.inl 0), none] [] w :=
  (nc_Call_eq _ _ _).trans ((if_pos (Nat.le_of_ble_eq_true rfl)).trans ((nc_Run_un [4] 5).trans rfl))
set_option maxRecDepth 100000 in
theorem qr_X7_talking_4 (aa : Nat) (xb : Int32) (xc : Int32) (w : nc_H) : nc_Run m_X7_talking 4 [some (.inr (.inr (7, aa))), some (.inl xb), some (.inl xc), none] [] w =
  if (w.1 2 (nc_ld aa) 4) ≤ xc then
    some (some (.inl xb), w)
  else
    nc_bd xc 6 fun j1 =>
    nc_li (w.1 246 (nc_ld aa) j1) fun x2 =>
    if x2 ≤ 0 then
      nc_li (xc + 1) fun x3 =>
      nc_Run m_X7_talking 4 [some (.inr (.inr (7, aa))), some (.inl xb), some (.inl x3), none] [] w
    else
      if x2 = 0 then none else
      if (((w.1 7 aa 1) + 1) - ((w.1 7 aa 1) + 1) / x2 * x2) ≠ 0 then
        nc_li (xc + 1) fun x4 =>
        nc_Run m_X7_talking 4 [some (.inr (.inr (7, aa))), some (.inl xb), some (.inl x4), none] [] w
      else
        nc_li (xb ||| (1 <<< (xc &&& 31))) fun x5 =>
        nc_li (xc + 1) fun x6 =>
        nc_Run m_X7_talking 4 [some (.inr (.inr (7, aa))), some (.inl x5), some (.inl x6), none] [] w :=
  (nc_Run_un [4] 29).trans rfl
set_option maxRecDepth 100000 in
theorem qc_X7_forget (aa : Nat) (xb : Int32) (w : nc_H) : nc_Call m_X7_forget [.inr (.inr (7, aa)), .inl xb] w =
  nc_Run m_X7_forget 2 [some (.inr (.inr (7, aa))), some (.inl xb), some (.inl 0)] [] w :=
  (nc_Call_eq _ _ _).trans ((if_pos (Nat.le_of_ble_eq_true rfl)).trans ((nc_Run_un [2] 3).trans rfl))
set_option maxRecDepth 100000 in
theorem qr_X7_forget_2 (aa : Nat) (xb : Int32) (xc : Int32) (w : nc_H) : nc_Run m_X7_forget 2 [some (.inr (.inr (7, aa))), some (.inl xb), some (.inl xc)] [] w =
  if (w.1 2 (nc_ld aa) 3) ≤ xc then
    some (none, w)
  else
    nc_bd xb 8 fun j1 =>
    if ((w.1 554 aa j1) >>> (xc &&& 31)) = 0 then
      some (none, w)
    else
      nc_bd ((xb * 10) + xc) 80 fun j2 =>
      nc_bd xb 8 fun j3 =>
      if ((w.1 7 aa 1) - (w.1 553 aa j2)) ≤ (w.1 241 (nc_ld aa) j3) then
        nc_li (xc + 1) fun x4 =>
        nc_Run m_X7_forget 2 [some (.inr (.inr (7, aa))), some (.inl xb), some (.inl x4)] [] w
      else
        nc_bd xb 8 fun j5 =>
        nc_bd xb 8 fun j6 =>
        nc_lt (nc_si w 554 aa j6 ((w.1 554 aa j5) &&& ((1 <<< (xc &&& 31)) ^^^ (-1)))) fun w7 =>
        nc_li (xc + 1) fun x8 =>
        nc_Run m_X7_forget 2 [some (.inr (.inr (7, aa))), some (.inl xb), some (.inl x8)] [] w7 :=
  (nc_Run_un [2] 44).trans rfl
set_option maxRecDepth 100000 in
theorem qc_X7_allPails (aa : Nat) (w : nc_H) : nc_Call m_X7_allPails [.inr (.inr (7, aa))] w =
  nc_Run m_X7_allPails 4 [some (.inr (.inr (7, aa))), some (.inl 0), some (.inl 0)] [] w :=
  (nc_Call_eq _ _ _).trans ((if_pos (Nat.le_of_ble_eq_true rfl)).trans ((nc_Run_un [4] 5).trans rfl))
set_option maxRecDepth 100000 in
theorem qr_X7_allPails_4 (aa : Nat) (xb : Int32) (xc : Int32) (w : nc_H) : nc_Run m_X7_allPails 4 [some (.inr (.inr (7, aa))), some (.inl xb), some (.inl xc)] [] w =
  if (4 : Int32) ≤ xc then
    some (some (.inl xb), w)
  else
    nc_bd xc 4 fun j1 =>
    nc_li (xb + (w.1 561 aa j1)) fun x2 =>
    nc_li (xc + 1) fun x3 =>
    nc_Run m_X7_allPails 4 [some (.inr (.inr (7, aa))), some (.inl x2), some (.inl x3)] [] w :=
  (nc_Run_un [4] 13).trans rfl
set_option maxRecDepth 100000 in
theorem qc_X7_pailsOn (aa : Nat) (xb : Int32) (xc : Int32) (w : nc_H) : nc_Call m_X7_pailsOn [.inr (.inr (7, aa)), .inl xb, .inl xc] w =
  if xc < 0 then
    some (some (.inl (-1)), w)
  else
    if (w.1 7 aa 1) ≤ xc then
      some (some (.inl (-1)), w)
    else
      if ((w.1 7 aa 1) - 30) ≤ xc then
        nc_bd (((xc - xc / 30 * 30) * 4) + xb) 120 fun j1 =>
        some (some (.inl (w.1 562 aa j1)), w)
      else
        some (some (.inl (-1)), w) :=
  (nc_Call_eq _ _ _).trans ((if_pos (Nat.le_of_ble_eq_true rfl)).trans ((nc_Run_un [] 23).trans rfl))
set_option maxRecDepth 100000 in
theorem qc_X9_clear (aa : Nat) (w : nc_H) : nc_Call m_X9_clear [.inr (.inr (9, aa))] w =
  nc_lt (nc_si w 9 aa 3 0) fun w1 =>
  nc_lt (nc_si w1 9 aa 4 0) fun w2 =>
  some (none, w2) :=
  (nc_Call_eq _ _ _).trans ((if_pos (Nat.le_of_ble_eq_true rfl)).trans ((nc_Run_un [] 7).trans rfl))
set_option maxRecDepth 100000 in
theorem qc_X9_put (aa : Nat) (xb : Int32) (xc : Int32) (xd : Int32) (w : nc_H) : nc_Call m_X9_put [.inr (.inr (9, aa)), .inl xb, .inl xc, .inl xd] w =
  if (40 : Int32) ≤ (w.1 9 aa 3) then
    some (none, w)
  else
    nc_bd (w.1 9 aa 3) 40 fun j1 =>
    nc_lt (nc_si w 676 aa j1 xb) fun w2 =>
    nc_bd (w2.1 9 aa 3) 40 fun j3 =>
    nc_lt (nc_si w2 677 aa j3 xc) fun w4 =>
    nc_bd (w4.1 9 aa 3) 40 fun j5 =>
    nc_lt (nc_si w4 678 aa j5 xd) fun w6 =>
    nc_lt (nc_si w6 9 aa 3 ((w6.1 9 aa 3) + 1)) fun w7 =>
    some (none, w7) :=
  (nc_Call_eq _ _ _).trans ((if_pos (Nat.le_of_ble_eq_true rfl)).trans ((nc_Run_un [] 29).trans rfl))
set_option maxRecDepth 100000 in
theorem qc_X9_compares (aa : Nat) (xb : Int32) (xc : Int32) (w : nc_H) : nc_Call m_X9_compares [.inr (.inr (9, aa)), .inl xb, .inl xc] w =
  nc_bd xc 40 fun j1 =>
  if (w.1 677 aa j1) ≠ 60 then
    nc_bd xc 40 fun j2 =>
    if (w.1 677 aa j2) ≠ 62 then
      nc_bd xc 40 fun j3 =>
      if xb ≠ (w.1 678 aa j3) then
        some (some (.inl 0), w)
      else
        some (some (.inl 1), w)
    else
      nc_bd xc 40 fun j4 =>
      if xb ≤ (w.1 678 aa j4) then
        some (some (.inl 0), w)
      else
        some (some (.inl 1), w)
  else
    nc_bd xc 40 fun j5 =>
    if (w.1 678 aa j5) ≤ xb then
      some (some (.inl 0), w)
    else
      some (some (.inl 1), w) :=
  (nc_Call_eq _ _ _).trans ((if_pos (Nat.le_of_ble_eq_true rfl)).trans ((nc_Run_un [] 21).trans rfl))
set_option maxRecDepth 100000 in
theorem qc_X10_withLetter (ya : Int64) (xc : Int32) (w : nc_H) : nc_Call m_X10_withLetter [.inr (.inl ya), .inl xc] w =
  some (some (.inr (.inl ((ya <<< ((5 : Int32).toInt64 &&& 63)) ||| ((xc &&& 31).toInt64)))), w) :=
  (nc_Call_eq _ _ _).trans ((if_pos (Nat.le_of_ble_eq_true rfl)).trans ((nc_Run_un [] 9).trans rfl))
set_option maxRecDepth 100000 in
theorem qc_X10_isLetter (xa : Int32) (w : nc_H) : nc_Call m_X10_isLetter [.inl xa] w =
  if xa < 97 then
    some (some (.inl 0), w)
  else
    if (122 : Int32) < xa then
      some (some (.inl 0), w)
    else
      some (some (.inl 1), w) :=
  (nc_Call_eq _ _ _).trans ((if_pos (Nat.le_of_ble_eq_true rfl)).trans ((nc_Run_un [] 9).trans rfl))
set_option maxRecDepth 100000 in
theorem qc_X10_isDigit (xa : Int32) (w : nc_H) : nc_Call m_X10_isDigit [.inl xa] w =
  if xa < 48 then
    some (some (.inl 0), w)
  else
    if (57 : Int32) < xa then
      some (some (.inl 0), w)
    else
      some (some (.inl 1), w) :=
  (nc_Call_eq _ _ _).trans ((if_pos (Nat.le_of_ble_eq_true rfl)).trans ((nc_Run_un [] 9).trans rfl))
set_option maxRecDepth 100000 in
theorem qc_X10_append (aa : Nat) (xb : Int32) (w : nc_H) : nc_Call m_X10_append [.inr (.inr (10, aa)), .inl xb] w =
  nc_Run m_X10_append 3 [some (.inr (.inr (10, aa))), some (.inl xb), some (.inl 24)] [] w :=
  (nc_Call_eq _ _ _).trans ((if_pos (Nat.le_of_ble_eq_true rfl)).trans ((nc_Run_un [3] 3).trans rfl))
set_option maxRecDepth 100000 in
theorem qr_X10_append_3 (aa : Nat) (xb : Int32) (xc : Int32) (w : nc_H) : nc_Run m_X10_append 3 [some (.inr (.inr (10, aa))), some (.inl xb), some (.inl xc)] [] w =
  if xc < 0 then
    some (none, w)
  else
    if (940 : Int32) ≤ (w.1 10 aa 1) then
      nc_li (xc + Int32.ofInt (-8)) fun x1 =>
      nc_Run m_X10_append 3 [some (.inr (.inr (10, aa))), some (.inl xb), some (.inl x1)] [] w
    else
      nc_bd (w.1 10 aa 1) 940 fun j2 =>
      nc_lt (nc_si w 740 aa j2 ((((xb.toUInt32 >>> (xc.toUInt32 &&& Int32.toUInt32 31)).toInt32).toInt8.toInt32).toInt8.toInt32)) fun w3 =>
      nc_lt (nc_si w3 10 aa 1 ((w3.1 10 aa 1) + 1)) fun w4 =>
      nc_li (xc + Int32.ofInt (-8)) fun x5 =>
      nc_Run m_X10_append 3 [some (.inr (.inr (10, aa))), some (.inl xb), some (.inl x5)] [] w4 :=
  (nc_Run_un [3] 24).trans rfl
set_option maxRecDepth 100000 in
theorem qc_X10_at (aa : Nat) (xb : Int32) (w : nc_H) : nc_Call m_X10_at [.inr (.inr (10, aa)), .inl xb] w =
  if xb < 0 then
    some (some (.inl (-1)), w)
  else
    if (940 : Int32) ≤ xb then
      some (some (.inl (-1)), w)
    else
      nc_bd xb 940 fun j1 =>
      some (some (.inl ((w.1 740 aa j1) &&& 255)), w) :=
  (nc_Call_eq _ _ _).trans ((if_pos (Nat.le_of_ble_eq_true rfl)).trans ((nc_Run_un [] 13).trans rfl))
set_option maxRecDepth 100000 in
theorem qc_X10_toldWord (aa : Nat) (yb : Int64) (w : nc_H) : nc_Call m_X10_toldWord [.inr (.inr (10, aa)), .inr (.inl yb)] w =
  nc_Run m_X10_toldWord 2 [some (.inr (.inr (10, aa))), some (.inr (.inl yb)), none, some (.inl 0)] [] w :=
  (nc_Call_eq _ _ _).trans ((if_pos (Nat.le_of_ble_eq_true rfl)).trans ((nc_Run_un [2] 3).trans rfl))
set_option maxRecDepth 100000 in
theorem qr_X10_toldWord_2 (aa : Nat) (yb : Int64) (xd : Int32) (w : nc_H) : nc_Run m_X10_toldWord 2 [some (.inr (.inr (10, aa))), some (.inr (.inl yb)), none, some (.inl xd)] [] w =
  if (24 : Int32) ≤ xd then
    some (some (.inl (-1)), w)
  else
    nc_bd xd 24 fun j1 =>
    if (lg_cmp (w.2 742 aa j1) yb) ≠ 0 then
      nc_li (xd + 1) fun x2 =>
      nc_Run m_X10_toldWord 2 [some (.inr (.inr (10, aa))), some (.inr (.inl yb)), none, some (.inl x2)] [] w
    else
      some (some (.inl xd), w) :=
  (nc_Run_un [2] 13).trans rfl
set_option maxRecDepth 100000 in
theorem qc_X10_add (aa : Nat) (xb : Int32) (xc : Int32) (xd : Int32) (ye : Int64) (w : nc_H) : nc_Call m_X10_add [.inr (.inr (10, aa)), .inl xb, .inl xc, .inl xd, .inr (.inl ye)] w =
  if (901 : Int32) ≤ (w.1 10 aa 7) then
    some (none, w)
  else
    nc_bd (w.1 10 aa 7) 901 fun j1 =>
    nc_lt (nc_si w 743 aa j1 xb) fun w2 =>
    nc_bd (w2.1 10 aa 7) 901 fun j3 =>
    nc_lt (nc_si w2 744 aa j3 xc) fun w4 =>
    nc_bd (w4.1 10 aa 7) 901 fun j5 =>
    nc_lt (nc_si w4 745 aa j5 xd) fun w6 =>
    nc_bd (w6.1 10 aa 7) 901 fun j7 =>
    nc_lt (nc_sl w6 746 aa j7 ye) fun w8 =>
    nc_lt (nc_si w8 10 aa 7 ((w8.1 10 aa 7) + 1)) fun w9 =>
    some (none, w9) :=
  (nc_Call_eq _ _ _).trans ((if_pos (Nat.le_of_ble_eq_true rfl)).trans ((nc_Run_un [] 35).trans rfl))
set_option maxRecDepth 100000 in
theorem qc_X10_next (aa : Nat) (w : nc_H) : nc_Call m_X10_next [.inr (.inr (10, aa))] w =
  if (w.1 10 aa 8) < 0 then
    some (none, w)
  else
    if (w.1 10 aa 7) ≤ (w.1 10 aa 8) then
      some (none, w)
    else
      if (901 : Int32) ≤ (w.1 10 aa 8) then
        some (none, w)
      else
        nc_bd (w.1 10 aa 8) 901 fun j1 =>
        nc_lt (nc_si w 10 aa 10 (w.1 743 aa j1)) fun w2 =>
        nc_bd (w2.1 10 aa 8) 901 fun j3 =>
        nc_lt (nc_si w2 10 aa 11 (w2.1 744 aa j3)) fun w4 =>
        nc_bd (w4.1 10 aa 8) 901 fun j5 =>
        nc_lt (nc_si w4 10 aa 12 (w4.1 745 aa j5)) fun w6 =>
        nc_bd (w6.1 10 aa 8) 901 fun j7 =>
        nc_lt (nc_sl w6 10 aa 13 (w6.2 746 aa j7)) fun w8 =>
        nc_lt (nc_si w8 10 aa 8 ((w8.1 10 aa 8) + 1)) fun w9 =>
        some (none, w9) :=
  (nc_Call_eq _ _ _).trans ((if_pos (Nat.le_of_ble_eq_true rfl)).trans ((nc_Run_un [] 47).trans rfl))
set_option maxRecDepth 100000 in
theorem qc_X10_fail (aa : Nat) (xb : Int32) (w : nc_H) : nc_Call m_X10_fail [.inr (.inr (10, aa)), .inl xb] w =
  nc_lt (nc_si w 10 aa 14 xb) fun w1 =>
  nc_lt (nc_si w1 10 aa 15 (w1.1 10 aa 10)) fun w2 =>
  some (some (.inl 0), w2) :=
  (nc_Call_eq _ _ _).trans ((if_pos (Nat.le_of_ble_eq_true rfl)).trans ((nc_Run_un [] 9).trans rfl))
set_option maxRecDepth 100000 in
theorem qc_X10_word (aa : Nat) (w : nc_H) : nc_Call m_X10_word [.inr (.inr (10, aa))] w =
  if (w.1 10 aa 11) ≠ 2 then
    some (some (.inl (-1)), w)
  else
    some (some (.inl (w.1 10 aa 12)), w) :=
  (nc_Call_eq _ _ _).trans ((if_pos (Nat.le_of_ble_eq_true rfl)).trans ((nc_Run_un [] 8).trans rfl))
set_option maxRecDepth 100000 in
theorem qc_X10_isSign (aa : Nat) (xb : Int32) (w : nc_H) : nc_Call m_X10_isSign [.inr (.inr (10, aa)), .inl xb] w =
  if (w.1 10 aa 11) ≠ 5 then
    some (some (.inl 0), w)
  else
    if (w.1 10 aa 12) ≠ xb then
      some (some (.inl 0), w)
    else
      some (some (.inl 1), w) :=
  (nc_Call_eq _ _ _).trans ((if_pos (Nat.le_of_ble_eq_true rfl)).trans ((nc_Run_un [] 11).trans rfl))
set_option maxRecDepth 100000 in
theorem qc_X11_end (aa : Nat) (xb : Int32) (w : nc_H) : nc_Call m_X11_end [.inr (.inr (11, aa)), .inl xb] w =
  if xb < 0 then
    some (some (.inl 0), w)
  else
    if xb ≤ (w.1 10 0 1) then
      nc_lt (nc_si w 10 0 1 xb) fun w1 =>
      some (some (.inl 1), w1)
    else
      some (some (.inl 0), w) :=
  (nc_Call_eq _ _ _).trans ((if_pos (Nat.le_of_ble_eq_true rfl)).trans ((nc_Run_un [] 13).trans rfl))
set_option maxRecDepth 100000 in
theorem qc_X11_fault (aa : Nat) (w : nc_H) : nc_Call m_X11_fault [.inr (.inr (11, aa))] w =
  some (some (.inl (w.1 10 0 14)), w) :=
  (nc_Call_eq _ _ _).trans ((if_pos (Nat.le_of_ble_eq_true rfl)).trans ((nc_Run_un [] 4).trans rfl))
set_option maxRecDepth 100000 in
theorem qc_X11_told (aa : Nat) (w : nc_H) : nc_Call m_X11_told [.inr (.inr (11, aa))] w =
  some (some (.inl (w.1 1 0 8)), w) :=
  (nc_Call_eq _ _ _).trans ((if_pos (Nat.le_of_ble_eq_true rfl)).trans ((nc_Run_un [] 4).trans rfl))
set_option maxRecDepth 100000 in
theorem qc_X11_planAt (aa : Nat) (xb : Int32) (w : nc_H) : nc_Call m_X11_planAt [.inr (.inr (11, aa)), .inl xb] w =
  if xb < 0 then
    some (some (.inl (-1)), w)
  else
    if (w.1 8 0 5) ≤ xb then
      some (some (.inl (-1)), w)
    else
      nc_bd xb 3 fun j1 =>
      some (some (.inl (w.1 616 0 j1)), w) :=
  (nc_Call_eq _ _ _).trans ((if_pos (Nat.le_of_ble_eq_true rfl)).trans ((nc_Run_un [] 14).trans rfl))
set_option maxRecDepth 100000 in
theorem qc_X11_parted (aa : Nat) (w : nc_H) : nc_Call m_X11_parted [.inr (.inr (11, aa))] w =
  some (some (.inl (w.1 11 aa 15)), w) :=
  (nc_Call_eq _ _ _).trans ((if_pos (Nat.le_of_ble_eq_true rfl)).trans ((nc_Run_un [] 3).trans rfl))
set_option maxRecDepth 100000 in
theorem qc_X11_surely (aa : Nat) (w : nc_H) : nc_Call m_X11_surely [.inr (.inr (11, aa))] w =
  some (some (.inl (w.1 1 0 9)), w) :=
  (nc_Call_eq _ _ _).trans ((if_pos (Nat.le_of_ble_eq_true rfl)).trans ((nc_Run_un [] 4).trans rfl))
set_option maxRecDepth 100000 in
theorem qc_X11_ask (aa : Nat) (w : nc_H) : nc_Call m_X11_ask [.inr (.inr (11, aa))] w =
  some (some (.inl (w.1 1 0 10)), w) :=
  (nc_Call_eq _ _ _).trans ((if_pos (Nat.le_of_ble_eq_true rfl)).trans ((nc_Run_un [] 4).trans rfl))
set_option maxRecDepth 100000 in
theorem qc_X11_written (aa : Nat) (xb : Int32) (w : nc_H) : nc_Call m_X11_written [.inr (.inr (11, aa)), .inl xb] w =
  if (w.1 0 0 4) ≠ 0 then
    if xb = 0 then
      some (some (.inl (w.1 0 0 5)), w)
    else
    if xb = 1 then
      some (some (.inl (w.1 0 0 6)), w)
    else
    if xb = 2 then
      some (some (.inl (w.1 0 0 7)), w)
    else
    if xb = 3 then
      some (some (.inl (w.1 0 0 8)), w)
    else
      some (some (.inl (-1)), w)
  else
    some (some (.inl (-1)), w) :=
  (nc_Call_eq _ _ _).trans ((if_pos (Nat.le_of_ble_eq_true rfl)).trans ((nc_Run_un [] 10).trans rfl))
set_option maxRecDepth 100000 in
theorem qc_X11_count (aa : Nat) (xb : Int32) (w : nc_H) : nc_Call m_X11_count [.inr (.inr (11, aa)), .inl xb] w =
  if xb = 0 then
    some (some (.inl (w.1 2 0 1)), w)
  else
  if xb = 1 then
    some (some (.inl (w.1 2 0 2)), w)
  else
  if xb = 2 then
    some (some (.inl (w.1 2 0 3)), w)
  else
  if xb = 3 then
    some (some (.inl (w.1 2 0 4)), w)
  else
  if xb = 4 then
    some (some (.inl (w.1 2 0 5)), w)
  else
  if xb = 5 then
    some (some (.inl (w.1 10 0 1)), w)
  else
    some (some (.inl (-1)), w) :=
  (nc_Call_eq _ _ _).trans ((if_pos (Nat.le_of_ble_eq_true rfl)).trans ((nc_Run_un [] 6).trans rfl))
set_option maxRecDepth 100000 in
theorem qc_X11_isFarm (aa : Nat) (xb : Int32) (w : nc_H) : nc_Call m_X11_isFarm [.inr (.inr (11, aa)), .inl xb] w =
  if xb < 0 then
    some (some (.inl 0), w)
  else
    if (w.1 2 0 1) ≤ xb then
      some (some (.inl 0), w)
    else
      some (some (.inl 1), w) :=
  (nc_Call_eq _ _ _).trans ((if_pos (Nat.le_of_ble_eq_true rfl)).trans ((nc_Run_un [] 10).trans rfl))
set_option maxRecDepth 100000 in
theorem qc_X11_isCow (aa : Nat) (xb : Int32) (w : nc_H) : nc_Call m_X11_isCow [.inr (.inr (11, aa)), .inl xb] w =
  if xb < 0 then
    some (some (.inl 0), w)
  else
    if (w.1 2 0 2) ≤ xb then
      some (some (.inl 0), w)
    else
      some (some (.inl 1), w) :=
  (nc_Call_eq _ _ _).trans ((if_pos (Nat.le_of_ble_eq_true rfl)).trans ((nc_Run_un [] 10).trans rfl))
set_option maxRecDepth 100000 in
theorem qc_X11_isNews (aa : Nat) (xb : Int32) (w : nc_H) : nc_Call m_X11_isNews [.inr (.inr (11, aa)), .inl xb] w =
  if xb < 0 then
    some (some (.inl 0), w)
  else
    if (w.1 2 0 3) ≤ xb then
      some (some (.inl 0), w)
    else
      some (some (.inl 1), w) :=
  (nc_Call_eq _ _ _).trans ((if_pos (Nat.le_of_ble_eq_true rfl)).trans ((nc_Run_un [] 10).trans rfl))
set_option maxRecDepth 100000 in
theorem qc_X11_cowsWith (aa : Nat) (tb : Nat) (ab : Nat) (xc : Int32) (w : nc_H) : nc_Call m_X11_cowsWith [.inr (.inr (11, aa)), .inr (.inr (tb, ab)), .inl xc] w =
  nc_Run m_X11_cowsWith 5 [some (.inr (.inr (11, aa))), some (.inr (.inr (tb, ab))), some (.inl xc), some (.inl 0), some (.inl 0)] [] w :=
  (nc_Call_eq _ _ _).trans ((if_pos (Nat.le_of_ble_eq_true rfl)).trans ((nc_Run_un [5] 5).trans rfl))
set_option maxRecDepth 100000 in
theorem qr_X11_cowsWith_5 (aa : Nat) (tb : Nat) (ab : Nat) (xc : Int32) (xd : Int32) (xe : Int32) (w : nc_H) : nc_Run m_X11_cowsWith 5 [some (.inr (.inr (11, aa))), some (.inr (.inr (tb, ab))), some (.inl xc), some (.inl xd), some (.inl xe)] [] w =
  if (w.1 2 0 2) ≤ xe then
    some (some (.inl xd), w)
  else
    cond (Nat.beq (nc_ak tb) 0) (
    nc_bd xe (nc_al tb) fun j1 =>
    nc_li (xd ||| ((((w.1 tb ab j1) >>> (xc &&& 31)) &&& 1) <<< (xe &&& 31))) fun x2 =>
    nc_li (xe + 1) fun x3 =>
    nc_Run m_X11_cowsWith 5 [some (.inr (.inr (11, aa))), some (.inr (.inr (tb, ab))), some (.inl xc), some (.inl x2), some (.inl x3)] [] w) none :=
  (nc_Run_un [5] 20).trans rfl
set_option maxRecDepth 100000 in
theorem qc_J6_bitCount_0f7a4 (xa : Int32) (w : nc_H) : nc_Call m_J6_bitCount_0f7a4 [.inl xa] w =
  nc_li (xa - (((xa.toUInt32 >>> ((1 : Int32).toUInt32 &&& Int32.toUInt32 31)).toInt32) &&& 1431655765)) fun x1 =>
  nc_li ((x1 &&& 858993459) + (((x1.toUInt32 >>> ((2 : Int32).toUInt32 &&& Int32.toUInt32 31)).toInt32) &&& 858993459)) fun x2 =>
  nc_li ((x2 + ((x2.toUInt32 >>> ((4 : Int32).toUInt32 &&& Int32.toUInt32 31)).toInt32)) &&& 252645135) fun x3 =>
  nc_li (x3 + ((x3.toUInt32 >>> ((8 : Int32).toUInt32 &&& Int32.toUInt32 31)).toInt32)) fun x4 =>
  nc_li (x4 + ((x4.toUInt32 >>> ((16 : Int32).toUInt32 &&& Int32.toUInt32 31)).toInt32)) fun x5 =>
  some (some (.inl (x5 &&& 63)), w) :=
  (nc_Call_eq _ _ _).trans ((if_pos (Nat.le_of_ble_eq_true rfl)).trans ((nc_Run_un [] 42).trans rfl))
set_option maxRecDepth 100000 in
theorem qc_J7_fill_d0a16 (ta : Nat) (aa : Nat) (yb : Int64) (w : nc_H) : nc_Call m_J7_fill_d0a16 [.inr (.inr (ta, aa)), .inr (.inl yb)] w =
  cond (Nat.ble (nc_ak ta) 4) (
  nc_li (Int32.ofNat (nc_al ta)) fun x1 =>
  nc_Run m_J7_fill_d0a16 6 [some (.inr (.inr (ta, aa))), some (.inr (.inl yb)), none, some (.inl 0), some (.inl x1)] [] w) none :=
  (nc_Call_eq _ _ _).trans ((if_pos (Nat.le_of_ble_eq_true rfl)).trans ((nc_Run_un [6] 6).trans rfl))
set_option maxRecDepth 100000 in
theorem qr_J7_fill_d0a16_6 (ta : Nat) (aa : Nat) (yb : Int64) (xd : Int32) (xe : Int32) (w : nc_H) : nc_Run m_J7_fill_d0a16 6 [some (.inr (.inr (ta, aa))), some (.inr (.inl yb)), none, some (.inl xd), some (.inl xe)] [] w =
  if xe ≤ xd then
    some (none, w)
  else
    cond (Nat.beq (nc_ak ta) 3) (
    nc_bd xd (nc_al ta) fun j1 =>
    nc_lt (nc_sl w ta aa j1 yb) fun w2 =>
    nc_li (xd + 1) fun x3 =>
    nc_Run m_J7_fill_d0a16 6 [some (.inr (.inr (ta, aa))), some (.inr (.inl yb)), none, some (.inl x3), some (.inl xe)] [] w2) none :=
  (nc_Run_un [6] 10).trans rfl
set_option maxRecDepth 100000 in
theorem qc_J7_fill_53178 (ta : Nat) (aa : Nat) (xb : Int32) (w : nc_H) : nc_Call m_J7_fill_53178 [.inr (.inr (ta, aa)), .inl xb] w =
  cond (Nat.ble (nc_ak ta) 4) (
  nc_li (Int32.ofNat (nc_al ta)) fun x1 =>
  nc_Run m_J7_fill_53178 5 [some (.inr (.inr (ta, aa))), some (.inl xb), some (.inl 0), some (.inl x1)] [] w) none :=
  (nc_Call_eq _ _ _).trans ((if_pos (Nat.le_of_ble_eq_true rfl)).trans ((nc_Run_un [5] 6).trans rfl))
set_option maxRecDepth 100000 in
theorem qr_J7_fill_53178_5 (ta : Nat) (aa : Nat) (xb : Int32) (xc : Int32) (xd : Int32) (w : nc_H) : nc_Run m_J7_fill_53178 5 [some (.inr (.inr (ta, aa))), some (.inl xb), some (.inl xc), some (.inl xd)] [] w =
  if xd ≤ xc then
    some (none, w)
  else
    cond (Nat.beq (nc_ak ta) 0) (
    nc_bd xc (nc_al ta) fun j1 =>
    nc_lt (nc_si w ta aa j1 xb) fun w2 =>
    nc_li (xc + 1) fun x3 =>
    nc_Run m_J7_fill_53178 5 [some (.inr (.inr (ta, aa))), some (.inl xb), some (.inl x3), some (.inl xd)] [] w2) none :=
  (nc_Run_un [5] 10).trans rfl
set_option maxRecDepth 100000 in
theorem qc_X10_mustBeSign (aa : Nat) (xb : Int32) (w : nc_H) : nc_Call m_X10_mustBeSign [.inr (.inr (10, aa)), .inl xb] w =
  nc_bI (nc_Call m_X10_isSign [.inr (.inr (10, aa)), .inl xb] w) fun r2 w1 =>
  if r2 ≠ 0 then
    some (some (.inl 1), w1)
  else
    nc_bI (nc_Call m_X10_fail [.inr (.inr (10, aa)), .inl 1] w1) fun r4 w3 =>
    if r4 = 0 then
      some (some (.inl 0), w3)
    else
      some (some (.inl 1), w3) :=
  (nc_Call_eq _ _ _).trans ((if_pos (Nat.le_of_ble_eq_true rfl)).trans ((nc_Run_un [] 11).trans rfl))
set_option maxRecDepth 100000 in
theorem qc_X2_named (aa : Nat) (ab : Nat) (xc : Int32) (xd : Int32) (w : nc_H) : nc_Call m_X2_named [.inr (.inr (2, aa)), .inr (.inr (10, ab)), .inl xc, .inl xd] w =
  if (w.1 10 ab 11) = 3 then
    nc_bI (nc_Call m_X2_slotOf [.inr (.inr (2, aa)), .inr (.inl (w.2 10 ab 13))] w) fun r2 w1 =>
    nc_li (r2 - xc) fun x3 =>
    if x3 < 0 then
      nc_bI (nc_Call m_X10_fail [.inr (.inr (10, ab)), .inl 3] w1) fun r5 w4 =>
      some (some (.inl (-1)), w4)
    else
      if x3 < xd then
        some (some (.inl x3), w1)
      else
        nc_bI (nc_Call m_X10_fail [.inr (.inr (10, ab)), .inl 3] w1) fun r7 w6 =>
        some (some (.inl (-1)), w6)
  else
    nc_bI (nc_Call m_X10_fail [.inr (.inr (10, ab)), .inl 1] w) fun r9 w8 =>
    some (some (.inl (-1)), w8) :=
  (nc_Call_eq _ _ _).trans ((if_pos (Nat.le_of_ble_eq_true rfl)).trans ((nc_Run_un [] 22).trans rfl))
set_option maxRecDepth 100000 in
theorem qc_X10_nextNumber (aa : Nat) (xb : Int32) (xc : Int32) (w : nc_H) : nc_Call m_X10_nextNumber [.inr (.inr (10, aa)), .inl xb, .inl xc] w =
  nc_bV (nc_Call m_X10_next [.inr (.inr (10, aa))] w) fun w1 =>
  if (w1.1 10 aa 11) = 4 then
    if (w1.1 10 aa 12) < xb then
      nc_bI (nc_Call m_X10_fail [.inr (.inr (10, aa)), .inl 2] w1) fun r3 w2 =>
      if r3 = 0 then
        some (some (.inl 0), w2)
      else
        some (some (.inl 1), w2)
    else
      if (w1.1 10 aa 12) ≤ xc then
        some (some (.inl 1), w1)
      else
        nc_bI (nc_Call m_X10_fail [.inr (.inr (10, aa)), .inl 2] w1) fun r5 w4 =>
        if r5 = 0 then
          some (some (.inl 0), w4)
        else
          some (some (.inl 1), w4)
  else
    nc_bI (nc_Call m_X10_fail [.inr (.inr (10, aa)), .inl 1] w1) fun r7 w6 =>
    nc_z r7 <| some (some (.inl r7), w6) :=
  (nc_Call_eq _ _ _).trans ((if_pos (Nat.le_of_ble_eq_true rfl)).trans ((nc_Run_un [] 21).trans rfl))
set_option maxRecDepth 100000 in
theorem qc_X9_readPlainOne (aa : Nat) (ab : Nat) (ac : Nat) (xd : Int32) (w : nc_H) : nc_Call m_X9_readPlainOne [.inr (.inr (9, aa)), .inr (.inr (10, ab)), .inr (.inr (2, ac)), .inl xd] w =
  if xd ≠ 17 then
    if xd = 18 then
      nc_bV (nc_Call m_X10_next [.inr (.inr (10, ab))] w) fun w1 =>
      nc_bI (nc_Call m_X2_named [.inr (.inr (2, ac)), .inr (.inr (10, ab)), .inl 12, .inl 10] w1) fun r3 w2 =>
      nc_bV (nc_Call m_X9_put [.inr (.inr (9, aa)), .inl xd, .inl 0, .inl r3] w2) fun w4 =>
      if r3 < 0 then
        some (some (.inl 0), w4)
      else
        some (some (.inl 1), w4)
    else
      if xd ≠ 19 then
        if xd = 15 then
          nc_bV (nc_Call m_X9_put [.inr (.inr (9, aa)), .inl xd, .inl 0, .inl 0] w) fun w5 =>
          some (some (.inl 1), w5)
        else
          if xd = 16 then
            nc_bV (nc_Call m_X9_put [.inr (.inr (9, aa)), .inl xd, .inl 0, .inl 0] w) fun w6 =>
            some (some (.inl 1), w6)
          else
            nc_bV (nc_Call m_X10_next [.inr (.inr (10, ab))] w) fun w7 =>
            nc_li (w7.1 10 ab 12) fun x8 =>
            nc_bI (nc_Call m_X10_isSign [.inr (.inr (10, ab)), .inl 60] w7) fun r10 w9 =>
            if r10 ≠ 0 then
              nc_bI (nc_Call m_X10_nextNumber [.inr (.inr (10, ab)), .inl 0, .inl 999] w9) fun r12 w11 =>
              if r12 = 0 then
                nc_bV (nc_Call m_X9_put [.inr (.inr (9, aa)), .inl xd, .inl x8, .inl (-1)] w11) fun w13 =>
                some (some (.inl 0), w13)
              else
                nc_li (w11.1 10 ab 12) fun x14 =>
                nc_bV (nc_Call m_X9_put [.inr (.inr (9, aa)), .inl xd, .inl x8, .inl x14] w11) fun w15 =>
                if x14 < 0 then
                  some (some (.inl 0), w15)
                else
                  some (some (.inl 1), w15)
            else
              nc_bI (nc_Call m_X10_isSign [.inr (.inr (10, ab)), .inl 61] w9) fun r17 w16 =>
              if r17 ≠ 0 then
                nc_bI (nc_Call m_X10_nextNumber [.inr (.inr (10, ab)), .inl 0, .inl 999] w16) fun r19 w18 =>
                if r19 = 0 then
                  nc_bV (nc_Call m_X9_put [.inr (.inr (9, aa)), .inl xd, .inl x8, .inl (-1)] w18) fun w20 =>
                  some (some (.inl 0), w20)
                else
                  nc_li (w18.1 10 ab 12) fun x21 =>
                  nc_bV (nc_Call m_X9_put [.inr (.inr (9, aa)), .inl xd, .inl x8, .inl x21] w18) fun w22 =>
                  if x21 < 0 then
                    some (some (.inl 0), w22)
                  else
                    some (some (.inl 1), w22)
              else
                nc_bI (nc_Call m_X10_isSign [.inr (.inr (10, ab)), .inl 62] w16) fun r24 w23 =>
                if r24 ≠ 0 then
                  nc_bI (nc_Call m_X10_nextNumber [.inr (.inr (10, ab)), .inl 0, .inl 999] w23) fun r26 w25 =>
                  if r26 = 0 then
                    nc_bV (nc_Call m_X9_put [.inr (.inr (9, aa)), .inl xd, .inl x8, .inl (-1)] w25) fun w27 =>
                    some (some (.inl 0), w27)
                  else
                    nc_li (w25.1 10 ab 12) fun x28 =>
                    nc_bV (nc_Call m_X9_put [.inr (.inr (9, aa)), .inl xd, .inl x8, .inl x28] w25) fun w29 =>
                    if x28 < 0 then
                      some (some (.inl 0), w29)
                    else
                      some (some (.inl 1), w29)
                else
                  nc_bI (nc_Call m_X10_fail [.inr (.inr (10, ab)), .inl 1] w23) fun r31 w30 =>
                  nc_z r31 <| some (some (.inl r31), w30)
      else
        nc_bV (nc_Call m_X10_next [.inr (.inr (10, ab))] w) fun w32 =>
        nc_bI (nc_Call m_X2_named [.inr (.inr (2, ac)), .inr (.inr (10, ab)), .inl 12, .inl 10] w32) fun r34 w33 =>
        nc_bV (nc_Call m_X9_put [.inr (.inr (9, aa)), .inl xd, .inl 0, .inl r34] w33) fun w35 =>
        if r34 < 0 then
          some (some (.inl 0), w35)
        else
          some (some (.inl 1), w35)
  else
    nc_bV (nc_Call m_X10_next [.inr (.inr (10, ab))] w) fun w36 =>
    nc_bI (nc_Call m_X2_named [.inr (.inr (2, ac)), .inr (.inr (10, ab)), .inl 0, .inl 4] w36) fun r38 w37 =>
    nc_bV (nc_Call m_X9_put [.inr (.inr (9, aa)), .inl xd, .inl 0, .inl r38] w37) fun w39 =>
    if r38 < 0 then
      some (some (.inl 0), w39)
    else
      some (some (.inl 1), w39) :=
  (nc_Call_eq _ _ _).trans ((if_pos (Nat.le_of_ble_eq_true rfl)).trans ((nc_Run_un [] 55).trans rfl))
set_option maxRecDepth 100000 in
theorem qc_X7_sumOf (aa : Nat) (xb : Int32) (w : nc_H) : nc_Call m_X7_sumOf [.inr (.inr (7, aa)), .inl xb] w =
  nc_bd xb 8 fun j1 =>
  nc_li (w.1 239 (nc_ld aa) j1) fun x2 =>
  nc_bI (nc_Call m_X7_heardByOthers [.inr (.inr (7, aa)), .inl xb] w) fun r4 w3 =>
  nc_Run m_X7_sumOf 19 [some (.inr (.inr (7, aa))), some (.inl xb), some (.inl x2), some (.inl r4), some (.inl 0)] [] w3 :=
  (nc_Call_eq _ _ _).trans ((if_pos (Nat.le_of_ble_eq_true rfl)).trans ((nc_Run_un [19] 13).trans rfl))
set_option maxRecDepth 100000 in
theorem qr_X7_sumOf_19 (aa : Nat) (xb : Int32) (xc : Int32) (xd : Int32) (xe : Int32) (w : nc_H) : nc_Run m_X7_sumOf 19 [some (.inr (.inr (7, aa))), some (.inl xb), some (.inl xc), some (.inl xd), some (.inl xe)] [] w =
  if (w.1 2 (nc_ld aa) 3) ≤ xe then
    some (some (.inl xc), w)
  else
    nc_bd xb 8 fun j1 =>
    if (((w.1 555 aa j1) >>> (xe &&& 31)) &&& 1) ≠ 1 then
      nc_bd xb 8 fun j2 =>
      if (((w.1 557 aa j2) >>> (xe &&& 31)) &&& 1) ≠ 1 then
        nc_li (xe + 1) fun x3 =>
        nc_Run m_X7_sumOf 19 [some (.inr (.inr (7, aa))), some (.inl xb), some (.inl xc), some (.inl xd), some (.inl x3)] [] w
      else
        nc_bd xe 10 fun j4 =>
        if (w.1 242 (nc_ld aa) j4) ≠ 3 then
          nc_li (xe + 1) fun x5 =>
          nc_Run m_X7_sumOf 19 [some (.inr (.inr (7, aa))), some (.inl xb), some (.inl xc), some (.inl xd), some (.inl x5)] [] w
        else
          if (((w.1 2 (nc_ld aa) 6) >>> (xe &&& 31)) &&& 1) ≠ 1 then
            nc_bd xe 10 fun j6 =>
            nc_li (xc + (w.1 243 (nc_ld aa) j6)) fun x7 =>
            nc_li (xe + 1) fun x8 =>
            nc_Run m_X7_sumOf 19 [some (.inr (.inr (7, aa))), some (.inl xb), some (.inl x7), some (.inl xd), some (.inl x8)] [] w
          else
            nc_bd xe 10 fun j9 =>
            nc_li (xc + (-(w.1 243 (nc_ld aa) j9))) fun x10 =>
            nc_li (xe + 1) fun x11 =>
            nc_Run m_X7_sumOf 19 [some (.inr (.inr (7, aa))), some (.inl xb), some (.inl x10), some (.inl xd), some (.inl x11)] [] w
    else
      nc_bd xb 8 fun j12 =>
      nc_bI (nc_Call m_X7_addedBy [.inr (.inr (7, aa)), .inl xe, .inl xd, .inl (w.1 556 aa j12)] w) fun r14 w13 =>
      nc_li (xc + r14) fun x15 =>
      nc_bd xb 8 fun j16 =>
      if (((w13.1 557 aa j16) >>> (xe &&& 31)) &&& 1) ≠ 1 then
        nc_li (xe + 1) fun x17 =>
        nc_Run m_X7_sumOf 19 [some (.inr (.inr (7, aa))), some (.inl xb), some (.inl x15), some (.inl xd), some (.inl x17)] [] w13
      else
        nc_bd xe 10 fun j18 =>
        if (w13.1 242 (nc_ld aa) j18) ≠ 3 then
          nc_li (xe + 1) fun x19 =>
          nc_Run m_X7_sumOf 19 [some (.inr (.inr (7, aa))), some (.inl xb), some (.inl x15), some (.inl xd), some (.inl x19)] [] w13
        else
          if (((w13.1 2 (nc_ld aa) 6) >>> (xe &&& 31)) &&& 1) ≠ 1 then
            nc_bd xe 10 fun j20 =>
            nc_li (x15 + (w13.1 243 (nc_ld aa) j20)) fun x21 =>
            nc_li (xe + 1) fun x22 =>
            nc_Run m_X7_sumOf 19 [some (.inr (.inr (7, aa))), some (.inl xb), some (.inl x21), some (.inl xd), some (.inl x22)] [] w13
          else
            nc_bd xe 10 fun j23 =>
            nc_li (x15 + (-(w13.1 243 (nc_ld aa) j23))) fun x24 =>
            nc_li (xe + 1) fun x25 =>
            nc_Run m_X7_sumOf 19 [some (.inr (.inr (7, aa))), some (.inl xb), some (.inl x24), some (.inl xd), some (.inl x25)] [] w13 :=
  (nc_Run_un [19] 65).trans rfl
set_option maxRecDepth 100000 in
theorem qc_X7_whyNotTold (aa : Nat) (xb : Int32) (xc : Int32) (w : nc_H) : nc_Call m_X7_whyNotTold [.inr (.inr (7, aa)), .inl xb, .inl xc] w =
  nc_bI (nc_Call m_X7_isDry [.inr (.inr (7, aa)), .inl xb] w) fun r2 w1 =>
  if r2 = 0 then
    nc_bd xb 8 fun j3 =>
    if (((w1.1 555 aa j3) >>> (xc &&& 31)) &&& 1) ≠ 1 then
      nc_bd xb 8 fun j4 =>
      nc_bI (nc_Call m_J6_bitCount_0f7a4 [.inl (w1.1 555 aa j4)] w1) fun r6 w5 =>
      if r6 < (w5.1 2 (nc_ld aa) 5) then
        some (some (.inl 0), w5)
      else
        some (some (.inl 3), w5)
    else
      some (some (.inl 2), w1)
  else
    some (some (.inl 1), w1) :=
  (nc_Call_eq _ _ _).trans ((if_pos (Nat.le_of_ble_eq_true rfl)).trans ((nc_Run_un [] 26).trans rfl))
set_option maxRecDepth 100000 in
theorem qc_X8_weigh (aa : Nat) (xb : Int32) (w : nc_H) : nc_Call m_X8_weigh [.inr (.inr (8, aa)), .inl xb] w =
  if xb ≤ (w.1 8 aa 6) then
    some (none, w)
  else
    nc_lt (nc_si w 8 aa 6 xb) fun w1 =>
    nc_lt (nc_cpi w1 615 aa 0 616 aa 0 3) fun w2 =>
    some (none, w2) :=
  (nc_Call_eq _ _ _).trans ((if_pos (Nat.le_of_ble_eq_true rfl)).trans ((nc_Run_un [] 16).trans rfl))
set_option maxRecDepth 100000 in
theorem qc_X7_milk (aa : Nat) (xb : Int32) (w : nc_H) : nc_Call m_X7_milk [.inr (.inr (7, aa)), .inl xb] w =
  nc_bI (nc_Call m_X7_isDry [.inr (.inr (7, aa)), .inl xb] w) fun r2 w1 =>
  if r2 ≠ 0 then
    some (some (.inl 0), w1)
  else
    nc_bI (nc_Call m_X7_isCurdled [.inr (.inr (7, aa)), .inl xb] w1) fun r4 w3 =>
    if r4 = 0 then
      nc_bI (nc_Call m_X7_sumOf [.inr (.inr (7, aa)), .inl xb] w3) fun r6 w5 =>
      some (some (.inl (if (0 : Int32) < r6 then r6 else (0 : Int32))), w5)
    else
      some (some (.inl 0), w3) :=
  (nc_Call_eq _ _ _).trans ((if_pos (Nat.le_of_ble_eq_true rfl)).trans ((nc_Run_un [] 14).trans rfl))
set_option maxRecDepth 100000 in
theorem qc_X8_goLast (aa : Nat) (ab : Nat) (xc : Int32) (xd : Int32) (xe : Int32) (w : nc_H) : nc_Call m_X8_goLast [.inr (.inr (8, aa)), .inr (.inr (7, ab)), .inl xc, .inl xd, .inl xe] w =
  nc_bI (nc_Call m_X7_isDry [.inr (.inr (7, ab)), .inl xc] w) fun r2 w1 =>
  if r2 ≠ 0 then
    nc_bI (nc_Call m_X7_sumOf [.inr (.inr (7, ab)), .inl xc] w1) fun r4 w3 =>
    nc_bI (nc_Call m_X7_heardByOthers [.inr (.inr (7, ab)), .inl xc] w3) fun r6 w5 =>
    nc_Run m_X8_goLast 40 [some (.inr (.inr (8, aa))), some (.inr (.inr (7, ab))), some (.inl xc), some (.inl xd), some (.inl xe), some (.inl 1), some (.inl r4), some (.inl r6), some (.inl 0), none, none] [] w5
  else
    nc_bI (nc_Call m_X7_isCurdled [.inr (.inr (7, ab)), .inl xc] w1) fun r8 w7 =>
    if r8 = 0 then
      nc_bI (nc_Call m_X7_sumOf [.inr (.inr (7, ab)), .inl xc] w7) fun r10 w9 =>
      nc_bI (nc_Call m_X7_heardByOthers [.inr (.inr (7, ab)), .inl xc] w9) fun r12 w11 =>
      nc_Run m_X8_goLast 40 [some (.inr (.inr (8, aa))), some (.inr (.inr (7, ab))), some (.inl xc), some (.inl xd), some (.inl xe), some (.inl 0), some (.inl r10), some (.inl r12), some (.inl 0), none, none] [] w11
    else
      nc_bI (nc_Call m_X7_sumOf [.inr (.inr (7, ab)), .inl xc] w7) fun r14 w13 =>
      nc_bI (nc_Call m_X7_heardByOthers [.inr (.inr (7, ab)), .inl xc] w13) fun r16 w15 =>
      nc_Run m_X8_goLast 40 [some (.inr (.inr (8, aa))), some (.inr (.inr (7, ab))), some (.inl xc), some (.inl xd), some (.inl xe), some (.inl 1), some (.inl r14), some (.inl r16), some (.inl 0), none, none] [] w15 :=
  (nc_Call_eq _ _ _).trans ((if_pos (Nat.le_of_ble_eq_true rfl)).trans ((nc_Run_un [40] 22).trans rfl))
set_option maxRecDepth 100000 in
theorem qr_X8_goLast_40 (aa : Nat) (ab : Nat) (xc : Int32) (xd : Int32) (xe : Int32) (xf : Int32) (xg : Int32) (xh : Int32) (xi : Int32) (w : nc_H) : nc_Run m_X8_goLast 40 [some (.inr (.inr (8, aa))), some (.inr (.inr (7, ab))), some (.inl xc), some (.inl xd), some (.inl xe), some (.inl xf), some (.inl xg), some (.inl xh), some (.inl xi), none, none] [] w =
  if (w.1 2 0 3) ≤ xi then
    nc_bd xd 3 fun j1 =>
    nc_lt (nc_si w 615 aa j1 (-1)) fun w2 =>
    nc_bI (nc_Call m_X7_milk [.inr (.inr (7, ab)), .inl xc] w2) fun r4 w3 =>
    nc_bV (nc_Call m_X8_weigh [.inr (.inr (8, aa)), .inl (xe + r4)] w3) fun w5 =>
    some (none, w5)
  else
    nc_bI (nc_Call m_X7_whyNotTold [.inr (.inr (7, ab)), .inl xc, .inl xi] w) fun r7 w6 =>
    if r7 ≠ 0 then
      nc_li (xi + 1) fun x8 =>
      nc_Run m_X8_goLast 40 [some (.inr (.inr (8, aa))), some (.inr (.inr (7, ab))), some (.inl xc), some (.inl xd), some (.inl xe), some (.inl xf), some (.inl xg), some (.inl xh), some (.inl x8), none, none] [] w6
    else
      nc_bd xd 3 fun j9 =>
      nc_lt (nc_si w6 615 aa j9 xi) fun w10 =>
      nc_bd xi 10 fun j11 =>
      if (w10.1 242 0 j11) ≠ 2 then
        nc_bd xc 8 fun j12 =>
        nc_bI (nc_Call m_X7_addedBy [.inr (.inr (7, ab)), .inl xi, .inl xh, .inl (w10.1 554 ab j12)] w10) fun r14 w13 =>
        if xf ≠ 0 then
          nc_bV (nc_Call m_X8_weigh [.inr (.inr (8, aa)), .inl (xe + 0)] w13) fun w15 =>
          nc_li (xi + 1) fun x16 =>
          nc_Run m_X8_goLast 40 [some (.inr (.inr (8, aa))), some (.inr (.inr (7, ab))), some (.inl xc), some (.inl xd), some (.inl xe), some (.inl xf), some (.inl xg), some (.inl xh), some (.inl x16), none, none] [] w15
        else
          nc_bV (nc_Call m_X8_weigh [.inr (.inr (8, aa)), .inl (xe + (if (0 : Int32) < (xg + r14) then (xg + r14) else (0 : Int32)))] w13) fun w17 =>
          nc_li (xi + 1) fun x18 =>
          nc_Run m_X8_goLast 40 [some (.inr (.inr (8, aa))), some (.inr (.inr (7, ab))), some (.inl xc), some (.inl xd), some (.inl xe), some (.inl xf), some (.inl xg), some (.inl xh), some (.inl x18), none, none] [] w17
      else
        nc_bd xc 8 fun j19 =>
        nc_bI (nc_Call m_X7_addedBy [.inr (.inr (7, ab)), .inl xi, .inl xh, .inl (w10.1 554 ab j19)] w10) fun r21 w20 =>
        if xf ≠ 0 then
          nc_bV (nc_Call m_X8_weigh [.inr (.inr (8, aa)), .inl (xe + 0)] w20) fun w22 =>
          nc_li (xi + 1) fun x23 =>
          nc_Run m_X8_goLast 40 [some (.inr (.inr (8, aa))), some (.inr (.inr (7, ab))), some (.inl xc), some (.inl xd), some (.inl xe), some (.inl xf), some (.inl xg), some (.inl xh), some (.inl x23), none, none] [] w22
        else
          nc_bV (nc_Call m_X8_weigh [.inr (.inr (8, aa)), .inl (xe + 0)] w20) fun w24 =>
          nc_li (xi + 1) fun x25 =>
          nc_Run m_X8_goLast 40 [some (.inr (.inr (8, aa))), some (.inr (.inr (7, ab))), some (.inl xc), some (.inl xd), some (.inl xe), some (.inl xf), some (.inl xg), some (.inl xh), some (.inl x25), none, none] [] w24 :=
  (nc_Run_un [40] 49).trans rfl
set_option maxRecDepth 100000 in
theorem qc_X7_copyFrom (aa : Nat) (ab : Nat) (w : nc_H) : nc_Call m_X7_copyFrom [.inr (.inr (7, aa)), .inr (.inr (7, ab))] w =
  nc_lt (nc_si w 7 aa 1 (w.1 7 ab 1)) fun w1 =>
  nc_lt (nc_si w1 7 aa 2 (w1.1 7 ab 2)) fun w2 =>
  nc_lt (nc_si w2 7 aa 3 (w2.1 7 ab 3)) fun w3 =>
  nc_lt (nc_si w3 7 aa 4 (w3.1 7 ab 4)) fun w4 =>
  nc_lt (nc_cpi w4 553 ab 0 553 aa 0 80) fun w5 =>
  nc_lt (nc_cpi w5 554 ab 0 554 aa 0 8) fun w6 =>
  nc_lt (nc_cpi w6 555 ab 0 555 aa 0 8) fun w7 =>
  nc_lt (nc_cpi w7 556 ab 0 556 aa 0 8) fun w8 =>
  nc_lt (nc_cpi w8 557 ab 0 557 aa 0 8) fun w9 =>
  nc_lt (nc_cpi w9 558 ab 0 558 aa 0 8) fun w10 =>
  nc_lt (nc_cpi w10 559 ab 0 559 aa 0 8) fun w11 =>
  nc_lt (nc_cpi w11 560 ab 0 560 aa 0 8) fun w12 =>
  nc_lt (nc_cpi w12 561 ab 0 561 aa 0 4) fun w13 =>
  nc_lt (nc_cpi w13 562 ab 0 562 aa 0 120) fun w14 =>
  some (none, w14) :=
  (nc_Call_eq _ _ _).trans ((if_pos (Nat.le_of_ble_eq_true rfl)).trans ((nc_Run_un [] 97).trans rfl))
set_option maxRecDepth 100000 in
theorem qc_X7_hear (aa : Nat) (xb : Int32) (xc : Int32) (w : nc_H) : nc_Call m_X7_hear [.inr (.inr (7, aa)), .inl xb, .inl xc] w =
  nc_li (1 <<< (xc &&& 31)) fun x1 =>
  nc_bd xb 8 fun j2 =>
  nc_bd xb 8 fun j3 =>
  nc_bd xb 8 fun j4 =>
  nc_lt (nc_si w 556 aa j4 ((w.1 556 aa j2) ||| ((w.1 554 aa j3) &&& x1))) fun w5 =>
  nc_bd xb 8 fun j6 =>
  nc_bd xb 8 fun j7 =>
  nc_lt (nc_si w5 555 aa j7 ((w5.1 555 aa j6) ||| x1)) fun w8 =>
  nc_bV (nc_Call m_X7_comes [.inr (.inr (7, aa)), .inl xb, .inl xc] w8) fun w9 =>
  nc_bd xc 10 fun j10 =>
  if (w9.1 242 (nc_ld aa) j10) ≠ 2 then
    nc_lt (nc_si w9 7 aa 2 ((w9.1 7 aa 2) + 1)) fun w11 =>
    some (none, w11)
  else
    nc_bd xb 8 fun j12 =>
    nc_lt (nc_si w9 558 aa j12 (w9.1 7 aa 1)) fun w13 =>
    nc_lt (nc_si w13 7 aa 2 ((w13.1 7 aa 2) + 1)) fun w14 =>
    some (none, w14) :=
  (nc_Call_eq _ _ _).trans ((if_pos (Nat.le_of_ble_eq_true rfl)).trans ((nc_Run_un [] 49).trans rfl))
set_option maxRecDepth 100000 in
theorem qc_X7_allComes (aa : Nat) (xb : Int32) (xc : Int32) (w : nc_H) : nc_Call m_X7_allComes [.inr (.inr (7, aa)), .inl xb, .inl xc] w =
  nc_Run m_X7_allComes 2 [some (.inr (.inr (7, aa))), some (.inl xb), some (.inl xc), some (.inl 0)] [] w :=
  (nc_Call_eq _ _ _).trans ((if_pos (Nat.le_of_ble_eq_true rfl)).trans ((nc_Run_un [2] 3).trans rfl))
set_option maxRecDepth 100000 in
theorem qr_X7_allComes_2 (aa : Nat) (xb : Int32) (xc : Int32) (xd : Int32) (w : nc_H) : nc_Run m_X7_allComes 2 [some (.inr (.inr (7, aa))), some (.inl xb), some (.inl xc), some (.inl xd)] [] w =
  if (w.1 2 (nc_ld aa) 3) ≤ xd then
    some (none, w)
  else
    if ((xc >>> (xd &&& 31)) &&& 1) ≠ 1 then
      nc_li (xd + 1) fun x1 =>
      nc_Run m_X7_allComes 2 [some (.inr (.inr (7, aa))), some (.inl xb), some (.inl xc), some (.inl x1)] [] w
    else
      nc_bV (nc_Call m_X7_comes [.inr (.inr (7, aa)), .inl xb, .inl xd] w) fun w2 =>
      nc_li (xd + 1) fun x3 =>
      nc_Run m_X7_allComes 2 [some (.inr (.inr (7, aa))), some (.inl xb), some (.inl xc), some (.inl x3)] [] w2 :=
  (nc_Run_un [2] 19).trans rfl
set_option maxRecDepth 100000 in
theorem qc_X7_talk (aa : Nat) (w : nc_H) : nc_Call m_X7_talk [.inr (.inr (7, aa))] w =
  nc_bI (nc_Call m_X7_talking [.inr (.inr (7, aa))] w) fun r2 w1 =>
  if r2 ≠ 0 then
    nc_bV (nc_Call m_J7_fill_53178 [.inr (.inr (563, aa)), .inl 0] w1) fun w3 =>
    nc_bV (nc_Call m_J7_fill_53178 [.inr (.inr (564, aa)), .inl 0] w3) fun w4 =>
    nc_Run m_X7_talk 28 [some (.inr (.inr (7, aa))), some (.inl r2), some (.inl 0)] [] w4
  else
    some (none, w1) :=
  (nc_Call_eq _ _ _).trans ((if_pos (Nat.le_of_ble_eq_true rfl)).trans ((nc_Run_un [28, 70, 160] 16).trans rfl))
set_option maxRecDepth 100000 in
theorem qr_X7_talk_28 (aa : Nat) (xb : Int32) (xc : Int32) (w : nc_H) : nc_Run m_X7_talk 28 [some (.inr (.inr (7, aa))), some (.inl xb), some (.inl xc)] [] w =
  if (w.1 2 (nc_ld aa) 2) ≤ xc then
    nc_Run m_X7_talk 70 [some (.inr (.inr (7, aa))), some (.inl xb), some (.inl 0)] [] w
  else
    nc_bd xc 8 fun j1 =>
    nc_bd (w.1 238 (nc_ld aa) j1) 4 fun j2 =>
    nc_bd xc 8 fun j3 =>
    nc_bd (w.1 238 (nc_ld aa) j1) 4 fun j4 =>
    nc_lt (nc_si w 563 aa j4 ((w.1 563 aa j2) ||| (w.1 554 aa j3))) fun w5 =>
    nc_li (xc + 1) fun x6 =>
    nc_Run m_X7_talk 28 [some (.inr (.inr (7, aa))), some (.inl xb), some (.inl x6)] [] w5 :=
  (nc_Run_un [28, 70, 160] 23).trans rfl
set_option maxRecDepth 100000 in
theorem qr_X7_talk_70 (aa : Nat) (xb : Int32) (xc : Int32) (w : nc_H) : nc_Run m_X7_talk 70 [some (.inr (.inr (7, aa))), some (.inl xb), some (.inl xc)] [] w =
  if (w.1 2 (nc_ld aa) 4) ≤ xc then
    nc_Run m_X7_talk 160 [some (.inr (.inr (7, aa))), none, some (.inl 0)] [] w
  else
    if ((xb >>> (xc &&& 31)) &&& 1) ≠ 1 then
      nc_li (xc + 1) fun x1 =>
      nc_Run m_X7_talk 70 [some (.inr (.inr (7, aa))), some (.inl xb), some (.inl x1)] [] w
    else
      nc_bd xc 6 fun j2 =>
      nc_bd (w.1 244 (nc_ld aa) j2) 4 fun j3 =>
      nc_bd xc 6 fun j4 =>
      nc_bd (w.1 245 (nc_ld aa) j4) 4 fun j5 =>
      nc_bd (w.1 244 (nc_ld aa) j2) 4 fun j6 =>
      nc_lt (nc_si w 564 aa j6 ((w.1 564 aa j3) ||| (w.1 563 aa j5))) fun w7 =>
      nc_bd xc 6 fun j8 =>
      nc_bd (w7.1 245 (nc_ld aa) j8) 4 fun j9 =>
      nc_bd xc 6 fun j10 =>
      nc_bd (w7.1 244 (nc_ld aa) j10) 4 fun j11 =>
      nc_bd (w7.1 245 (nc_ld aa) j8) 4 fun j12 =>
      nc_lt (nc_si w7 564 aa j12 ((w7.1 564 aa j9) ||| (w7.1 563 aa j11))) fun w13 =>
      nc_li (xc + 1) fun x14 =>
      nc_Run m_X7_talk 70 [some (.inr (.inr (7, aa))), some (.inl xb), some (.inl x14)] [] w13 :=
  (nc_Run_un [28, 70, 160] 53).trans rfl
set_option maxRecDepth 100000 in
theorem qr_X7_talk_160 (aa : Nat) (xc : Int32) (w : nc_H) : nc_Run m_X7_talk 160 [some (.inr (.inr (7, aa))), none, some (.inl xc)] [] w =
  if (w.1 2 (nc_ld aa) 2) ≤ xc then
    some (none, w)
  else
    nc_bd xc 8 fun j1 =>
    nc_bd (w.1 238 (nc_ld aa) j1) 4 fun j2 =>
    nc_bV (nc_Call m_X7_allComes [.inr (.inr (7, aa)), .inl xc, .inl (w.1 564 aa j2)] w) fun w3 =>
    nc_li (xc + 1) fun x4 =>
    nc_Run m_X7_talk 160 [some (.inr (.inr (7, aa))), none, some (.inl x4)] [] w3 :=
  (nc_Run_un [28, 70, 160] 19).trans rfl
set_option maxRecDepth 100000 in
theorem qc_X7_turn (aa : Nat) (w : nc_H) : nc_Call m_X7_turn [.inr (.inr (7, aa))] w =
  nc_lt (nc_si w 7 aa 1 ((w.1 7 aa 1) + 1)) fun w1 =>
  nc_Run m_X7_turn 12 [some (.inr (.inr (7, aa))), some (.inl 0)] [] w1 :=
  (nc_Call_eq _ _ _).trans ((if_pos (Nat.le_of_ble_eq_true rfl)).trans ((nc_Run_un [12] 9).trans rfl))
set_option maxRecDepth 100000 in
theorem qr_X7_turn_12 (aa : Nat) (xb : Int32) (w : nc_H) : nc_Run m_X7_turn 12 [some (.inr (.inr (7, aa))), some (.inl xb)] [] w =
  if (w.1 2 (nc_ld aa) 2) ≤ xb then
    some (none, w)
  else
    nc_bd xb 8 fun j1 =>
    nc_bd xb 8 fun j2 =>
    nc_lt (nc_si w 557 aa j2 (w.1 555 aa j1)) fun w3 =>
    nc_bd xb 8 fun j4 =>
    nc_lt (nc_si w3 555 aa j4 0) fun w5 =>
    nc_bd xb 8 fun j6 =>
    nc_lt (nc_si w5 556 aa j6 0) fun w7 =>
    nc_bV (nc_Call m_X7_forget [.inr (.inr (7, aa)), .inl xb] w7) fun w8 =>
    nc_li (xb + 1) fun x9 =>
    nc_Run m_X7_turn 12 [some (.inr (.inr (7, aa))), some (.inl x9)] [] w8 :=
  (nc_Run_un [12] 29).trans rfl
set_option maxRecDepth 100000 in
theorem qc_X9_readOne_9 (aa : Nat) (ab : Nat) (ac : Nat) (xd : Int32) (w : nc_H) : nc_Call m_X9_readOne_9 [.inr (.inr (9, aa)), .inr (.inr (10, ab)), .inr (.inr (2, ac)), .inl xd] w =
  nc_bI (nc_Call m_X10_isSign [.inr (.inr (10, ab)), .inl 40] w) fun r2 w1 =>
  nc_bI (nc_Call m_X10_word [.inr (.inr (10, ab))] w1) fun r4 w3 =>
  if r2 ≠ 0 then
    if (20 : Int32) ≤ (w3.1 9 aa 4) then
      nc_bI (nc_Call m_X10_fail [.inr (.inr (10, ab)), .inl 4] w3) fun r6 w5 =>
      nc_z r6 <| some (some (.inl r6), w5)
    else
      if xd ≤ 8 then
        nc_lt (nc_si w3 9 aa 4 ((w3.1 9 aa 4) + 1)) fun w7 =>
        if r2 = 0 then
          if r4 ≠ 14 then
            nc_bI (nc_Call m_X9_readPlainOne [.inr (.inr (9, aa)), .inr (.inr (10, ab)), .inr (.inr (2, ac)), .inl r4] w7) fun r9 w8 =>
            if r9 ≠ 0 then
              nc_bV (nc_Call m_X10_next [.inr (.inr (10, ab))] w8) fun w10 =>
              some (some (.inl 1), w10)
            else
              some (some (.inl 0), w8)
          else
            nc_bV (nc_Call m_X10_next [.inr (.inr (10, ab))] w7) fun w11 =>
            none
        else
          nc_bV (nc_Call m_X10_next [.inr (.inr (10, ab))] w7) fun w12 =>
          none
      else
        nc_bI (nc_Call m_X10_fail [.inr (.inr (10, ab)), .inl 4] w3) fun r14 w13 =>
        nc_z r14 <| some (some (.inl r14), w13)
  else
    if (14 : Int32) ≤ r4 then
      if (20 : Int32) ≤ (w3.1 9 aa 4) then
        nc_bI (nc_Call m_X10_fail [.inr (.inr (10, ab)), .inl 4] w3) fun r16 w15 =>
        nc_z r16 <| some (some (.inl r16), w15)
      else
        if xd ≤ 8 then
          nc_lt (nc_si w3 9 aa 4 ((w3.1 9 aa 4) + 1)) fun w17 =>
          if r2 = 0 then
            if r4 ≠ 14 then
              nc_bI (nc_Call m_X9_readPlainOne [.inr (.inr (9, aa)), .inr (.inr (10, ab)), .inr (.inr (2, ac)), .inl r4] w17) fun r19 w18 =>
              if r19 ≠ 0 then
                nc_bV (nc_Call m_X10_next [.inr (.inr (10, ab))] w18) fun w20 =>
                some (some (.inl 1), w20)
              else
                some (some (.inl 0), w18)
            else
              nc_bV (nc_Call m_X10_next [.inr (.inr (10, ab))] w17) fun w21 =>
              none
          else
            nc_bV (nc_Call m_X10_next [.inr (.inr (10, ab))] w17) fun w22 =>
            none
        else
          nc_bI (nc_Call m_X10_fail [.inr (.inr (10, ab)), .inl 4] w3) fun r24 w23 =>
          nc_z r24 <| some (some (.inl r24), w23)
    else
      nc_bI (nc_Call m_X10_fail [.inr (.inr (10, ab)), .inl 1] w3) fun r26 w25 =>
      nc_z r26 <| some (some (.inl r26), w25) :=
  (nc_Call_eq _ _ _).trans ((if_pos (Nat.le_of_ble_eq_true rfl)).trans ((nc_Run_un [] 40).trans rfl))
set_option maxRecDepth 100000 in
theorem qc_X9_readAll_9 (aa : Nat) (ab : Nat) (ac : Nat) (xd : Int32) (w : nc_H) : nc_Call m_X9_readAll_9 [.inr (.inr (9, aa)), .inr (.inr (10, ab)), .inr (.inr (2, ac)), .inl xd] w =
  nc_bI (nc_Call m_X9_readOne_9 [.inr (.inr (9, aa)), .inr (.inr (10, ab)), .inr (.inr (2, ac)), .inl xd] w) fun r2 w1 =>
  if r2 ≠ 0 then
    nc_Run m_X9_readAll_9 15 [some (.inr (.inr (9, aa))), some (.inr (.inr (10, ab))), some (.inr (.inr (2, ac))), some (.inl xd), some (.inl 0)] [] w1
  else
    some (some (.inl 0), w1) :=
  (nc_Call_eq _ _ _).trans ((if_pos (Nat.le_of_ble_eq_true rfl)).trans ((nc_Run_un [15] 9).trans rfl))
set_option maxRecDepth 100000 in
theorem qr_X9_readAll_9_15 (aa : Nat) (ab : Nat) (ac : Nat) (xd : Int32) (xe : Int32) (w : nc_H) : nc_Run m_X9_readAll_9 15 [some (.inr (.inr (9, aa))), some (.inr (.inr (10, ab))), some (.inr (.inr (2, ac))), some (.inl xd), some (.inl xe)] [] w =
  if (20 : Int32) ≤ xe then
    some (some (.inl 1), w)
  else
    nc_bI (nc_Call m_X10_word [.inr (.inr (10, ab))] w) fun r2 w1 =>
    if r2 ≠ 13 then
      some (some (.inl 1), w1)
    else
      nc_bV (nc_Call m_X10_next [.inr (.inr (10, ab))] w1) fun w3 =>
      nc_bI (nc_Call m_X9_readOne_9 [.inr (.inr (9, aa)), .inr (.inr (10, ab)), .inr (.inr (2, ac)), .inl xd] w3) fun r5 w4 =>
      if r5 ≠ 0 then
        nc_bV (nc_Call m_X9_put [.inr (.inr (9, aa)), .inl 13, .inl 0, .inl 0] w4) fun w6 =>
        nc_li (xe + 1) fun x7 =>
        nc_Run m_X9_readAll_9 15 [some (.inr (.inr (9, aa))), some (.inr (.inr (10, ab))), some (.inr (.inr (2, ac))), some (.inl xd), some (.inl x7)] [] w6
      else
        some (some (.inl 0), w4) :=
  (nc_Run_un [15] 23).trans rfl
set_option maxRecDepth 100000 in
theorem qc_X9_readCond_9 (aa : Nat) (ab : Nat) (ac : Nat) (xd : Int32) (w : nc_H) : nc_Call m_X9_readCond_9 [.inr (.inr (9, aa)), .inr (.inr (10, ab)), .inr (.inr (2, ac)), .inl xd] w =
  nc_bI (nc_Call m_X9_readAll_9 [.inr (.inr (9, aa)), .inr (.inr (10, ab)), .inr (.inr (2, ac)), .inl xd] w) fun r2 w1 =>
  if r2 ≠ 0 then
    nc_Run m_X9_readCond_9 15 [some (.inr (.inr (9, aa))), some (.inr (.inr (10, ab))), some (.inr (.inr (2, ac))), some (.inl xd), some (.inl 0)] [] w1
  else
    some (some (.inl 0), w1) :=
  (nc_Call_eq _ _ _).trans ((if_pos (Nat.le_of_ble_eq_true rfl)).trans ((nc_Run_un [15] 9).trans rfl))
set_option maxRecDepth 100000 in
theorem qr_X9_readCond_9_15 (aa : Nat) (ab : Nat) (ac : Nat) (xd : Int32) (xe : Int32) (w : nc_H) : nc_Run m_X9_readCond_9 15 [some (.inr (.inr (9, aa))), some (.inr (.inr (10, ab))), some (.inr (.inr (2, ac))), some (.inl xd), some (.inl xe)] [] w =
  if (20 : Int32) ≤ xe then
    some (some (.inl 1), w)
  else
    nc_bI (nc_Call m_X10_word [.inr (.inr (10, ab))] w) fun r2 w1 =>
    if r2 ≠ 12 then
      some (some (.inl 1), w1)
    else
      nc_bV (nc_Call m_X10_next [.inr (.inr (10, ab))] w1) fun w3 =>
      nc_bI (nc_Call m_X9_readAll_9 [.inr (.inr (9, aa)), .inr (.inr (10, ab)), .inr (.inr (2, ac)), .inl xd] w3) fun r5 w4 =>
      if r5 ≠ 0 then
        nc_bV (nc_Call m_X9_put [.inr (.inr (9, aa)), .inl 12, .inl 0, .inl 0] w4) fun w6 =>
        nc_li (xe + 1) fun x7 =>
        nc_Run m_X9_readCond_9 15 [some (.inr (.inr (9, aa))), some (.inr (.inr (10, ab))), some (.inr (.inr (2, ac))), some (.inl xd), some (.inl x7)] [] w6
      else
        some (some (.inl 0), w4) :=
  (nc_Run_un [15] 23).trans rfl
set_option maxRecDepth 100000 in
theorem qc_X9_readOne_8 (aa : Nat) (ab : Nat) (ac : Nat) (xd : Int32) (w : nc_H) : nc_Call m_X9_readOne_8 [.inr (.inr (9, aa)), .inr (.inr (10, ab)), .inr (.inr (2, ac)), .inl xd] w =
  nc_bI (nc_Call m_X10_isSign [.inr (.inr (10, ab)), .inl 40] w) fun r2 w1 =>
  nc_bI (nc_Call m_X10_word [.inr (.inr (10, ab))] w1) fun r4 w3 =>
  if r2 ≠ 0 then
    if (20 : Int32) ≤ (w3.1 9 aa 4) then
      nc_bI (nc_Call m_X10_fail [.inr (.inr (10, ab)), .inl 4] w3) fun r6 w5 =>
      nc_z r6 <| some (some (.inl r6), w5)
    else
      if xd ≤ 8 then
        nc_lt (nc_si w3 9 aa 4 ((w3.1 9 aa 4) + 1)) fun w7 =>
        if r2 = 0 then
          if r4 ≠ 14 then
            nc_bI (nc_Call m_X9_readPlainOne [.inr (.inr (9, aa)), .inr (.inr (10, ab)), .inr (.inr (2, ac)), .inl r4] w7) fun r9 w8 =>
            if r9 ≠ 0 then
              nc_bV (nc_Call m_X10_next [.inr (.inr (10, ab))] w8) fun w10 =>
              some (some (.inl 1), w10)
            else
              some (some (.inl 0), w8)
          else
            nc_bV (nc_Call m_X10_next [.inr (.inr (10, ab))] w7) fun w11 =>
            nc_bI (nc_Call m_X9_readOne_9 [.inr (.inr (9, aa)), .inr (.inr (10, ab)), .inr (.inr (2, ac)), .inl (xd + 1)] w11) fun r13 w12 =>
            if r13 ≠ 0 then
              nc_bV (nc_Call m_X9_put [.inr (.inr (9, aa)), .inl 14, .inl 0, .inl 0] w12) fun w14 =>
              some (some (.inl 1), w14)
            else
              some (some (.inl 0), w12)
        else
          nc_bV (nc_Call m_X10_next [.inr (.inr (10, ab))] w7) fun w15 =>
          nc_bI (nc_Call m_X9_readCond_9 [.inr (.inr (9, aa)), .inr (.inr (10, ab)), .inr (.inr (2, ac)), .inl (xd + 1)] w15) fun r17 w16 =>
          if r17 = 0 then
            some (some (.inl 0), w16)
          else
            nc_bI (nc_Call m_X10_mustBeSign [.inr (.inr (10, ab)), .inl 41] w16) fun r19 w18 =>
            if r19 ≠ 0 then
              nc_bV (nc_Call m_X10_next [.inr (.inr (10, ab))] w18) fun w20 =>
              some (some (.inl 1), w20)
            else
              some (some (.inl 0), w18)
      else
        nc_bI (nc_Call m_X10_fail [.inr (.inr (10, ab)), .inl 4] w3) fun r22 w21 =>
        nc_z r22 <| some (some (.inl r22), w21)
  else
    if (14 : Int32) ≤ r4 then
      if (20 : Int32) ≤ (w3.1 9 aa 4) then
        nc_bI (nc_Call m_X10_fail [.inr (.inr (10, ab)), .inl 4] w3) fun r24 w23 =>
        nc_z r24 <| some (some (.inl r24), w23)
      else
        if xd ≤ 8 then
          nc_lt (nc_si w3 9 aa 4 ((w3.1 9 aa 4) + 1)) fun w25 =>
          if r2 = 0 then
            if r4 ≠ 14 then
              nc_bI (nc_Call m_X9_readPlainOne [.inr (.inr (9, aa)), .inr (.inr (10, ab)), .inr (.inr (2, ac)), .inl r4] w25) fun r27 w26 =>
              if r27 ≠ 0 then
                nc_bV (nc_Call m_X10_next [.inr (.inr (10, ab))] w26) fun w28 =>
                some (some (.inl 1), w28)
              else
                some (some (.inl 0), w26)
            else
              nc_bV (nc_Call m_X10_next [.inr (.inr (10, ab))] w25) fun w29 =>
              nc_bI (nc_Call m_X9_readOne_9 [.inr (.inr (9, aa)), .inr (.inr (10, ab)), .inr (.inr (2, ac)), .inl (xd + 1)] w29) fun r31 w30 =>
              if r31 ≠ 0 then
                nc_bV (nc_Call m_X9_put [.inr (.inr (9, aa)), .inl 14, .inl 0, .inl 0] w30) fun w32 =>
                some (some (.inl 1), w32)
              else
                some (some (.inl 0), w30)
          else
            nc_bV (nc_Call m_X10_next [.inr (.inr (10, ab))] w25) fun w33 =>
            nc_bI (nc_Call m_X9_readCond_9 [.inr (.inr (9, aa)), .inr (.inr (10, ab)), .inr (.inr (2, ac)), .inl (xd + 1)] w33) fun r35 w34 =>
            if r35 = 0 then
              some (some (.inl 0), w34)
            else
              nc_bI (nc_Call m_X10_mustBeSign [.inr (.inr (10, ab)), .inl 41] w34) fun r37 w36 =>
              if r37 ≠ 0 then
                nc_bV (nc_Call m_X10_next [.inr (.inr (10, ab))] w36) fun w38 =>
                some (some (.inl 1), w38)
              else
                some (some (.inl 0), w36)
        else
          nc_bI (nc_Call m_X10_fail [.inr (.inr (10, ab)), .inl 4] w3) fun r40 w39 =>
          nc_z r40 <| some (some (.inl r40), w39)
    else
      nc_bI (nc_Call m_X10_fail [.inr (.inr (10, ab)), .inl 1] w3) fun r42 w41 =>
      nc_z r42 <| some (some (.inl r42), w41) :=
  (nc_Call_eq _ _ _).trans ((if_pos (Nat.le_of_ble_eq_true rfl)).trans ((nc_Run_un [] 47).trans rfl))
set_option maxRecDepth 100000 in
theorem qc_X9_readAll_8 (aa : Nat) (ab : Nat) (ac : Nat) (xd : Int32) (w : nc_H) : nc_Call m_X9_readAll_8 [.inr (.inr (9, aa)), .inr (.inr (10, ab)), .inr (.inr (2, ac)), .inl xd] w =
  nc_bI (nc_Call m_X9_readOne_8 [.inr (.inr (9, aa)), .inr (.inr (10, ab)), .inr (.inr (2, ac)), .inl xd] w) fun r2 w1 =>
  if r2 ≠ 0 then
    nc_Run m_X9_readAll_8 15 [some (.inr (.inr (9, aa))), some (.inr (.inr (10, ab))), some (.inr (.inr (2, ac))), some (.inl xd), some (.inl 0)] [] w1
  else
    some (some (.inl 0), w1) :=
  (nc_Call_eq _ _ _).trans ((if_pos (Nat.le_of_ble_eq_true rfl)).trans ((nc_Run_un [15] 9).trans rfl))
set_option maxRecDepth 100000 in
theorem qr_X9_readAll_8_15 (aa : Nat) (ab : Nat) (ac : Nat) (xd : Int32) (xe : Int32) (w : nc_H) : nc_Run m_X9_readAll_8 15 [some (.inr (.inr (9, aa))), some (.inr (.inr (10, ab))), some (.inr (.inr (2, ac))), some (.inl xd), some (.inl xe)] [] w =
  if (20 : Int32) ≤ xe then
    some (some (.inl 1), w)
  else
    nc_bI (nc_Call m_X10_word [.inr (.inr (10, ab))] w) fun r2 w1 =>
    if r2 ≠ 13 then
      some (some (.inl 1), w1)
    else
      nc_bV (nc_Call m_X10_next [.inr (.inr (10, ab))] w1) fun w3 =>
      nc_bI (nc_Call m_X9_readOne_8 [.inr (.inr (9, aa)), .inr (.inr (10, ab)), .inr (.inr (2, ac)), .inl xd] w3) fun r5 w4 =>
      if r5 ≠ 0 then
        nc_bV (nc_Call m_X9_put [.inr (.inr (9, aa)), .inl 13, .inl 0, .inl 0] w4) fun w6 =>
        nc_li (xe + 1) fun x7 =>
        nc_Run m_X9_readAll_8 15 [some (.inr (.inr (9, aa))), some (.inr (.inr (10, ab))), some (.inr (.inr (2, ac))), some (.inl xd), some (.inl x7)] [] w6
      else
        some (some (.inl 0), w4) :=
  (nc_Run_un [15] 23).trans rfl
set_option maxRecDepth 100000 in
theorem qc_X9_readCond_8 (aa : Nat) (ab : Nat) (ac : Nat) (xd : Int32) (w : nc_H) : nc_Call m_X9_readCond_8 [.inr (.inr (9, aa)), .inr (.inr (10, ab)), .inr (.inr (2, ac)), .inl xd] w =
  nc_bI (nc_Call m_X9_readAll_8 [.inr (.inr (9, aa)), .inr (.inr (10, ab)), .inr (.inr (2, ac)), .inl xd] w) fun r2 w1 =>
  if r2 ≠ 0 then
    nc_Run m_X9_readCond_8 15 [some (.inr (.inr (9, aa))), some (.inr (.inr (10, ab))), some (.inr (.inr (2, ac))), some (.inl xd), some (.inl 0)] [] w1
  else
    some (some (.inl 0), w1) :=
  (nc_Call_eq _ _ _).trans ((if_pos (Nat.le_of_ble_eq_true rfl)).trans ((nc_Run_un [15] 9).trans rfl))
set_option maxRecDepth 100000 in
theorem qr_X9_readCond_8_15 (aa : Nat) (ab : Nat) (ac : Nat) (xd : Int32) (xe : Int32) (w : nc_H) : nc_Run m_X9_readCond_8 15 [some (.inr (.inr (9, aa))), some (.inr (.inr (10, ab))), some (.inr (.inr (2, ac))), some (.inl xd), some (.inl xe)] [] w =
  if (20 : Int32) ≤ xe then
    some (some (.inl 1), w)
  else
    nc_bI (nc_Call m_X10_word [.inr (.inr (10, ab))] w) fun r2 w1 =>
    if r2 ≠ 12 then
      some (some (.inl 1), w1)
    else
      nc_bV (nc_Call m_X10_next [.inr (.inr (10, ab))] w1) fun w3 =>
      nc_bI (nc_Call m_X9_readAll_8 [.inr (.inr (9, aa)), .inr (.inr (10, ab)), .inr (.inr (2, ac)), .inl xd] w3) fun r5 w4 =>
      if r5 ≠ 0 then
        nc_bV (nc_Call m_X9_put [.inr (.inr (9, aa)), .inl 12, .inl 0, .inl 0] w4) fun w6 =>
        nc_li (xe + 1) fun x7 =>
        nc_Run m_X9_readCond_8 15 [some (.inr (.inr (9, aa))), some (.inr (.inr (10, ab))), some (.inr (.inr (2, ac))), some (.inl xd), some (.inl x7)] [] w6
      else
        some (some (.inl 0), w4) :=
  (nc_Run_un [15] 23).trans rfl
set_option maxRecDepth 100000 in
theorem qc_X9_readOne_7 (aa : Nat) (ab : Nat) (ac : Nat) (xd : Int32) (w : nc_H) : nc_Call m_X9_readOne_7 [.inr (.inr (9, aa)), .inr (.inr (10, ab)), .inr (.inr (2, ac)), .inl xd] w =
  nc_bI (nc_Call m_X10_isSign [.inr (.inr (10, ab)), .inl 40] w) fun r2 w1 =>
  nc_bI (nc_Call m_X10_word [.inr (.inr (10, ab))] w1) fun r4 w3 =>
  if r2 ≠ 0 then
    if (20 : Int32) ≤ (w3.1 9 aa 4) then
      nc_bI (nc_Call m_X10_fail [.inr (.inr (10, ab)), .inl 4] w3) fun r6 w5 =>
      nc_z r6 <| some (some (.inl r6), w5)
    else
      if xd ≤ 8 then
        nc_lt (nc_si w3 9 aa 4 ((w3.1 9 aa 4) + 1)) fun w7 =>
        if r2 = 0 then
          if r4 ≠ 14 then
            nc_bI (nc_Call m_X9_readPlainOne [.inr (.inr (9, aa)), .inr (.inr (10, ab)), .inr (.inr (2, ac)), .inl r4] w7) fun r9 w8 =>
            if r9 ≠ 0 then
              nc_bV (nc_Call m_X10_next [.inr (.inr (10, ab))] w8) fun w10 =>
              some (some (.inl 1), w10)
            else
              some (some (.inl 0), w8)
          else
            nc_bV (nc_Call m_X10_next [.inr (.inr (10, ab))] w7) fun w11 =>
            nc_bI (nc_Call m_X9_readOne_8 [.inr (.inr (9, aa)), .inr (.inr (10, ab)), .inr (.inr (2, ac)), .inl (xd + 1)] w11) fun r13 w12 =>
            if r13 ≠ 0 then
              nc_bV (nc_Call m_X9_put [.inr (.inr (9, aa)), .inl 14, .inl 0, .inl 0] w12) fun w14 =>
              some (some (.inl 1), w14)
            else
              some (some (.inl 0), w12)
        else
          nc_bV (nc_Call m_X10_next [.inr (.inr (10, ab))] w7) fun w15 =>
          nc_bI (nc_Call m_X9_readCond_8 [.inr (.inr (9, aa)), .inr (.inr (10, ab)), .inr (.inr (2, ac)), .inl (xd + 1)] w15) fun r17 w16 =>
          if r17 = 0 then
            some (some (.inl 0), w16)
          else
            nc_bI (nc_Call m_X10_mustBeSign [.inr (.inr (10, ab)), .inl 41] w16) fun r19 w18 =>
            if r19 ≠ 0 then
              nc_bV (nc_Call m_X10_next [.inr (.inr (10, ab))] w18) fun w20 =>
              some (some (.inl 1), w20)
            else
              some (some (.inl 0), w18)
      else
        nc_bI (nc_Call m_X10_fail [.inr (.inr (10, ab)), .inl 4] w3) fun r22 w21 =>
        nc_z r22 <| some (some (.inl r22), w21)
  else
    if (14 : Int32) ≤ r4 then
      if (20 : Int32) ≤ (w3.1 9 aa 4) then
        nc_bI (nc_Call m_X10_fail [.inr (.inr (10, ab)), .inl 4] w3) fun r24 w23 =>
        nc_z r24 <| some (some (.inl r24), w23)
      else
        if xd ≤ 8 then
          nc_lt (nc_si w3 9 aa 4 ((w3.1 9 aa 4) + 1)) fun w25 =>
          if r2 = 0 then
            if r4 ≠ 14 then
              nc_bI (nc_Call m_X9_readPlainOne [.inr (.inr (9, aa)), .inr (.inr (10, ab)), .inr (.inr (2, ac)), .inl r4] w25) fun r27 w26 =>
              if r27 ≠ 0 then
                nc_bV (nc_Call m_X10_next [.inr (.inr (10, ab))] w26) fun w28 =>
                some (some (.inl 1), w28)
              else
                some (some (.inl 0), w26)
            else
              nc_bV (nc_Call m_X10_next [.inr (.inr (10, ab))] w25) fun w29 =>
              nc_bI (nc_Call m_X9_readOne_8 [.inr (.inr (9, aa)), .inr (.inr (10, ab)), .inr (.inr (2, ac)), .inl (xd + 1)] w29) fun r31 w30 =>
              if r31 ≠ 0 then
                nc_bV (nc_Call m_X9_put [.inr (.inr (9, aa)), .inl 14, .inl 0, .inl 0] w30) fun w32 =>
                some (some (.inl 1), w32)
              else
                some (some (.inl 0), w30)
          else
            nc_bV (nc_Call m_X10_next [.inr (.inr (10, ab))] w25) fun w33 =>
            nc_bI (nc_Call m_X9_readCond_8 [.inr (.inr (9, aa)), .inr (.inr (10, ab)), .inr (.inr (2, ac)), .inl (xd + 1)] w33) fun r35 w34 =>
            if r35 = 0 then
              some (some (.inl 0), w34)
            else
              nc_bI (nc_Call m_X10_mustBeSign [.inr (.inr (10, ab)), .inl 41] w34) fun r37 w36 =>
              if r37 ≠ 0 then
                nc_bV (nc_Call m_X10_next [.inr (.inr (10, ab))] w36) fun w38 =>
                some (some (.inl 1), w38)
              else
                some (some (.inl 0), w36)
        else
          nc_bI (nc_Call m_X10_fail [.inr (.inr (10, ab)), .inl 4] w3) fun r40 w39 =>
          nc_z r40 <| some (some (.inl r40), w39)
    else
      nc_bI (nc_Call m_X10_fail [.inr (.inr (10, ab)), .inl 1] w3) fun r42 w41 =>
      nc_z r42 <| some (some (.inl r42), w41) :=
  (nc_Call_eq _ _ _).trans ((if_pos (Nat.le_of_ble_eq_true rfl)).trans ((nc_Run_un [] 47).trans rfl))
set_option maxRecDepth 100000 in
theorem qc_X9_readAll_7 (aa : Nat) (ab : Nat) (ac : Nat) (xd : Int32) (w : nc_H) : nc_Call m_X9_readAll_7 [.inr (.inr (9, aa)), .inr (.inr (10, ab)), .inr (.inr (2, ac)), .inl xd] w =
  nc_bI (nc_Call m_X9_readOne_7 [.inr (.inr (9, aa)), .inr (.inr (10, ab)), .inr (.inr (2, ac)), .inl xd] w) fun r2 w1 =>
  if r2 ≠ 0 then
    nc_Run m_X9_readAll_7 15 [some (.inr (.inr (9, aa))), some (.inr (.inr (10, ab))), some (.inr (.inr (2, ac))), some (.inl xd), some (.inl 0)] [] w1
  else
    some (some (.inl 0), w1) :=
  (nc_Call_eq _ _ _).trans ((if_pos (Nat.le_of_ble_eq_true rfl)).trans ((nc_Run_un [15] 9).trans rfl))
set_option maxRecDepth 100000 in
theorem qr_X9_readAll_7_15 (aa : Nat) (ab : Nat) (ac : Nat) (xd : Int32) (xe : Int32) (w : nc_H) : nc_Run m_X9_readAll_7 15 [some (.inr (.inr (9, aa))), some (.inr (.inr (10, ab))), some (.inr (.inr (2, ac))), some (.inl xd), some (.inl xe)] [] w =
  if (20 : Int32) ≤ xe then
    some (some (.inl 1), w)
  else
    nc_bI (nc_Call m_X10_word [.inr (.inr (10, ab))] w) fun r2 w1 =>
    if r2 ≠ 13 then
      some (some (.inl 1), w1)
    else
      nc_bV (nc_Call m_X10_next [.inr (.inr (10, ab))] w1) fun w3 =>
      nc_bI (nc_Call m_X9_readOne_7 [.inr (.inr (9, aa)), .inr (.inr (10, ab)), .inr (.inr (2, ac)), .inl xd] w3) fun r5 w4 =>
      if r5 ≠ 0 then
        nc_bV (nc_Call m_X9_put [.inr (.inr (9, aa)), .inl 13, .inl 0, .inl 0] w4) fun w6 =>
        nc_li (xe + 1) fun x7 =>
        nc_Run m_X9_readAll_7 15 [some (.inr (.inr (9, aa))), some (.inr (.inr (10, ab))), some (.inr (.inr (2, ac))), some (.inl xd), some (.inl x7)] [] w6
      else
        some (some (.inl 0), w4) :=
  (nc_Run_un [15] 23).trans rfl
set_option maxRecDepth 100000 in
theorem qc_X9_readCond_7 (aa : Nat) (ab : Nat) (ac : Nat) (xd : Int32) (w : nc_H) : nc_Call m_X9_readCond_7 [.inr (.inr (9, aa)), .inr (.inr (10, ab)), .inr (.inr (2, ac)), .inl xd] w =
  nc_bI (nc_Call m_X9_readAll_7 [.inr (.inr (9, aa)), .inr (.inr (10, ab)), .inr (.inr (2, ac)), .inl xd] w) fun r2 w1 =>
  if r2 ≠ 0 then
    nc_Run m_X9_readCond_7 15 [some (.inr (.inr (9, aa))), some (.inr (.inr (10, ab))), some (.inr (.inr (2, ac))), some (.inl xd), some (.inl 0)] [] w1
  else
    some (some (.inl 0), w1) :=
  (nc_Call_eq _ _ _).trans ((if_pos (Nat.le_of_ble_eq_true rfl)).trans ((nc_Run_un [15] 9).trans rfl))
set_option maxRecDepth 100000 in
theorem qr_X9_readCond_7_15 (aa : Nat) (ab : Nat) (ac : Nat) (xd : Int32) (xe : Int32) (w : nc_H) : nc_Run m_X9_readCond_7 15 [some (.inr (.inr (9, aa))), some (.inr (.inr (10, ab))), some (.inr (.inr (2, ac))), some (.inl xd), some (.inl xe)] [] w =
  if (20 : Int32) ≤ xe then
    some (some (.inl 1), w)
  else
    nc_bI (nc_Call m_X10_word [.inr (.inr (10, ab))] w) fun r2 w1 =>
    if r2 ≠ 12 then
      some (some (.inl 1), w1)
    else
      nc_bV (nc_Call m_X10_next [.inr (.inr (10, ab))] w1) fun w3 =>
      nc_bI (nc_Call m_X9_readAll_7 [.inr (.inr (9, aa)), .inr (.inr (10, ab)), .inr (.inr (2, ac)), .inl xd] w3) fun r5 w4 =>
      if r5 ≠ 0 then
        nc_bV (nc_Call m_X9_put [.inr (.inr (9, aa)), .inl 12, .inl 0, .inl 0] w4) fun w6 =>
        nc_li (xe + 1) fun x7 =>
        nc_Run m_X9_readCond_7 15 [some (.inr (.inr (9, aa))), some (.inr (.inr (10, ab))), some (.inr (.inr (2, ac))), some (.inl xd), some (.inl x7)] [] w6
      else
        some (some (.inl 0), w4) :=
  (nc_Run_un [15] 23).trans rfl
set_option maxRecDepth 100000 in
theorem qc_X9_readOne_6 (aa : Nat) (ab : Nat) (ac : Nat) (xd : Int32) (w : nc_H) : nc_Call m_X9_readOne_6 [.inr (.inr (9, aa)), .inr (.inr (10, ab)), .inr (.inr (2, ac)), .inl xd] w =
  nc_bI (nc_Call m_X10_isSign [.inr (.inr (10, ab)), .inl 40] w) fun r2 w1 =>
  nc_bI (nc_Call m_X10_word [.inr (.inr (10, ab))] w1) fun r4 w3 =>
  if r2 ≠ 0 then
    if (20 : Int32) ≤ (w3.1 9 aa 4) then
      nc_bI (nc_Call m_X10_fail [.inr (.inr (10, ab)), .inl 4] w3) fun r6 w5 =>
      nc_z r6 <| some (some (.inl r6), w5)
    else
      if xd ≤ 8 then
        nc_lt (nc_si w3 9 aa 4 ((w3.1 9 aa 4) + 1)) fun w7 =>
        if r2 = 0 then
          if r4 ≠ 14 then
            nc_bI (nc_Call m_X9_readPlainOne [.inr (.inr (9, aa)), .inr (.inr (10, ab)), .inr (.inr (2, ac)), .inl r4] w7) fun r9 w8 =>
            if r9 ≠ 0 then
              nc_bV (nc_Call m_X10_next [.inr (.inr (10, ab))] w8) fun w10 =>
              some (some (.inl 1), w10)
            else
              some (some (.inl 0), w8)
          else
            nc_bV (nc_Call m_X10_next [.inr (.inr (10, ab))] w7) fun w11 =>
            nc_bI (nc_Call m_X9_readOne_7 [.inr (.inr (9, aa)), .inr (.inr (10, ab)), .inr (.inr (2, ac)), .inl (xd + 1)] w11) fun r13 w12 =>
            if r13 ≠ 0 then
              nc_bV (nc_Call m_X9_put [.inr (.inr (9, aa)), .inl 14, .inl 0, .inl 0] w12) fun w14 =>
              some (some (.inl 1), w14)
            else
              some (some (.inl 0), w12)
        else
          nc_bV (nc_Call m_X10_next [.inr (.inr (10, ab))] w7) fun w15 =>
          nc_bI (nc_Call m_X9_readCond_7 [.inr (.inr (9, aa)), .inr (.inr (10, ab)), .inr (.inr (2, ac)), .inl (xd + 1)] w15) fun r17 w16 =>
          if r17 = 0 then
            some (some (.inl 0), w16)
          else
            nc_bI (nc_Call m_X10_mustBeSign [.inr (.inr (10, ab)), .inl 41] w16) fun r19 w18 =>
            if r19 ≠ 0 then
              nc_bV (nc_Call m_X10_next [.inr (.inr (10, ab))] w18) fun w20 =>
              some (some (.inl 1), w20)
            else
              some (some (.inl 0), w18)
      else
        nc_bI (nc_Call m_X10_fail [.inr (.inr (10, ab)), .inl 4] w3) fun r22 w21 =>
        nc_z r22 <| some (some (.inl r22), w21)
  else
    if (14 : Int32) ≤ r4 then
      if (20 : Int32) ≤ (w3.1 9 aa 4) then
        nc_bI (nc_Call m_X10_fail [.inr (.inr (10, ab)), .inl 4] w3) fun r24 w23 =>
        nc_z r24 <| some (some (.inl r24), w23)
      else
        if xd ≤ 8 then
          nc_lt (nc_si w3 9 aa 4 ((w3.1 9 aa 4) + 1)) fun w25 =>
          if r2 = 0 then
            if r4 ≠ 14 then
              nc_bI (nc_Call m_X9_readPlainOne [.inr (.inr (9, aa)), .inr (.inr (10, ab)), .inr (.inr (2, ac)), .inl r4] w25) fun r27 w26 =>
              if r27 ≠ 0 then
                nc_bV (nc_Call m_X10_next [.inr (.inr (10, ab))] w26) fun w28 =>
                some (some (.inl 1), w28)
              else
                some (some (.inl 0), w26)
            else
              nc_bV (nc_Call m_X10_next [.inr (.inr (10, ab))] w25) fun w29 =>
              nc_bI (nc_Call m_X9_readOne_7 [.inr (.inr (9, aa)), .inr (.inr (10, ab)), .inr (.inr (2, ac)), .inl (xd + 1)] w29) fun r31 w30 =>
              if r31 ≠ 0 then
                nc_bV (nc_Call m_X9_put [.inr (.inr (9, aa)), .inl 14, .inl 0, .inl 0] w30) fun w32 =>
                some (some (.inl 1), w32)
              else
                some (some (.inl 0), w30)
          else
            nc_bV (nc_Call m_X10_next [.inr (.inr (10, ab))] w25) fun w33 =>
            nc_bI (nc_Call m_X9_readCond_7 [.inr (.inr (9, aa)), .inr (.inr (10, ab)), .inr (.inr (2, ac)), .inl (xd + 1)] w33) fun r35 w34 =>
            if r35 = 0 then
              some (some (.inl 0), w34)
            else
              nc_bI (nc_Call m_X10_mustBeSign [.inr (.inr (10, ab)), .inl 41] w34) fun r37 w36 =>
              if r37 ≠ 0 then
                nc_bV (nc_Call m_X10_next [.inr (.inr (10, ab))] w36) fun w38 =>
                some (some (.inl 1), w38)
              else
                some (some (.inl 0), w36)
        else
          nc_bI (nc_Call m_X10_fail [.inr (.inr (10, ab)), .inl 4] w3) fun r40 w39 =>
          nc_z r40 <| some (some (.inl r40), w39)
    else
      nc_bI (nc_Call m_X10_fail [.inr (.inr (10, ab)), .inl 1] w3) fun r42 w41 =>
      nc_z r42 <| some (some (.inl r42), w41) :=
  (nc_Call_eq _ _ _).trans ((if_pos (Nat.le_of_ble_eq_true rfl)).trans ((nc_Run_un [] 47).trans rfl))
set_option maxRecDepth 100000 in
theorem qc_X9_readAll_6 (aa : Nat) (ab : Nat) (ac : Nat) (xd : Int32) (w : nc_H) : nc_Call m_X9_readAll_6 [.inr (.inr (9, aa)), .inr (.inr (10, ab)), .inr (.inr (2, ac)), .inl xd] w =
  nc_bI (nc_Call m_X9_readOne_6 [.inr (.inr (9, aa)), .inr (.inr (10, ab)), .inr (.inr (2, ac)), .inl xd] w) fun r2 w1 =>
  if r2 ≠ 0 then
    nc_Run m_X9_readAll_6 15 [some (.inr (.inr (9, aa))), some (.inr (.inr (10, ab))), some (.inr (.inr (2, ac))), some (.inl xd), some (.inl 0)] [] w1
  else
    some (some (.inl 0), w1) :=
  (nc_Call_eq _ _ _).trans ((if_pos (Nat.le_of_ble_eq_true rfl)).trans ((nc_Run_un [15] 9).trans rfl))
set_option maxRecDepth 100000 in
theorem qr_X9_readAll_6_15 (aa : Nat) (ab : Nat) (ac : Nat) (xd : Int32) (xe : Int32) (w : nc_H) : nc_Run m_X9_readAll_6 15 [some (.inr (.inr (9, aa))), some (.inr (.inr (10, ab))), some (.inr (.inr (2, ac))), some (.inl xd), some (.inl xe)] [] w =
  if (20 : Int32) ≤ xe then
    some (some (.inl 1), w)
  else
    nc_bI (nc_Call m_X10_word [.inr (.inr (10, ab))] w) fun r2 w1 =>
    if r2 ≠ 13 then
      some (some (.inl 1), w1)
    else
      nc_bV (nc_Call m_X10_next [.inr (.inr (10, ab))] w1) fun w3 =>
      nc_bI (nc_Call m_X9_readOne_6 [.inr (.inr (9, aa)), .inr (.inr (10, ab)), .inr (.inr (2, ac)), .inl xd] w3) fun r5 w4 =>
      if r5 ≠ 0 then
        nc_bV (nc_Call m_X9_put [.inr (.inr (9, aa)), .inl 13, .inl 0, .inl 0] w4) fun w6 =>
        nc_li (xe + 1) fun x7 =>
        nc_Run m_X9_readAll_6 15 [some (.inr (.inr (9, aa))), some (.inr (.inr (10, ab))), some (.inr (.inr (2, ac))), some (.inl xd), some (.inl x7)] [] w6
      else
        some (some (.inl 0), w4) :=
  (nc_Run_un [15] 23).trans rfl
