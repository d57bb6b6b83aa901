set_option maxRecDepth 100000 in
theorem qc_X7_whyNotFound (aa : Nat) (xb : Int32) (w : nc_H) : nc_Call m_X7_whyNotFound [.inr (.inr (7, aa)), .inl xb] w =
  nc_bI (nc_Call m_X2_isLie [.inr (.inr (2, nc_ld aa)), .inl xb] w) fun r2 w1 =>
  if r2 ≠ 0 then
    if (((w1.1 7 aa 4) >>> (xb &&& 31)) &&& 1) ≠ 1 then
      some (some (.inl 0), w1)
    else
      some (some (.inl 2), w1)
  else
    some (some (.inl 1), w1) :=
  (nc_Call_eq _ _ _).trans ((if_pos (Nat.le_of_ble_eq_true rfl)).trans ((nc_Run_un [] 16).trans rfl))
set_option maxRecDepth 100000 in
theorem qc_X7_wouldDoubt (aa : Nat) (xb : Int32) (xc : Int32) (w : nc_H) : nc_Call m_X7_wouldDoubt [.inr (.inr (7, aa)), .inl xb, .inl xc] w =
  nc_bI (nc_Call m_X7_isDry [.inr (.inr (7, aa)), .inl xb] w) fun r2 w1 =>
  if r2 ≠ 0 then
    some (some (.inl 0), w1)
  else
    nc_bd xb 8 fun j3 =>
    if (((w1.1 554 aa j3) >>> (xc &&& 31)) &&& 1) ≠ 1 then
      some (some (.inl 0), w1)
    else
      some (some (.inl 1), w1) :=
  (nc_Call_eq _ _ _).trans ((if_pos (Nat.le_of_ble_eq_true rfl)).trans ((nc_Run_un [] 17).trans rfl))
set_option maxRecDepth 100000 in
theorem qc_X7_wouldDry (aa : Nat) (xb : Int32) (w : nc_H) : nc_Call m_X7_wouldDry [.inr (.inr (7, aa)), .inl xb] w =
  nc_Run m_X7_wouldDry 4 [some (.inr (.inr (7, aa))), some (.inl xb), some (.inl 0), some (.inl 0)] [] w :=
  (nc_Call_eq _ _ _).trans ((if_pos (Nat.le_of_ble_eq_true rfl)).trans ((nc_Run_un [4] 5).trans rfl))
set_option maxRecDepth 100000 in
theorem qr_X7_wouldDry_4 (aa : Nat) (xb : Int32) (xc : Int32) (xd : Int32) (w : nc_H) : nc_Run m_X7_wouldDry 4 [some (.inr (.inr (7, aa))), some (.inl xb), some (.inl xc), some (.inl xd)] [] w =
  if (w.1 2 (nc_ld aa) 2) ≤ xd then
    some (some (.inl xc), w)
  else
    nc_bI (nc_Call m_X7_wouldDoubt [.inr (.inr (7, aa)), .inl xd, .inl xb] w) fun r2 w1 =>
    if r2 = 0 then
      nc_li (xd + 1) fun x3 =>
      nc_Run m_X7_wouldDry 4 [some (.inr (.inr (7, aa))), some (.inl xb), some (.inl xc), some (.inl x3)] [] w1
    else
      nc_bd xd 8 fun j4 =>
      nc_bd xd 8 fun j5 =>
      if ((w1.1 559 aa j4) + 1) < (w1.1 240 (nc_ld aa) j5) then
        nc_li (xd + 1) fun x6 =>
        nc_Run m_X7_wouldDry 4 [some (.inr (.inr (7, aa))), some (.inl xb), some (.inl xc), some (.inl x6)] [] w1
      else
        nc_li (xc ||| (1 <<< (xd &&& 31))) fun x7 =>
        nc_li (xd + 1) fun x8 =>
        nc_Run m_X7_wouldDry 4 [some (.inr (.inr (7, aa))), some (.inl xb), some (.inl x7), some (.inl x8)] [] w1 :=
  (nc_Run_un [4] 31).trans rfl
set_option maxRecDepth 100000 in
theorem qc_X7_findOut (aa : Nat) (xb : Int32) (w : nc_H) : nc_Call m_X7_findOut [.inr (.inr (7, aa)), .inl xb] w =
  nc_bI (nc_Call m_X7_wouldDry [.inr (.inr (7, aa)), .inl xb] w) fun r2 w1 =>
  nc_Run m_X7_findOut 8 [some (.inr (.inr (7, aa))), some (.inl xb), some (.inl r2), some (.inl 0)] [] w1 :=
  (nc_Call_eq _ _ _).trans ((if_pos (Nat.le_of_ble_eq_true rfl)).trans ((nc_Run_un [8] 7).trans rfl))
set_option maxRecDepth 100000 in
theorem qr_X7_findOut_8 (aa : Nat) (xb : Int32) (xc : Int32) (xd : Int32) (w : nc_H) : nc_Run m_X7_findOut 8 [some (.inr (.inr (7, aa))), some (.inl xb), some (.inl xc), some (.inl xd)] [] w =
  if (w.1 2 (nc_ld aa) 2) ≤ xd then
    nc_lt (nc_si w 7 aa 3 ((w.1 7 aa 3) ||| xc)) fun w1 =>
    nc_lt (nc_si w1 7 aa 4 ((w1.1 7 aa 4) ||| (1 <<< (xb &&& 31)))) fun w2 =>
    some (none, w2)
  else
    nc_bI (nc_Call m_X7_wouldDoubt [.inr (.inr (7, aa)), .inl xd, .inl xb] w) fun r4 w3 =>
    if r4 = 0 then
      nc_li (xd + 1) fun x5 =>
      nc_Run m_X7_findOut 8 [some (.inr (.inr (7, aa))), some (.inl xb), some (.inl xc), some (.inl x5)] [] w3
    else
      nc_bd xd 8 fun j6 =>
      nc_bd xd 8 fun j7 =>
      nc_lt (nc_si w3 559 aa j7 ((w3.1 559 aa j6) + 1)) fun w8 =>
      nc_li (xd + 1) fun x9 =>
      nc_Run m_X7_findOut 8 [some (.inr (.inr (7, aa))), some (.inl xb), some (.inl xc), some (.inl x9)] [] w8 :=
  (nc_Run_un [8] 21).trans rfl
set_option maxRecDepth 100000 in
theorem qc_X0_live (aa : Nat) (ab : Nat) (xc : Int32) (w : nc_H) : nc_Call m_X0_live [.inr (.inr (0, aa)), .inr (.inr (7, ab)), .inl xc] w =
  nc_bd xc 40 fun j1 =>
  if (w.1 100 aa j1) ≠ 11 then
    nc_bd xc 40 fun j2 =>
    if (w.1 100 aa j2) ≠ 10 then
      nc_bd xc 40 fun j3 =>
      nc_bd xc 40 fun j4 =>
      nc_bI (nc_Call m_X7_whyNotTold [.inr (.inr (7, ab)), .inl (w.1 101 aa j3), .inl (w.1 102 aa j4)] w) fun r6 w5 =>
      if r6 ≠ 0 then
        some (some (.inl r6), w5)
      else
        nc_bd xc 40 fun j7 =>
        nc_bd xc 40 fun j8 =>
        nc_bV (nc_Call m_X7_hear [.inr (.inr (7, ab)), .inl (w5.1 101 aa j7), .inl (w5.1 102 aa j8)] w5) fun w9 =>
        some (some (.inl r6), w9)
    else
      nc_bd xc 40 fun j10 =>
      nc_bI (nc_Call m_X7_whyNotFound [.inr (.inr (7, ab)), .inl (w.1 102 aa j10)] w) fun r12 w11 =>
      if r12 = 0 then
        nc_bd xc 40 fun j13 =>
        nc_bV (nc_Call m_X7_findOut [.inr (.inr (7, ab)), .inl (w11.1 102 aa j13)] w11) fun w14 =>
        some (some (.inl 0), w14)
      else
        some (some (.inl (10 + r12)), w11)
  else
    nc_bd xc 40 fun j15 =>
    if ((w.1 7 ab 1) + (w.1 102 aa j15)) ≤ 400 then
      nc_bd xc 40 fun j16 =>
      nc_bI (nc_Call m_X7_goDays [.inr (.inr (7, ab)), .inl (w.1 102 aa j16)] w) fun r18 w17 =>
      some (some (.inl 0), w17)
    else
      some (some (.inl 21), w) :=
  (nc_Call_eq _ _ _).trans ((if_pos (Nat.le_of_ble_eq_true rfl)).trans ((nc_Run_un [] 37).trans rfl))
set_option maxRecDepth 100000 in
theorem qc_X0_judge (aa : Nat) (ab : Nat) (w : nc_H) : nc_Call m_X0_judge [.inr (.inr (0, aa)), .inr (.inr (7, ab))] w =
  nc_lt (nc_si w 0 aa 4 1) fun w1 =>
  nc_lt (nc_si w1 0 aa 5 0) fun w2 =>
  nc_lt (nc_si w2 0 aa 6 0) fun w3 =>
  nc_Run m_X0_judge 17 [some (.inr (.inr (0, aa))), some (.inr (.inr (7, ab))), some (.inl 0)] [] w3 :=
  (nc_Call_eq _ _ _).trans ((if_pos (Nat.le_of_ble_eq_true rfl)).trans ((nc_Run_un [17] 12).trans rfl))
set_option maxRecDepth 100000 in
theorem qr_X0_judge_17 (aa : Nat) (ab : Nat) (xc : Int32) (w : nc_H) : nc_Run m_X0_judge 17 [some (.inr (.inr (0, aa))), some (.inr (.inr (7, ab))), some (.inl xc)] [] w =
  if (w.1 0 aa 3) ≤ xc then
    nc_lt (nc_si w 0 aa 7 (w.1 7 ab 1)) fun w1 =>
    nc_lt (nc_si w1 0 aa 8 (w1.1 7 ab 3)) fun w2 =>
    if (w2.1 0 aa 5) ≠ 0 then
      some (some (.inl (w2.1 0 aa 6)), w2)
    else
      some (some (.inl (-1)), w2)
  else
    if (w.1 0 aa 5) ≠ 0 then
      nc_lt (nc_si w 0 aa 7 (w.1 7 ab 1)) fun w3 =>
      nc_lt (nc_si w3 0 aa 8 (w3.1 7 ab 3)) fun w4 =>
      if (w4.1 0 aa 5) ≠ 0 then
        some (some (.inl (w4.1 0 aa 6)), w4)
      else
        some (some (.inl (-1)), w4)
    else
      nc_bI (nc_Call m_X0_live [.inr (.inr (0, aa)), .inr (.inr (7, ab)), .inl xc] w) fun r6 w5 =>
      nc_lt (nc_si w5 0 aa 5 r6) fun w7 =>
      if (w7.1 0 aa 5) ≠ 0 then
        nc_lt (nc_si w7 0 aa 6 xc) fun w8 =>
        nc_li (xc + 1) fun x9 =>
        nc_Run m_X0_judge 17 [some (.inr (.inr (0, aa))), some (.inr (.inr (7, ab))), some (.inl x9)] [] w8
      else
        nc_lt (nc_si w7 0 aa 6 (xc + 1)) fun w10 =>
        nc_li (xc + 1) fun x11 =>
        nc_Run m_X0_judge 17 [some (.inr (.inr (0, aa))), some (.inr (.inr (7, ab))), some (.inl x11)] [] w10 :=
  (nc_Run_un [17] 25).trans rfl
set_option maxRecDepth 100000 in
theorem qc_X1_lookAt (aa : Nat) (xb : Int32) (w : nc_H) : nc_Call m_X1_lookAt [.inr (.inr (1, aa)), .inl xb] w =
  nc_bI (nc_Call m_X2_allNews [.inr (.inr (2, 0))] w) fun r2 w1 =>
  nc_bd xb 8 fun j3 =>
  nc_lt (nc_si w1 1 aa 4 (r2 &&& ((w1.1 555 0 j3) ^^^ (-1)))) fun w4 =>
  nc_bd xb 8 fun j5 =>
  nc_bI (nc_Call m_J6_bitCount_0f7a4 [.inl (w4.1 555 0 j5)] w4) fun r7 w6 =>
  nc_lt (nc_si w6 1 aa 5 ((w4.1 2 0 5) - r7)) fun w8 =>
  nc_bI (nc_Call m_X7_sumOf [.inr (.inr (7, 0)), .inl xb] w8) fun r10 w9 =>
  nc_lt (nc_si w9 1 aa 6 r10) fun w11 =>
  nc_bI (nc_Call m_X7_isCurdled [.inr (.inr (7, 0)), .inl xb] w11) fun r13 w12 =>
  nc_z r13 <|
  nc_lt (nc_si w12 1 aa 7 r13) fun w14 =>
  nc_bI (nc_Call m_X7_heardByOthers [.inr (.inr (7, 0)), .inl xb] w14) fun r16 w15 =>
  nc_lt (nc_si w15 166 aa 0 0) fun w17 =>
  nc_Run m_X1_lookAt 89 [some (.inr (.inr (1, aa))), some (.inl xb), some (.inl r16), some (.inl 0), none, none] [] w17 :=
  (nc_Call_eq _ _ _).trans ((if_pos (Nat.le_of_ble_eq_true rfl)).trans ((nc_Run_un [89, 123] 50).trans rfl))
set_option maxRecDepth 100000 in
theorem qr_X1_lookAt_89 (aa : Nat) (xb : Int32) (xc : Int32) (xd : Int32) (w : nc_H) : nc_Run m_X1_lookAt 89 [some (.inr (.inr (1, aa))), some (.inl xb), some (.inl xc), some (.inl xd), none, none] [] w =
  if (w.1 2 0 3) ≤ xd then
    some (none, w)
  else
    nc_bd xb 8 fun j1 =>
    nc_bI (nc_Call m_X7_addedBy [.inr (.inr (7, 0)), .inl xd, .inl xc, .inl (w.1 554 0 j1)] w) fun r3 w2 =>
    nc_Run m_X1_lookAt 123 [some (.inr (.inr (1, aa))), some (.inl xb), some (.inl xc), some (.inl xd), some (.inl r3), some (.inl 0)] [] w2 :=
  (nc_Run_un [89, 123] 19).trans rfl
set_option maxRecDepth 100000 in
theorem qr_X1_lookAt_123 (aa : Nat) (xb : Int32) (xc : Int32) (xd : Int32) (xe : Int32) (xf : Int32) (w : nc_H) : nc_Run m_X1_lookAt 123 [some (.inr (.inr (1, aa))), some (.inl xb), some (.inl xc), some (.inl xd), some (.inl xe), some (.inl xf)] [] w =
  if (1 <<< (xd &&& 31)) ≤ xf then
    nc_li (xd + 1) fun x1 =>
    nc_Run m_X1_lookAt 89 [some (.inr (.inr (1, aa))), some (.inl xb), some (.inl xc), some (.inl x1), none, none] [] w
  else
    nc_bd xf 1024 fun j2 =>
    nc_bd (xf ||| (1 <<< (xd &&& 31))) 1024 fun j3 =>
    nc_lt (nc_si w 166 aa j3 ((w.1 166 aa j2) + xe)) fun w4 =>
    nc_li (xf + 1) fun x5 =>
    nc_Run m_X1_lookAt 123 [some (.inr (.inr (1, aa))), some (.inl xb), some (.inl xc), some (.inl xd), some (.inl xe), some (.inl x5)] [] w4 :=
  (nc_Run_un [89, 123] 22).trans rfl
set_option maxRecDepth 100000 in
theorem qc_X1_milkBy (aa : Nat) (xb : Int32) (w : nc_H) : nc_Call m_X1_milkBy [.inr (.inr (1, aa)), .inl xb] w =
  if (w.1 1 aa 7) ≠ 0 then
    some (some (.inl 0), w)
  else
    if (xb &&& (w.1 2 0 7)) = 0 then
      nc_bd xb 1024 fun j1 =>
      some (some (.inl (if (0 : Int32) < ((w.1 1 aa 6) + (w.1 166 aa j1)) then ((w.1 1 aa 6) + (w.1 166 aa j1)) else (0 : Int32))), w)
    else
      some (some (.inl 0), w) :=
  (nc_Call_eq _ _ _).trans ((if_pos (Nat.le_of_ble_eq_true rfl)).trans ((nc_Run_un [] 19).trans rfl))
set_option maxRecDepth 100000 in
theorem qc_X1_bestOf (aa : Nat) (xb : Int32) (w : nc_H) : nc_Call m_X1_bestOf [.inr (.inr (1, aa)), .inl xb] w =
  nc_bI (nc_Call m_J6_bitCount_0f7a4 [.inl xb] w) fun r2 w1 =>
  nc_li (1 <<< (r2 &&& 31)) fun x3 =>
  nc_Run m_X1_bestOf 15 [some (.inr (.inr (1, aa))), some (.inl xb), some (.inl 0), some (.inl x3), some (.inl 0), some (.inl 1), none, none] [] w1 :=
  (nc_Call_eq _ _ _).trans ((if_pos (Nat.le_of_ble_eq_true rfl)).trans ((nc_Run_un [15] 12).trans rfl))
set_option maxRecDepth 100000 in
theorem qr_X1_bestOf_15 (aa : Nat) (xb : Int32) (xc : Int32) (xd : Int32) (xe : Int32) (xf : Int32) (w : nc_H) : nc_Run m_X1_bestOf 15 [some (.inr (.inr (1, aa))), some (.inl xb), some (.inl xc), some (.inl xd), some (.inl xe), some (.inl xf), none, none] [] w =
  if xd ≤ xf then
    some (some (.inl xc), w)
  else
    nc_bI (nc_Call m_X1_setAfter [.inl xe, .inl xb] w) fun r2 w1 =>
    nc_bI (nc_Call m_J6_bitCount_0f7a4 [.inl r2] w1) fun r4 w3 =>
    if (w3.1 1 aa 5) < r4 then
      nc_li (xf + 1) fun x5 =>
      nc_Run m_X1_bestOf 15 [some (.inr (.inr (1, aa))), some (.inl xb), some (.inl xc), some (.inl xd), some (.inl r2), some (.inl x5), none, none] [] w3
    else
      nc_bI (nc_Call m_X1_milkBy [.inr (.inr (1, aa)), .inl r2] w3) fun r7 w6 =>
      nc_bI (nc_Call m_X1_milkBy [.inr (.inr (1, aa)), .inl xc] w6) fun r9 w8 =>
      nc_li (r7 - r9) fun x10 =>
      if (0 : Int32) < x10 then
        nc_li (xf + 1) fun x11 =>
        nc_Run m_X1_bestOf 15 [some (.inr (.inr (1, aa))), some (.inl xb), some (.inl r2), some (.inl xd), some (.inl r2), some (.inl x11), none, none] [] w8
      else
        if x10 ≠ 0 then
          nc_li (xf + 1) fun x12 =>
          nc_Run m_X1_bestOf 15 [some (.inr (.inr (1, aa))), some (.inl xb), some (.inl xc), some (.inl xd), some (.inl r2), some (.inl x12), none, none] [] w8
        else
          nc_bI (nc_Call m_J6_bitCount_0f7a4 [.inl xc] w8) fun r14 w13 =>
          if r14 ≤ r4 then
            nc_li (xf + 1) fun x15 =>
            nc_Run m_X1_bestOf 15 [some (.inr (.inr (1, aa))), some (.inl xb), some (.inl xc), some (.inl xd), some (.inl r2), some (.inl x15), none, none] [] w13
          else
            nc_li (xf + 1) fun x16 =>
            nc_Run m_X1_bestOf 15 [some (.inr (.inr (1, aa))), some (.inl xb), some (.inl r2), some (.inl xd), some (.inl r2), some (.inl x16), none, none] [] w13 :=
  (nc_Run_un [15] 35).trans rfl
set_option maxRecDepth 100000 in
theorem qc_X1_most (aa : Nat) (xb : Int32) (w : nc_H) : nc_Call m_X1_most [.inr (.inr (1, aa)), .inl xb] w =
  nc_bV (nc_Call m_X1_lookAt [.inr (.inr (1, aa)), .inl xb] w) fun w1 =>
  nc_bI (nc_Call m_X1_bestOf [.inr (.inr (1, aa)), .inl ((w1.1 1 aa 4) &&& ((w1.1 2 0 7) ^^^ (-1)))] w1) fun r3 w2 =>
  nc_lt (nc_si w2 1 aa 8 r3) fun w4 =>
  nc_bI (nc_Call m_X1_milkBy [.inr (.inr (1, aa)), .inl (w4.1 1 aa 8)] w4) fun r6 w5 =>
  some (some (.inl r6), w5) :=
  (nc_Call_eq _ _ _).trans ((if_pos (Nat.le_of_ble_eq_true rfl)).trans ((nc_Run_un [] 20).trans rfl))
set_option maxRecDepth 100000 in
theorem qc_X1_mostWithoutLies (aa : Nat) (xb : Int32) (w : nc_H) : nc_Call m_X1_mostWithoutLies [.inr (.inr (1, aa)), .inl xb] w =
  nc_bV (nc_Call m_X1_lookAt [.inr (.inr (1, aa)), .inl xb] w) fun w1 =>
  nc_bI (nc_Call m_X1_bestOf [.inr (.inr (1, aa)), .inl (((w1.1 1 aa 4) &&& ((w1.1 2 0 7) ^^^ (-1))) &&& ((w1.1 2 0 6) ^^^ (-1)))] w1) fun r3 w2 =>
  nc_bI (nc_Call m_X1_milkBy [.inr (.inr (1, aa)), .inl r3] w2) fun r5 w4 =>
  some (some (.inl r5), w4) :=
  (nc_Call_eq _ _ _).trans ((if_pos (Nat.le_of_ble_eq_true rfl)).trans ((nc_Run_un [] 22).trans rfl))
set_option maxRecDepth 100000 in
theorem qc_X1_isLess (aa : Nat) (xb : Int32) (xc : Int32) (w : nc_H) : nc_Call m_X1_isLess [.inr (.inr (1, aa)), .inl xb, .inl xc] w =
  if xc ≠ (-1) then
    nc_bI (nc_Call m_J6_bitCount_0f7a4 [.inl (xb &&& (w.1 2 0 6))] w) fun r2 w1 =>
    nc_bI (nc_Call m_J6_bitCount_0f7a4 [.inl (xc &&& (w1.1 2 0 6))] w1) fun r4 w3 =>
    nc_li (r2 - r4) fun x5 =>
    if x5 < 0 then
      some (some (.inl 1), w3)
    else
      if x5 ≠ 0 then
        some (some (.inl 0), w3)
      else
        nc_bI (nc_Call m_J6_bitCount_0f7a4 [.inl xb] w3) fun r7 w6 =>
        nc_bI (nc_Call m_J6_bitCount_0f7a4 [.inl xc] w6) fun r9 w8 =>
        if r9 ≤ r7 then
          some (some (.inl 0), w8)
        else
          some (some (.inl 1), w8)
  else
    some (some (.inl 1), w) :=
  (nc_Call_eq _ _ _).trans ((if_pos (Nat.le_of_ble_eq_true rfl)).trans ((nc_Run_un [] 29).trans rfl))
set_option maxRecDepth 100000 in
theorem qc_X1_fewestLies (aa : Nat) (xb : Int32) (xc : Int32) (w : nc_H) : nc_Call m_X1_fewestLies [.inr (.inr (1, aa)), .inl xb, .inl xc] w =
  nc_bV (nc_Call m_X1_lookAt [.inr (.inr (1, aa)), .inl xb] w) fun w1 =>
  nc_li ((w1.1 1 aa 4) &&& ((w1.1 2 0 7) ^^^ (-1))) fun x2 =>
  nc_bI (nc_Call m_J6_bitCount_0f7a4 [.inl x2] w1) fun r4 w3 =>
  nc_li (1 <<< (r4 &&& 31)) fun x5 =>
  nc_Run m_X1_fewestLies 37 [some (.inr (.inr (1, aa))), none, some (.inl xc), some (.inl x2), some (.inl x5), some (.inl (-1)), some (.inl 0), some (.inl 0)] [] w3 :=
  (nc_Call_eq _ _ _).trans ((if_pos (Nat.le_of_ble_eq_true rfl)).trans ((nc_Run_un [37] 24).trans rfl))
set_option maxRecDepth 100000 in
theorem qr_X1_fewestLies_37 (aa : Nat) (xc : Int32) (xd : Int32) (xe : Int32) (xf : Int32) (xg : Int32) (xh : Int32) (w : nc_H) : nc_Run m_X1_fewestLies 37 [some (.inr (.inr (1, aa))), none, some (.inl xc), some (.inl xd), some (.inl xe), some (.inl xf), some (.inl xg), some (.inl xh)] [] w =
  if xe ≤ xh then
    if xf ≠ (-1) then
      nc_lt (nc_si w 1 aa 8 xf) fun w1 =>
      nc_bI (nc_Call m_J6_bitCount_0f7a4 [.inl (xf &&& (w1.1 2 0 6))] w1) fun r3 w2 =>
      some (some (.inl r3), w2)
    else
      some (some (.inl (-1)), w)
  else
    nc_bI (nc_Call m_J6_bitCount_0f7a4 [.inl xg] w) fun r5 w4 =>
    if (w4.1 1 aa 5) < r5 then
      nc_bI (nc_Call m_X1_setAfter [.inl xg, .inl xd] w4) fun r7 w6 =>
      nc_li (xh + 1) fun x8 =>
      nc_Run m_X1_fewestLies 37 [some (.inr (.inr (1, aa))), none, some (.inl xc), some (.inl xd), some (.inl xe), some (.inl xf), some (.inl r7), some (.inl x8)] [] w6
    else
      nc_bI (nc_Call m_X1_milkBy [.inr (.inr (1, aa)), .inl xg] w4) fun r10 w9 =>
      if r10 < xc then
        nc_bI (nc_Call m_X1_setAfter [.inl xg, .inl xd] w9) fun r12 w11 =>
        nc_li (xh + 1) fun x13 =>
        nc_Run m_X1_fewestLies 37 [some (.inr (.inr (1, aa))), none, some (.inl xc), some (.inl xd), some (.inl xe), some (.inl xf), some (.inl r12), some (.inl x13)] [] w11
      else
        nc_bI (nc_Call m_X1_isLess [.inr (.inr (1, aa)), .inl xg, .inl xf] w9) fun r15 w14 =>
        if r15 = 0 then
          nc_bI (nc_Call m_X1_setAfter [.inl xg, .inl xd] w14) fun r17 w16 =>
          nc_li (xh + 1) fun x18 =>
          nc_Run m_X1_fewestLies 37 [some (.inr (.inr (1, aa))), none, some (.inl xc), some (.inl xd), some (.inl xe), some (.inl xf), some (.inl r17), some (.inl x18)] [] w16
        else
          nc_bI (nc_Call m_X1_setAfter [.inl xg, .inl xd] w14) fun r20 w19 =>
          nc_li (xh + 1) fun x21 =>
          nc_Run m_X1_fewestLies 37 [some (.inr (.inr (1, aa))), none, some (.inl xc), some (.inl xd), some (.inl xe), some (.inl xg), some (.inl r20), some (.inl x21)] [] w19 :=
  (nc_Run_un [37] 27).trans rfl
set_option maxRecDepth 100000 in
theorem qc_X1_mostEven (aa : Nat) (xb : Int32) (w : nc_H) : nc_Call m_X1_mostEven [.inr (.inr (1, aa)), .inl xb] w =
  nc_Run m_X1_mostEven 7 [some (.inr (.inr (1, aa))), some (.inl xb), some (.inl (-1)), some (.inl 0), some (.inl 0), none] [] w :=
  (nc_Call_eq _ _ _).trans ((if_pos (Nat.le_of_ble_eq_true rfl)).trans ((nc_Run_un [7] 7).trans rfl))
set_option maxRecDepth 100000 in
theorem qr_X1_mostEven_7 (aa : Nat) (xb : Int32) (xc : Int32) (xd : Int32) (xe : Int32) (w : nc_H) : nc_Run m_X1_mostEven 7 [some (.inr (.inr (1, aa))), some (.inl xb), some (.inl xc), some (.inl xd), some (.inl xe), none] [] w =
  if (w.1 2 0 3) ≤ xe then
    some (some (.inl xc), w)
  else
    nc_bd xe 10 fun j1 =>
    nc_li (if 0 ≤ ((2 * (w.1 167 aa j1)) - xb) then ((2 * (w.1 167 aa j1)) - xb) else 0 - ((2 * (w.1 167 aa j1)) - xb)) fun x2 =>
    if xc = (-1) then
      nc_li (xe + 1) fun x3 =>
      nc_Run m_X1_mostEven 7 [some (.inr (.inr (1, aa))), some (.inl xb), some (.inl xe), some (.inl x2), some (.inl x3), none] [] w
    else
      if xd ≤ x2 then
        nc_li (xe + 1) fun x4 =>
        nc_Run m_X1_mostEven 7 [some (.inr (.inr (1, aa))), some (.inl xb), some (.inl xc), some (.inl xd), some (.inl x4), none] [] w
      else
        nc_li (xe + 1) fun x5 =>
        nc_Run m_X1_mostEven 7 [some (.inr (.inr (1, aa))), some (.inl xb), some (.inl xe), some (.inl x2), some (.inl x5), none] [] w :=
  (nc_Run_un [7] 28).trans rfl
set_option maxRecDepth 100000 in
theorem qc_X1_setsThatGive (aa : Nat) (xb : Int32) (xc : Int32) (w : nc_H) : nc_Call m_X1_setsThatGive [.inr (.inr (1, aa)), .inl xb, .inl xc] w =
  nc_bV (nc_Call m_X1_lookAt [.inr (.inr (1, aa)), .inl xb] w) fun w1 =>
  nc_bV (nc_Call m_J7_fill_53178 [.inr (.inr (167, aa)), .inl 0] w1) fun w2 =>
  nc_bI (nc_Call m_J6_bitCount_0f7a4 [.inl (w2.1 1 aa 4)] w2) fun r4 w3 =>
  nc_li (1 <<< (r4 &&& 31)) fun x5 =>
  nc_bI (nc_Call m_X2_allNews [.inr (.inr (2, 0))] w3) fun r7 w6 =>
  nc_Run m_X1_setsThatGive 41 [some (.inr (.inr (1, aa))), none, some (.inl xc), some (.inl x5), some (.inl 0), some (.inl r7), some (.inl 0), some (.inl 0)] [] w6 :=
  (nc_Call_eq _ _ _).trans ((if_pos (Nat.le_of_ble_eq_true rfl)).trans ((nc_Run_un [41] 24).trans rfl))
set_option maxRecDepth 100000 in
theorem qr_X1_setsThatGive_41 (aa : Nat) (xc : Int32) (xd : Int32) (xe : Int32) (xf : Int32) (xg : Int32) (xh : Int32) (w : nc_H) : nc_Run m_X1_setsThatGive 41 [some (.inr (.inr (1, aa))), none, some (.inl xc), some (.inl xd), some (.inl xe), some (.inl xf), some (.inl xg), some (.inl xh)] [] w =
  if xd ≤ xh then
    if xe ≤ 0 then
      some (some (.inl xe), w)
    else
      nc_lt (nc_si w 1 aa 9 xf) fun w1 =>
      nc_bI (nc_Call m_X1_mostEven [.inr (.inr (1, aa)), .inl xe] w1) fun r3 w2 =>
      nc_lt (nc_si w2 1 aa 10 r3) fun w4 =>
      some (some (.inl xe), w4)
  else
    nc_bI (nc_Call m_J6_bitCount_0f7a4 [.inl xg] w) fun r6 w5 =>
    if (w5.1 1 aa 5) < r6 then
      nc_bI (nc_Call m_X1_setAfter [.inl xg, .inl (w5.1 1 aa 4)] w5) fun r8 w7 =>
      nc_li (xh + 1) fun x9 =>
      nc_Run m_X1_setsThatGive 41 [some (.inr (.inr (1, aa))), none, some (.inl xc), some (.inl xd), some (.inl xe), some (.inl xf), some (.inl r8), some (.inl x9)] [] w7
    else
      nc_bI (nc_Call m_X1_milkBy [.inr (.inr (1, aa)), .inl xg] w5) fun r11 w10 =>
      if r11 ≠ xc then
        nc_bI (nc_Call m_X1_setAfter [.inl xg, .inl (w10.1 1 aa 4)] w10) fun r13 w12 =>
        nc_li (xh + 1) fun x14 =>
        nc_Run m_X1_setsThatGive 41 [some (.inr (.inr (1, aa))), none, some (.inl xc), some (.inl xd), some (.inl xe), some (.inl xf), some (.inl r13), some (.inl x14)] [] w12
      else
        nc_li (xe + 1) fun x15 =>
        nc_li (xf &&& xg) fun x16 =>
        nc_bV (nc_Call m_X1_countNews [.inr (.inr (1, aa)), .inl xg] w10) fun w17 =>
        nc_bI (nc_Call m_X1_setAfter [.inl xg, .inl (w17.1 1 aa 4)] w17) fun r19 w18 =>
        nc_li (xh + 1) fun x20 =>
        nc_Run m_X1_setsThatGive 41 [some (.inr (.inr (1, aa))), none, some (.inl xc), some (.inl xd), some (.inl x15), some (.inl x16), some (.inl r19), some (.inl x20)] [] w18 :=
  (nc_Run_un [41] 29).trans rfl
set_option maxRecDepth 100000 in
theorem qc_X2_clear (aa : Nat) (w : nc_H) : nc_Call m_X2_clear [.inr (.inr (2, aa))] w =
  nc_lt (nc_si w 2 aa 0 0) fun w1 =>
  nc_lt (nc_si w1 2 aa 1 0) fun w2 =>
  nc_lt (nc_si w2 2 aa 2 0) fun w3 =>
  nc_lt (nc_si w3 2 aa 3 0) fun w4 =>
  nc_lt (nc_si w4 2 aa 4 0) fun w5 =>
  nc_lt (nc_si w5 2 aa 5 3) fun w6 =>
  nc_lt (nc_si w6 2 aa 6 0) fun w7 =>
  nc_lt (nc_si w7 2 aa 7 0) fun w8 =>
  nc_bV (nc_Call m_J7_fill_d0a16 [.inr (.inr (236, aa)), .inr (.inl 0)] w8) fun w9 =>
  nc_bV (nc_Call m_J7_fill_53178 [.inr (.inr (237, aa)), .inl 0] w9) fun w10 =>
  some (none, w10) :=
  (nc_Call_eq _ _ _).trans ((if_pos (Nat.le_of_ble_eq_true rfl)).trans ((nc_Run_un [] 33).trans rfl))
set_option maxRecDepth 100000 in
theorem qc_X2_copyFrom (aa : Nat) (ab : Nat) (w : nc_H) : nc_Call m_X2_copyFrom [.inr (.inr (2, aa)), .inr (.inr (2, ab))] w =
  nc_lt (nc_si w 2 aa 0 (w.1 2 ab 0)) fun w1 =>
  nc_lt (nc_si w1 2 aa 1 (w1.1 2 ab 1)) fun w2 =>
  nc_lt (nc_si w2 2 aa 2 (w2.1 2 ab 2)) fun w3 =>
  nc_lt (nc_si w3 2 aa 3 (w3.1 2 ab 3)) fun w4 =>
  nc_lt (nc_si w4 2 aa 4 (w4.1 2 ab 4)) fun w5 =>
  nc_lt (nc_si w5 2 aa 5 (w5.1 2 ab 5)) fun w6 =>
  nc_lt (nc_si w6 2 aa 6 (w6.1 2 ab 6)) fun w7 =>
  nc_lt (nc_si w7 2 aa 7 (w7.1 2 ab 7)) fun w8 =>
  nc_lt (nc_cpl w8 236 ab 0 236 aa 0 22) fun w9 =>
  nc_lt (nc_cpi w9 237 ab 0 237 aa 0 4) fun w10 =>
  nc_lt (nc_cpi w10 238 ab 0 238 aa 0 8) fun w11 =>
  nc_lt (nc_cpi w11 239 ab 0 239 aa 0 8) fun w12 =>
  nc_lt (nc_cpi w12 240 ab 0 240 aa 0 8) fun w13 =>
  nc_lt (nc_cpi w13 241 ab 0 241 aa 0 8) fun w14 =>
  nc_lt (nc_cpi w14 242 ab 0 242 aa 0 10) fun w15 =>
  nc_lt (nc_cpi w15 243 ab 0 243 aa 0 10) fun w16 =>
  nc_lt (nc_cpi w16 244 ab 0 244 aa 0 6) fun w17 =>
  nc_lt (nc_cpi w17 245 ab 0 245 aa 0 6) fun w18 =>
  nc_lt (nc_cpi w18 246 ab 0 246 aa 0 6) fun w19 =>
  some (none, w19) :=
  (nc_Call_eq _ _ _).trans ((if_pos (Nat.le_of_ble_eq_true rfl)).trans ((nc_Run_un [] 121).trans rfl))
set_option maxRecDepth 100000 in
theorem qc_X2_nextNewName (aa : Nat) (ab : Nat) (xc : Int32) (w : nc_H) : nc_Call m_X2_nextNewName [.inr (.inr (2, aa)), .inr (.inr (10, ab)), .inl xc] w =
  nc_bV (nc_Call m_X10_next [.inr (.inr (10, ab))] w) fun w1 =>
  if (w1.1 10 ab 11) = 3 then
    nc_bI (nc_Call m_X2_slotOf [.inr (.inr (2, aa)), .inr (.inl (w1.2 10 ab 13))] w1) fun r3 w2 =>
    if r3 ≠ (-1) then
      nc_bI (nc_Call m_X10_fail [.inr (.inr (10, ab)), .inl 3] w2) fun r5 w4 =>
      nc_z r5 <| some (some (.inl r5), w4)
    else
      if xc < 0 then
        nc_bI (nc_Call m_X10_fail [.inr (.inr (10, ab)), .inl 3] w2) fun r7 w6 =>
        nc_z r7 <| some (some (.inl r7), w6)
      else
        if xc < 22 then
          nc_bd xc 22 fun j8 =>
          nc_lt (nc_sl w2 236 aa j8 (w2.2 10 ab 13)) fun w9 =>
          some (some (.inl 1), w9)
        else
          nc_bI (nc_Call m_X10_fail [.inr (.inr (10, ab)), .inl 3] w2) fun r11 w10 =>
          nc_z r11 <| some (some (.inl r11), w10)
  else
    nc_bI (nc_Call m_X10_fail [.inr (.inr (10, ab)), .inl 1] w1) fun r13 w12 =>
    nc_z r13 <| some (some (.inl r13), w12) :=
  (nc_Call_eq _ _ _).trans ((if_pos (Nat.le_of_ble_eq_true rfl)).trans ((nc_Run_un [] 25).trans rfl))
set_option maxRecDepth 100000 in
theorem qc_X2_hasHedge (aa : Nat) (xb : Int32) (xc : Int32) (w : nc_H) : nc_Call m_X2_hasHedge [.inr (.inr (2, aa)), .inl xb, .inl xc] w =
  nc_bI (nc_Call m_X2_hedgesOf [.inr (.inr (2, aa)), .inl xb] w) fun r2 w1 =>
  nc_bI (nc_Call m_X2_hedgesOf [.inr (.inr (2, aa)), .inl xc] w1) fun r4 w3 =>
  if (r2 &&& r4) = 0 then
    some (some (.inl 0), w3)
  else
    some (some (.inl 1), w3) :=
  (nc_Call_eq _ _ _).trans ((if_pos (Nat.le_of_ble_eq_true rfl)).trans ((nc_Run_un [] 11).trans rfl))
set_option maxRecDepth 100000 in
theorem qc_X2_fewestBetween (aa : Nat) (xb : Int32) (xc : Int32) (w : nc_H) : nc_Call m_X2_fewestBetween [.inr (.inr (2, aa)), .inl xb, .inl xc] w =
  nc_li ((1 <<< ((w.1 2 aa 4) &&& 31)) - 1) fun x1 =>
  nc_Run m_X2_fewestBetween 12 [some (.inr (.inr (2, aa))), some (.inl xb), some (.inl xc), some (.inl x1), some (.inl 0)] [] w :=
  (nc_Call_eq _ _ _).trans ((if_pos (Nat.le_of_ble_eq_true rfl)).trans ((nc_Run_un [12] 10).trans rfl))
set_option maxRecDepth 100000 in
theorem qr_X2_fewestBetween_12 (aa : Nat) (xb : Int32) (xc : Int32) (xd : Int32) (xe : Int32) (w : nc_H) : nc_Run m_X2_fewestBetween 12 [some (.inr (.inr (2, aa))), some (.inl xb), some (.inl xc), some (.inl xd), some (.inl xe)] [] w =
  if (1 <<< ((w.1 2 aa 4) &&& 31)) ≤ xe then
    some (some (.inl xd), w)
  else
    nc_bI (nc_Call m_J6_bitCount_0f7a4 [.inl xe] w) fun r2 w1 =>
    nc_bI (nc_Call m_J6_bitCount_0f7a4 [.inl xd] w1) fun r4 w3 =>
    if r4 ≤ r2 then
      nc_li (xe + 1) fun x5 =>
      nc_Run m_X2_fewestBetween 12 [some (.inr (.inr (2, aa))), some (.inl xb), some (.inl xc), some (.inl xd), some (.inl x5)] [] w3
    else
      nc_bI (nc_Call m_X2_comesTo [.inr (.inr (2, aa)), .inl xb, .inl xc, .inl xe] w3) fun r7 w6 =>
      if r7 ≠ 0 then
        nc_li (xe + 1) fun x8 =>
        nc_Run m_X2_fewestBetween 12 [some (.inr (.inr (2, aa))), some (.inl xb), some (.inl xc), some (.inl xd), some (.inl x8)] [] w6
      else
        nc_li (xe + 1) fun x9 =>
        nc_Run m_X2_fewestBetween 12 [some (.inr (.inr (2, aa))), some (.inl xb), some (.inl xc), some (.inl xe), some (.inl x9)] [] w6 :=
  (nc_Run_un [12] 22).trans rfl
set_option maxRecDepth 100000 in
theorem qc_X3_readFarm (aa : Nat) (w : nc_H) : nc_Call m_X3_readFarm [.inr (.inr (3, aa))] w =
  nc_li (w.1 2 1 1) fun x1 =>
  if x1 < 4 then
    nc_bI (nc_Call m_X2_nextNewName [.inr (.inr (2, 1)), .inr (.inr (10, 0)), .inl (0 + x1)] w) fun r3 w2 =>
    if r3 ≠ 0 then
      nc_lt (nc_si w2 2 1 1 ((w2.1 2 1 1) + 1)) fun w4 =>
      nc_bI (nc_Call m_X10_closesLine [.inr (.inr (10, 0))] w4) fun r6 w5 =>
      nc_z r6 <| some (some (.inl r6), w5)
    else
      some (some (.inl 0), w2)
  else
    nc_bI (nc_Call m_X10_fail [.inr (.inr (10, 0)), .inl 4] w) fun r8 w7 =>
    nc_z r8 <| some (some (.inl r8), w7) :=
  (nc_Call_eq _ _ _).trans ((if_pos (Nat.le_of_ble_eq_true rfl)).trans ((nc_Run_un [] 27).trans rfl))
set_option maxRecDepth 100000 in
theorem qc_X3_readCow (aa : Nat) (w : nc_H) : nc_Call m_X3_readCow [.inr (.inr (3, aa))] w =
  nc_li (w.1 2 1 2) fun x1 =>
  if x1 < 8 then
    nc_bI (nc_Call m_X2_nextNewName [.inr (.inr (2, 1)), .inr (.inr (10, 0)), .inl (4 + x1)] w) fun r3 w2 =>
    if r3 ≠ 0 then
      nc_bV (nc_Call m_X10_next [.inr (.inr (10, 0))] w2) fun w4 =>
      nc_bI (nc_Call m_X2_named [.inr (.inr (2, 1)), .inr (.inr (10, 0)), .inl 0, .inl 4] w4) fun r6 w5 =>
      if r6 < 0 then
        some (some (.inl 0), w5)
      else
        if (4 : Int32) ≤ r6 then
          some (some (.inl 0), w5)
        else
          nc_bI (nc_Call m_X10_nextNumber [.inr (.inr (10, 0)), .inl 1, .inl 40] w5) fun r8 w7 =>
          if r8 ≠ 0 then
            nc_bd x1 8 fun j9 =>
            nc_lt (nc_si w7 238 1 j9 r6) fun w10 =>
            nc_bd r6 4 fun j11 =>
            nc_bd r6 4 fun j12 =>
            nc_lt (nc_si w10 237 1 j12 ((w10.1 237 1 j11) ||| (1 <<< (x1 &&& 31)))) fun w13 =>
            nc_bd x1 8 fun j14 =>
            nc_lt (nc_si w13 239 1 j14 (w13.1 10 0 12)) fun w15 =>
            nc_bI (nc_Call m_X10_nextNumber [.inr (.inr (10, 0)), .inl 1, .inl 9] w15) fun r17 w16 =>
            if r17 ≠ 0 then
              nc_bd x1 8 fun j18 =>
              nc_lt (nc_si w16 240 1 j18 (w16.1 10 0 12)) fun w19 =>
              nc_bI (nc_Call m_X10_nextNumber [.inr (.inr (10, 0)), .inl 1, .inl 30] w19) fun r21 w20 =>
              if r21 ≠ 0 then
                nc_bd x1 8 fun j22 =>
                nc_lt (nc_si w20 241 1 j22 (w20.1 10 0 12)) fun w23 =>
                nc_lt (nc_si w23 2 1 2 ((w23.1 2 1 2) + 1)) fun w24 =>
                nc_bI (nc_Call m_X10_closesLine [.inr (.inr (10, 0))] w24) fun r26 w25 =>
                nc_z r26 <| some (some (.inl r26), w25)
              else
                some (some (.inl 0), w20)
            else
              some (some (.inl 0), w16)
          else
            some (some (.inl 0), w7)
    else
      some (some (.inl 0), w2)
  else
    nc_bI (nc_Call m_X10_fail [.inr (.inr (10, 0)), .inl 4] w) fun r28 w27 =>
    nc_z r28 <| some (some (.inl r28), w27) :=
  (nc_Call_eq _ _ _).trans ((if_pos (Nat.le_of_ble_eq_true rfl)).trans ((nc_Run_un [] 102).trans rfl))
set_option maxRecDepth 100000 in
theorem qc_X3_readNews (aa : Nat) (w : nc_H) : nc_Call m_X3_readNews [.inr (.inr (3, aa))] w =
  nc_li (w.1 2 1 3) fun x1 =>
  if x1 < 10 then
    nc_bI (nc_Call m_X2_nextNewName [.inr (.inr (2, 1)), .inr (.inr (10, 0)), .inl (12 + x1)] w) fun r3 w2 =>
    if r3 ≠ 0 then
      nc_bV (nc_Call m_X10_next [.inr (.inr (10, 0))] w2) fun w4 =>
      nc_bI (nc_Call m_X10_word [.inr (.inr (10, 0))] w4) fun r6 w5 =>
      if r6 < 4 then
        nc_bI (nc_Call m_X10_fail [.inr (.inr (10, 0)), .inl 1] w5) fun r8 w7 =>
        nc_z r8 <| some (some (.inl r8), w7)
      else
        if r6 ≤ 7 then
          nc_bd x1 10 fun j9 =>
          nc_lt (nc_si w5 242 1 j9 (r6 - 4)) fun w10 =>
          nc_bd x1 10 fun j11 =>
          if (w10.1 242 1 j11) ≠ 2 then
            nc_bI (nc_Call m_X10_nextNumber [.inr (.inr (10, 0)), .inl 0, .inl 20] w10) fun r13 w12 =>
            if r13 ≠ 0 then
              nc_bd x1 10 fun j14 =>
              nc_lt (nc_si w12 243 1 j14 (w12.1 10 0 12)) fun w15 =>
              nc_lt (nc_si w15 2 1 3 ((w15.1 2 1 3) + 1)) fun w16 =>
              nc_bV (nc_Call m_X10_next [.inr (.inr (10, 0))] w16) fun w17 =>
              nc_bI (nc_Call m_X10_word [.inr (.inr (10, 0))] w17) fun r19 w18 =>
              if r19 ≠ 3 then
                nc_bI (nc_Call m_X10_mustBeSign [.inr (.inr (10, 0)), .inl 59] w18) fun r21 w20 =>
                nc_z r21 <| some (some (.inl r21), w20)
              else
                nc_lt (nc_si w18 2 1 6 ((w18.1 2 1 6) ||| (1 <<< (x1 &&& 31)))) fun w22 =>
                nc_bV (nc_Call m_X10_next [.inr (.inr (10, 0))] w22) fun w23 =>
                nc_bI (nc_Call m_X10_mustBeSign [.inr (.inr (10, 0)), .inl 59] w23) fun r25 w24 =>
                nc_z r25 <| some (some (.inl r25), w24)
            else
              some (some (.inl 0), w12)
          else
            nc_lt (nc_si w10 2 1 7 ((w10.1 2 1 7) ||| (1 <<< (x1 &&& 31)))) fun w26 =>
            nc_bI (nc_Call m_X10_nextNumber [.inr (.inr (10, 0)), .inl 0, .inl 20] w26) fun r28 w27 =>
            if r28 ≠ 0 then
              nc_bd x1 10 fun j29 =>
              nc_lt (nc_si w27 243 1 j29 (w27.1 10 0 12)) fun w30 =>
              nc_lt (nc_si w30 2 1 3 ((w30.1 2 1 3) + 1)) fun w31 =>
              nc_bV (nc_Call m_X10_next [.inr (.inr (10, 0))] w31) fun w32 =>
              nc_bI (nc_Call m_X10_word [.inr (.inr (10, 0))] w32) fun r34 w33 =>
              if r34 ≠ 3 then
                nc_bI (nc_Call m_X10_mustBeSign [.inr (.inr (10, 0)), .inl 59] w33) fun r36 w35 =>
                nc_z r36 <| some (some (.inl r36), w35)
              else
                nc_lt (nc_si w33 2 1 6 ((w33.1 2 1 6) ||| (1 <<< (x1 &&& 31)))) fun w37 =>
                nc_bV (nc_Call m_X10_next [.inr (.inr (10, 0))] w37) fun w38 =>
                nc_bI (nc_Call m_X10_mustBeSign [.inr (.inr (10, 0)), .inl 59] w38) fun r40 w39 =>
                nc_z r40 <| some (some (.inl r40), w39)
            else
              some (some (.inl 0), w27)
        else
          nc_bI (nc_Call m_X10_fail [.inr (.inr (10, 0)), .inl 1] w5) fun r42 w41 =>
          nc_z r42 <| some (some (.inl r42), w41)
    else
      some (some (.inl 0), w2)
  else
    nc_bI (nc_Call m_X10_fail [.inr (.inr (10, 0)), .inl 4] w) fun r44 w43 =>
    nc_z r44 <| some (some (.inl r44), w43) :=
  (nc_Call_eq _ _ _).trans ((if_pos (Nat.le_of_ble_eq_true rfl)).trans ((nc_Run_un [] 99).trans rfl))
set_option maxRecDepth 100000 in
theorem qc_X3_readHedge (aa : Nat) (w : nc_H) : nc_Call m_X3_readHedge [.inr (.inr (3, aa))] w =
  nc_bV (nc_Call m_X10_next [.inr (.inr (10, 0))] w) fun w1 =>
  nc_bI (nc_Call m_X2_named [.inr (.inr (2, 1)), .inr (.inr (10, 0)), .inl 0, .inl 4] w1) fun r3 w2 =>
  if (0 : Int32) ≤ r3 then
    nc_bV (nc_Call m_X10_next [.inr (.inr (10, 0))] w2) fun w4 =>
    nc_bI (nc_Call m_X2_named [.inr (.inr (2, 1)), .inr (.inr (10, 0)), .inl 0, .inl 4] w4) fun r6 w5 =>
    if (0 : Int32) ≤ r6 then
      nc_li (w5.1 2 1 4) fun x7 =>
      if r3 = r6 then
        nc_bI (nc_Call m_X10_fail [.inr (.inr (10, 0)), .inl 3] w5) fun r9 w8 =>
        nc_z r9 <| some (some (.inl r9), w8)
      else
        nc_bI (nc_Call m_X2_hasHedge [.inr (.inr (2, 1)), .inl r3, .inl r6] w5) fun r11 w10 =>
        if r11 ≠ 0 then
          nc_bI (nc_Call m_X10_fail [.inr (.inr (10, 0)), .inl 3] w10) fun r13 w12 =>
          nc_z r13 <| some (some (.inl r13), w12)
        else
          if x7 < 6 then
            nc_bI (nc_Call m_X10_nextNumber [.inr (.inr (10, 0)), .inl 1, .inl 9] w10) fun r15 w14 =>
            if r15 ≠ 0 then
              nc_bd x7 6 fun j16 =>
              nc_lt (nc_si w14 244 1 j16 r3) fun w17 =>
              nc_bd x7 6 fun j18 =>
              nc_lt (nc_si w17 245 1 j18 r6) fun w19 =>
              nc_bd x7 6 fun j20 =>
              nc_lt (nc_si w19 246 1 j20 (w19.1 10 0 12)) fun w21 =>
              nc_lt (nc_si w21 2 1 4 ((w21.1 2 1 4) + 1)) fun w22 =>
              nc_bI (nc_Call m_X10_closesLine [.inr (.inr (10, 0))] w22) fun r24 w23 =>
              nc_z r24 <| some (some (.inl r24), w23)
            else
              some (some (.inl 0), w14)
          else
            nc_bI (nc_Call m_X10_fail [.inr (.inr (10, 0)), .inl 3] w10) fun r26 w25 =>
            nc_z r26 <| some (some (.inl r26), w25)
    else
      some (some (.inl 0), w5)
  else
    some (some (.inl 0), w2) :=
  (nc_Call_eq _ _ _).trans ((if_pos (Nat.le_of_ble_eq_true rfl)).trans ((nc_Run_un [] 79).trans rfl))
set_option maxRecDepth 100000 in
theorem qc_X3_readHears (aa : Nat) (w : nc_H) : nc_Call m_X3_readHears [.inr (.inr (3, aa))] w =
  if (w.1 3 aa 2) = 0 then
    nc_bI (nc_Call m_X10_nextNumber [.inr (.inr (10, 0)), .inl 1, .inl 5] w) fun r2 w1 =>
    if r2 ≠ 0 then
      nc_lt (nc_si w1 3 aa 2 1) fun w3 =>
      nc_lt (nc_si w3 2 1 5 (w3.1 10 0 12)) fun w4 =>
      nc_bI (nc_Call m_X10_closesLine [.inr (.inr (10, 0))] w4) fun r6 w5 =>
      nc_z r6 <| some (some (.inl r6), w5)
    else
      some (some (.inl 0), w1)
  else
    nc_bI (nc_Call m_X10_fail [.inr (.inr (10, 0)), .inl 3] w) fun r8 w7 =>
    nc_z r8 <| some (some (.inl r8), w7) :=
  (nc_Call_eq _ _ _).trans ((if_pos (Nat.le_of_ble_eq_true rfl)).trans ((nc_Run_un [] 22).trans rfl))
set_option maxRecDepth 100000 in
theorem qc_X3_readLine (aa : Nat) (w : nc_H) : nc_Call m_X3_readLine [.inr (.inr (3, aa))] w =
  nc_bI (nc_Call m_X10_word [.inr (.inr (10, 0))] w) fun r2 w1 =>
  if r2 = 0 then
    nc_bI (nc_Call m_X3_readFarm [.inr (.inr (3, aa))] w1) fun r4 w3 =>
    nc_z r4 <| some (some (.inl r4), w3)
  else
  if r2 = 1 then
    nc_bI (nc_Call m_X3_readCow [.inr (.inr (3, aa))] w1) fun r6 w5 =>
    nc_z r6 <| some (some (.inl r6), w5)
  else
  if r2 = 2 then
    nc_bI (nc_Call m_X3_readNews [.inr (.inr (3, aa))] w1) fun r8 w7 =>
    nc_z r8 <| some (some (.inl r8), w7)
  else
  if r2 = 3 then
    nc_bI (nc_Call m_X10_fail [.inr (.inr (10, 0)), .inl 1] w1) fun r10 w9 =>
    nc_z r10 <| some (some (.inl r10), w9)
  else
  if r2 = 4 then
    nc_bI (nc_Call m_X10_fail [.inr (.inr (10, 0)), .inl 1] w1) fun r12 w11 =>
    nc_z r12 <| some (some (.inl r12), w11)
  else
  if r2 = 5 then
    nc_bI (nc_Call m_X10_fail [.inr (.inr (10, 0)), .inl 1] w1) fun r14 w13 =>
    nc_z r14 <| some (some (.inl r14), w13)
  else
  if r2 = 6 then
    nc_bI (nc_Call m_X10_fail [.inr (.inr (10, 0)), .inl 1] w1) fun r16 w15 =>
    nc_z r16 <| some (some (.inl r16), w15)
  else
  if r2 = 7 then
    nc_bI (nc_Call m_X10_fail [.inr (.inr (10, 0)), .inl 1] w1) fun r18 w17 =>
    nc_z r18 <| some (some (.inl r18), w17)
  else
  if r2 = 8 then
    nc_bI (nc_Call m_X3_readHedge [.inr (.inr (3, aa))] w1) fun r20 w19 =>
    nc_z r20 <| some (some (.inl r20), w19)
  else
  if r2 = 9 then
    nc_bI (nc_Call m_X3_readHears [.inr (.inr (3, aa))] w1) fun r22 w21 =>
    nc_z r22 <| some (some (.inl r22), w21)
  else
    nc_bI (nc_Call m_X10_fail [.inr (.inr (10, 0)), .inl 1] w1) fun r24 w23 =>
    nc_z r24 <| some (some (.inl r24), w23) :=
  (nc_Call_eq _ _ _).trans ((if_pos (Nat.le_of_ble_eq_true rfl)).trans ((nc_Run_un [] 9).trans rfl))
set_option maxRecDepth 100000 in
theorem qc_X3_read (aa : Nat) (w : nc_H) : nc_Call m_X3_read [.inr (.inr (3, aa))] w =
  nc_bV (nc_Call m_X2_clear [.inr (.inr (2, 1))] w) fun w1 =>
  nc_lt (nc_si w1 3 aa 2 0) fun w2 =>
  nc_bV (nc_Call m_X10_start [.inr (.inr (10, 0)), .inl 900] w2) fun w3 =>
  nc_Run m_X3_read 24 [some (.inr (.inr (3, aa))), some (.inl 0)] [] w3 :=
  (nc_Call_eq _ _ _).trans ((if_pos (Nat.le_of_ble_eq_true rfl)).trans ((nc_Run_un [24] 13).trans rfl))
set_option maxRecDepth 100000 in
theorem qr_X3_read_24 (aa : Nat) (xb : Int32) (w : nc_H) : nc_Run m_X3_read 24 [some (.inr (.inr (3, aa))), some (.inl xb)] [] w =
  if (900 : Int32) < xb then
    nc_bI (nc_Call m_X10_mustEnd [.inr (.inr (10, 0))] w) fun r2 w1 =>
    nc_z r2 <| some (some (.inl r2), w1)
  else
    nc_bI (nc_Call m_X10_nextLine [.inr (.inr (10, 0))] w) fun r4 w3 =>
    if r4 = 0 then
      nc_bI (nc_Call m_X10_mustEnd [.inr (.inr (10, 0))] w3) fun r6 w5 =>
      nc_z r6 <| some (some (.inl r6), w5)
    else
      nc_bI (nc_Call m_X3_readLine [.inr (.inr (3, aa))] w3) fun r8 w7 =>
      if r8 ≠ 0 then
        nc_lt (nc_si w7 2 1 0 ((w7.1 2 1 0) + 1)) fun w9 =>
        nc_li (xb + 1) fun x10 =>
        nc_Run m_X3_read 24 [some (.inr (.inr (3, aa))), some (.inl x10)] [] w9
      else
        some (some (.inl 0), w7) :=
  (nc_Run_un [24] 20).trans rfl
set_option maxRecDepth 100000 in
theorem qc_X4_tellAndFind (aa : Nat) (ab : Nat) (w : nc_H) : nc_Call m_X4_tellAndFind [.inr (.inr (4, aa)), .inr (.inr (7, ab))] w =
  nc_li (w.1 2 (nc_ld ab) 3) fun x1 =>
  if x1 ≠ 0 then
    nc_Run m_X4_tellAndFind 15 [some (.inr (.inr (4, aa))), some (.inr (.inr (7, ab))), some (.inl x1), some (.inl 0), none] [] w
  else
    some (none, w) :=
  (nc_Call_eq _ _ _).trans ((if_pos (Nat.le_of_ble_eq_true rfl)).trans ((nc_Run_un [15] 9).trans rfl))
set_option maxRecDepth 100000 in
theorem qr_X4_tellAndFind_15 (aa : Nat) (ab : Nat) (xc : Int32) (xd : Int32) (w : nc_H) : nc_Run m_X4_tellAndFind 15 [some (.inr (.inr (4, aa))), some (.inr (.inr (7, ab))), some (.inl xc), some (.inl xd), none] [] w =
  if (w.1 2 (nc_ld ab) 2) ≤ xd then
    nc_bI (nc_Call m_X4_draw [.inr (.inr (4, aa)), .inl 12] w) fun r2 w1 =>
    if r2 ≠ 0 then
      some (none, w1)
    else
      nc_bI (nc_Call m_X4_draw [.inr (.inr (4, aa)), .inl xc] w1) fun r4 w3 =>
      nc_bI (nc_Call m_X7_whyNotFound [.inr (.inr (7, ab)), .inl r4] w3) fun r6 w5 =>
      if r6 ≠ 0 then
        some (none, w5)
      else
        nc_bV (nc_Call m_X7_findOut [.inr (.inr (7, ab)), .inl r4] w5) fun w7 =>
        some (none, w7)
  else
    nc_bI (nc_Call m_X4_draw [.inr (.inr (4, aa)), .inl 3] w) fun r9 w8 =>
    if r9 ≠ 0 then
      nc_li (xd + 1) fun x10 =>
      nc_Run m_X4_tellAndFind 15 [some (.inr (.inr (4, aa))), some (.inr (.inr (7, ab))), some (.inl xc), some (.inl x10), none] [] w8
    else
      nc_bI (nc_Call m_X4_draw [.inr (.inr (4, aa)), .inl xc] w8) fun r12 w11 =>
      nc_bI (nc_Call m_X7_whyNotTold [.inr (.inr (7, ab)), .inl xd, .inl r12] w11) fun r14 w13 =>
      if r14 ≠ 0 then
        nc_li (xd + 1) fun x15 =>
        nc_Run m_X4_tellAndFind 15 [some (.inr (.inr (4, aa))), some (.inr (.inr (7, ab))), some (.inl xc), some (.inl x15), none] [] w13
      else
        nc_bV (nc_Call m_X7_hear [.inr (.inr (7, ab)), .inl xd, .inl r12] w13) fun w16 =>
        nc_li (xd + 1) fun x17 =>
        nc_Run m_X4_tellAndFind 15 [some (.inr (.inr (4, aa))), some (.inr (.inr (7, ab))), some (.inl xc), some (.inl x17), none] [] w16 :=
  (nc_Run_un [15] 25).trans rfl
set_option maxRecDepth 100000 in
theorem qc_X5_keep (aa : Nat) (ab : Nat) (w : nc_H) : nc_Call m_X5_keep [.inr (.inr (5, aa)), .inr (.inr (7, ab))] w =
  nc_lt (nc_si w 5 aa 1 (((w.1 5 aa 1) + 1) - ((w.1 5 aa 1) + 1) / 8 * 8)) fun w1 =>
  nc_bd (w1.1 5 aa 1) 8 fun j2 =>
  nc_bV (nc_Call m_X7_copyFrom [.inr (.inr (7, 2 + j2)), .inr (.inr (7, ab))] w1) fun w3 =>
  nc_lt (nc_si w3 5 aa 2 (if (8 : Int32) < ((w3.1 5 aa 2) + 1) then (8 : Int32) else ((w3.1 5 aa 2) + 1))) fun w4 =>
  some (none, w4) :=
  (nc_Call_eq _ _ _).trans ((if_pos (Nat.le_of_ble_eq_true rfl)).trans ((nc_Run_un [] 28).trans rfl))
set_option maxRecDepth 100000 in
theorem qc_X5_takeBack (aa : Nat) (ab : Nat) (w : nc_H) : nc_Call m_X5_takeBack [.inr (.inr (5, aa)), .inr (.inr (7, ab))] w =
  nc_bd (w.1 5 aa 1) 8 fun j1 =>
  if (w.1 5 aa 2) = 0 then
    some (some (.inl (-1)), w)
  else
    nc_bV (nc_Call m_X7_copyFrom [.inr (.inr (7, ab)), .inr (.inr (7, 2 + j1))] w) fun w2 =>
    nc_lt (nc_si w2 5 aa 1 ((((w2.1 5 aa 1) + 8) - 1) - (((w2.1 5 aa 1) + 8) - 1) / 8 * 8)) fun w3 =>
    nc_lt (nc_si w3 5 aa 2 ((w3.1 5 aa 2) - 1)) fun w4 =>
    some (some (.inl (w4.1 5 aa 2)), w4) :=
  (nc_Call_eq _ _ _).trans ((if_pos (Nat.le_of_ble_eq_true rfl)).trans ((nc_Run_un [] 33).trans rfl))
set_option maxRecDepth 100000 in
theorem qc_X7_clear (aa : Nat) (w : nc_H) : nc_Call m_X7_clear [.inr (.inr (7, aa))] w =
  nc_lt (nc_si w 7 aa 1 0) fun w1 =>
  nc_lt (nc_si w1 7 aa 2 0) fun w2 =>
  nc_lt (nc_si w2 7 aa 3 0) fun w3 =>
  nc_lt (nc_si w3 7 aa 4 0) fun w4 =>
  nc_bV (nc_Call m_J7_fill_53178 [.inr (.inr (554, aa)), .inl 0] w4) fun w5 =>
  nc_bV (nc_Call m_J7_fill_53178 [.inr (.inr (555, aa)), .inl 0] w5) fun w6 =>
  nc_bV (nc_Call m_J7_fill_53178 [.inr (.inr (556, aa)), .inl 0] w6) fun w7 =>
  nc_bV (nc_Call m_J7_fill_53178 [.inr (.inr (557, aa)), .inl 0] w7) fun w8 =>
  nc_bV (nc_Call m_J7_fill_53178 [.inr (.inr (558, aa)), .inl (-100)] w8) fun w9 =>
  nc_bV (nc_Call m_J7_fill_53178 [.inr (.inr (559, aa)), .inl 0] w9) fun w10 =>
  nc_bV (nc_Call m_J7_fill_53178 [.inr (.inr (560, aa)), .inl 0] w10) fun w11 =>
  nc_bV (nc_Call m_J7_fill_53178 [.inr (.inr (561, aa)), .inl 0] w11) fun w12 =>
  some (none, w12) :=
  (nc_Call_eq _ _ _).trans ((if_pos (Nat.le_of_ble_eq_true rfl)).trans ((nc_Run_un [] 45).trans rfl))
set_option maxRecDepth 100000 in
theorem qc_X8_seek (aa : Nat) (ab : Nat) (xc : Int32) (xd : Int32) (w : nc_H) : nc_Call m_X8_seek [.inr (.inr (8, aa)), .inr (.inr (7, ab)), .inl xc, .inl xd] w =
  nc_lt (nc_si w 8 aa 5 xd) fun w1 =>
  nc_lt (nc_si w1 8 aa 6 (-1)) fun w2 =>
  nc_bV (nc_Call m_X8_go_0 [.inr (.inr (8, aa)), .inr (.inr (7, ab)), .inl xc, .inl 0, .inl 0] w2) fun w3 =>
  some (some (.inl (w3.1 8 aa 6)), w3) :=
  (nc_Call_eq _ _ _).trans ((if_pos (Nat.le_of_ble_eq_true rfl)).trans ((nc_Run_un [] 15).trans rfl))
set_option maxRecDepth 100000 in
theorem qc_X9_copyFrom (aa : Nat) (ab : Nat) (w : nc_H) : nc_Call m_X9_copyFrom [.inr (.inr (9, aa)), .inr (.inr (9, ab))] w =
  nc_lt (nc_si w 9 aa 3 (w.1 9 ab 3)) fun w1 =>
  nc_lt (nc_si w1 9 aa 4 (w1.1 9 ab 4)) fun w2 =>
  nc_lt (nc_cpi w2 676 ab 0 676 aa 0 40) fun w3 =>
  nc_lt (nc_cpi w3 677 ab 0 677 aa 0 40) fun w4 =>
  nc_lt (nc_cpi w4 678 ab 0 678 aa 0 40) fun w5 =>
  some (none, w5) :=
  (nc_Call_eq _ _ _).trans ((if_pos (Nat.le_of_ble_eq_true rfl)).trans ((nc_Run_un [] 33).trans rfl))
set_option maxRecDepth 100000 in
theorem qc_X9_read (aa : Nat) (ab : Nat) (ac : Nat) (w : nc_H) : nc_Call m_X9_read [.inr (.inr (9, aa)), .inr (.inr (10, ab)), .inr (.inr (2, ac))] w =
  nc_bV (nc_Call m_X9_clear [.inr (.inr (9, aa))] w) fun w1 =>
  nc_bV (nc_Call m_X10_start [.inr (.inr (10, ab)), .inl 200] w1) fun w2 =>
  nc_bV (nc_Call m_X10_next [.inr (.inr (10, ab))] w2) fun w3 =>
  nc_bI (nc_Call m_X9_readCond_1 [.inr (.inr (9, aa)), .inr (.inr (10, ab)), .inr (.inr (2, ac)), .inl 1] w3) fun r5 w4 =>
  if r5 = 0 then
    some (some (.inl 0), w4)
  else
    nc_bI (nc_Call m_X10_mustEnd [.inr (.inr (10, ab))] w4) fun r7 w6 =>
    if r7 = 0 then
      some (some (.inl 0), w6)
    else
      some (some (.inl 1), w6) :=
  (nc_Call_eq _ _ _).trans ((if_pos (Nat.le_of_ble_eq_true rfl)).trans ((nc_Run_un [] 19).trans rfl))
set_option maxRecDepth 100000 in
theorem qc_X9_isSo (aa : Nat) (ab : Nat) (xc : Int32) (xd : Int32) (w : nc_H) : nc_Call m_X9_isSo [.inr (.inr (9, aa)), .inr (.inr (7, ab)), .inl xc, .inl xd] w =
  nc_bd xd 40 fun j1 =>
  if (w.1 676 aa j1) = 15 then
    nc_bI (nc_Call m_X7_isDry [.inr (.inr (7, ab)), .inl xc] w) fun r3 w2 =>
    nc_z r3 <| some (some (.inl r3), w2)
  else
  if (w.1 676 aa j1) = 16 then
    nc_bI (nc_Call m_X7_isCurdled [.inr (.inr (7, ab)), .inl xc] w) fun r5 w4 =>
    nc_z r5 <| some (some (.inl r5), w4)
  else
  if (w.1 676 aa j1) = 17 then
    nc_bd xc 8 fun j6 =>
    nc_bd xd 40 fun j7 =>
    if (w.1 238 (nc_ld ab) j6) ≠ (w.1 678 aa j7) then
      some (some (.inl 0), w)
    else
      some (some (.inl 1), w)
  else
  if (w.1 676 aa j1) = 18 then
    nc_bd xc 8 fun j8 =>
    nc_bd xd 40 fun j9 =>
    if (((w.1 554 ab j8) >>> ((w.1 678 aa j9) &&& 31)) &&& 1) ≠ 1 then
      some (some (.inl 0), w)
    else
      some (some (.inl 1), w)
  else
  if (w.1 676 aa j1) = 19 then
    nc_bd xc 8 fun j10 =>
    nc_bd xd 40 fun j11 =>
    if (((w.1 555 ab j10) >>> ((w.1 678 aa j11) &&& 31)) &&& 1) ≠ 1 then
      some (some (.inl 0), w)
    else
      some (some (.inl 1), w)
  else
  if (w.1 676 aa j1) = 20 then
    nc_bI (nc_Call m_X7_milk [.inr (.inr (7, ab)), .inl xc] w) fun r13 w12 =>
    nc_bI (nc_Call m_X9_compares [.inr (.inr (9, aa)), .inl r13, .inl xd] w12) fun r15 w14 =>
    nc_z r15 <| some (some (.inl r15), w14)
  else
  if (w.1 676 aa j1) = 21 then
    nc_bd xc 8 fun j16 =>
    nc_bI (nc_Call m_X9_compares [.inr (.inr (9, aa)), .inl (w.1 560 ab j16), .inl xd] w) fun r18 w17 =>
    nc_z r18 <| some (some (.inl r18), w17)
  else
  if (w.1 676 aa j1) = 22 then
    nc_bd xc 8 fun j19 =>
    nc_bI (nc_Call m_X9_compares [.inr (.inr (9, aa)), .inl (w.1 559 ab j19), .inl xd] w) fun r21 w20 =>
    nc_z r21 <| some (some (.inl r21), w20)
  else
    nc_bI (nc_Call m_X9_compares [.inr (.inr (9, aa)), .inl xc, .inl xd] w) fun r23 w22 =>
    nc_z r23 <| some (some (.inl r23), w22) :=
  (nc_Call_eq _ _ _).trans ((if_pos (Nat.le_of_ble_eq_true rfl)).trans ((nc_Run_un [] 21).trans rfl))
set_option maxRecDepth 100000 in
theorem qc_X9_holds (aa : Nat) (ab : Nat) (xc : Int32) (w : nc_H) : nc_Call m_X9_holds [.inr (.inr (9, aa)), .inr (.inr (7, ab)), .inl xc] w =
  nc_Run m_X9_holds 5 [some (.inr (.inr (9, aa))), some (.inr (.inr (7, ab))), some (.inl xc), some (.inl 0), some (.inl 0), none] [] w :=
  (nc_Call_eq _ _ _).trans ((if_pos (Nat.le_of_ble_eq_true rfl)).trans ((nc_Run_un [5] 5).trans rfl))
set_option maxRecDepth 100000 in
theorem qr_X9_holds_5 (aa : Nat) (ab : Nat) (xc : Int32) (xd : Int32) (xe : Int32) (w : nc_H) : nc_Run m_X9_holds 5 [some (.inr (.inr (9, aa))), some (.inr (.inr (7, ab))), some (.inl xc), some (.inl xd), some (.inl xe), none] [] w =
  if (w.1 9 aa 3) ≤ xe then
    if (xd &&& 1) ≠ 1 then
      some (some (.inl 0), w)
    else
      some (some (.inl 1), w)
  else
    nc_li (xd &&& 1) fun x1 =>
    nc_bd xe 40 fun j2 =>
    if (w.1 676 aa j2) ≠ 12 then
      nc_bd xe 40 fun j3 =>
      if (w.1 676 aa j3) ≠ 13 then
        nc_bd xe 40 fun j4 =>
        if (w.1 676 aa j4) ≠ 14 then
          nc_bI (nc_Call m_X9_isSo [.inr (.inr (9, aa)), .inr (.inr (7, ab)), .inl xc, .inl xe] w) fun r6 w5 =>
          if r6 = 0 then
            nc_li ((xd <<< (1 &&& 31)) ||| 0) fun x7 =>
            nc_li (xe + 1) fun x8 =>
            nc_Run m_X9_holds 5 [some (.inr (.inr (9, aa))), some (.inr (.inr (7, ab))), some (.inl xc), some (.inl x7), some (.inl x8), none] [] w5
          else
            nc_li ((xd <<< (1 &&& 31)) ||| 1) fun x9 =>
            nc_li (xe + 1) fun x10 =>
            nc_Run m_X9_holds 5 [some (.inr (.inr (9, aa))), some (.inr (.inr (7, ab))), some (.inl xc), some (.inl x9), some (.inl x10), none] [] w5
        else
          nc_li (xd ^^^ 1) fun x11 =>
          nc_li (xe + 1) fun x12 =>
          nc_Run m_X9_holds 5 [some (.inr (.inr (9, aa))), some (.inr (.inr (7, ab))), some (.inl xc), some (.inl x11), some (.inl x12), none] [] w
      else
        nc_li ((xd >>> (1 &&& 31)) &&& (x1 ||| (-2))) fun x13 =>
        nc_li (xe + 1) fun x14 =>
        nc_Run m_X9_holds 5 [some (.inr (.inr (9, aa))), some (.inr (.inr (7, ab))), some (.inl xc), some (.inl x13), some (.inl x14), none] [] w
    else
      nc_li ((xd >>> (1 &&& 31)) ||| x1) fun x15 =>
      nc_li (xe + 1) fun x16 =>
      nc_Run m_X9_holds 5 [some (.inr (.inr (9, aa))), some (.inr (.inr (7, ab))), some (.inl xc), some (.inl x15), some (.inl x16), none] [] w :=
  (nc_Run_un [5] 42).trans rfl
set_option maxRecDepth 100000 in
theorem qc_X11_feed (aa : Nat) (xb : Int32) (xc : Int32) (xd : Int32) (xe : Int32) (xf : Int32) (w : nc_H) : nc_Call m_X11_feed [.inr (.inr (11, aa)), .inl xb, .inl xc, .inl xd, .inl xe, .inl xf] w =
  if ((w.1 10 0 1) + 20) ≤ 940 then
    nc_bV (nc_Call m_X10_append [.inr (.inr (10, 0)), .inl xb] w) fun w1 =>
    nc_bV (nc_Call m_X10_append [.inr (.inr (10, 0)), .inl xc] w1) fun w2 =>
    nc_bV (nc_Call m_X10_append [.inr (.inr (10, 0)), .inl xd] w2) fun w3 =>
    nc_bV (nc_Call m_X10_append [.inr (.inr (10, 0)), .inl xe] w3) fun w4 =>
    nc_bV (nc_Call m_X10_append [.inr (.inr (10, 0)), .inl xf] w4) fun w5 =>
    some (some (.inl (w5.1 10 0 1)), w5)
  else
    some (some (.inl (-1)), w) :=
  (nc_Call_eq _ _ _).trans ((if_pos (Nat.le_of_ble_eq_true rfl)).trans ((nc_Run_un [] 31).trans rfl))
set_option maxRecDepth 100000 in
theorem qc_X11_dairy (aa : Nat) (w : nc_H) : nc_Call m_X11_dairy [.inr (.inr (11, aa))] w =
  nc_bI (nc_Call m_X3_read [.inr (.inr (3, 0))] w) fun r2 w1 =>
  nc_lt (nc_si w1 10 0 1 0) fun w3 =>
  if r2 ≠ 0 then
    nc_bV (nc_Call m_X2_copyFrom [.inr (.inr (2, 0)), .inr (.inr (2, 1))] w3) fun w4 =>
    nc_bV (nc_Call m_X7_clear [.inr (.inr (7, 0))] w4) fun w5 =>
    nc_bV (nc_Call m_X9_clear [.inr (.inr (9, 0))] w5) fun w6 =>
    nc_bV (nc_Call m_X5_clear [.inr (.inr (5, 0))] w6) fun w7 =>
    some (some (.inl (w7.1 2 0 0)), w7)
  else
    some (some (.inl ((-1) - (w3.1 10 0 15))), w3) :=
  (nc_Call_eq _ _ _).trans ((if_pos (Nat.le_of_ble_eq_true rfl)).trans ((nc_Run_un [] 28).trans rfl))
set_option maxRecDepth 100000 in
theorem qc_X11_cow (aa : Nat) (xb : Int32) (xc : Int32) (w : nc_H) : nc_Call m_X11_cow [.inr (.inr (11, aa)), .inl xb, .inl xc] w =
  nc_bI (nc_Call m_X11_isCow [.inr (.inr (11, aa)), .inl xb] w) fun r2 w1 =>
  if r2 = 0 then
    none
  else
    if xc < 0 then
      none
    else
      if xc ≤ 7 then
        if xc = 0 then
          nc_bd xb 8 fun j3 =>
          some (some (.inl (w1.1 238 0 j3)), w1)
        else
        if xc = 1 then
          nc_bI (nc_Call m_X7_isDry [.inr (.inr (7, 0)), .inl xb] w1) fun r5 w4 =>
          if r5 = 0 then
            some (some (.inl 0), w4)
          else
            some (some (.inl 1), w4)
        else
        if xc = 2 then
          nc_bI (nc_Call m_X7_isCurdled [.inr (.inr (7, 0)), .inl xb] w1) fun r7 w6 =>
          if r7 = 0 then
            some (some (.inl 0), w6)
          else
            some (some (.inl 1), w6)
        else
        if xc = 3 then
          nc_bd xb 8 fun j8 =>
          some (some (.inl (w1.1 559 0 j8)), w1)
        else
        if xc = 4 then
          nc_bd xb 8 fun j9 =>
          some (some (.inl (w1.1 555 0 j9)), w1)
        else
        if xc = 5 then
          nc_bd xb 8 fun j10 =>
          some (some (.inl (w1.1 554 0 j10)), w1)
        else
        if xc = 6 then
          nc_bI (nc_Call m_X7_milk [.inr (.inr (7, 0)), .inl xb] w1) fun r12 w11 =>
          some (some (.inl r12), w11)
        else
          nc_bd xb 8 fun j13 =>
          some (some (.inl (w1.1 560 0 j13)), w1)
      else
        none :=
  (nc_Call_eq _ _ _).trans ((if_pos (Nat.le_of_ble_eq_true rfl)).trans ((nc_Run_un [] 19).trans rfl))
set_option maxRecDepth 100000 in
theorem qc_X11_news (aa : Nat) (xb : Int32) (xc : Int32) (w : nc_H) : nc_Call m_X11_news [.inr (.inr (11, aa)), .inl xb, .inl xc] w =
  nc_bI (nc_Call m_X11_isNews [.inr (.inr (11, aa)), .inl xb] w) fun r2 w1 =>
  if r2 ≠ 0 then
    if xc = 0 then
      nc_bd xb 10 fun j3 =>
      some (some (.inl (w1.1 242 0 j3)), w1)
    else
    if xc = 1 then
      nc_bd xb 10 fun j4 =>
      some (some (.inl (w1.1 243 0 j4)), w1)
    else
    if xc = 2 then
      nc_bI (nc_Call m_X2_isLie [.inr (.inr (2, 0)), .inl xb] w1) fun r6 w5 =>
      if r6 = 0 then
        some (some (.inl 0), w5)
      else
        some (some (.inl 1), w5)
    else
    if xc = 3 then
      some (some (.inl (((w1.1 7 0 4) >>> (xb &&& 31)) &&& 1)), w1)
    else
    if xc = 4 then
      nc_bI (nc_Call m_X11_cowsWith [.inr (.inr (11, aa)), .inr (.inr (555, 0)), .inl xb] w1) fun r8 w7 =>
      some (some (.inl r8), w7)
    else
    if xc = 5 then
      nc_bI (nc_Call m_X11_cowsWith [.inr (.inr (11, aa)), .inr (.inr (554, 0)), .inl xb] w1) fun r10 w9 =>
      some (some (.inl r10), w9)
    else
      some (some (.inl (-1)), w1)
  else
    some (some (.inl (-1)), w1) :=
  (nc_Call_eq _ _ _).trans ((if_pos (Nat.le_of_ble_eq_true rfl)).trans ((nc_Run_un [] 14).trans rfl))
set_option maxRecDepth 100000 in
theorem qc_X11_milkOfFarm (aa : Nat) (xb : Int32) (w : nc_H) : nc_Call m_X11_milkOfFarm [.inr (.inr (11, aa)), .inl xb] w =
  nc_Run m_X11_milkOfFarm 4 [some (.inr (.inr (11, aa))), some (.inl xb), some (.inl 0), some (.inl 0)] [] w :=
  (nc_Call_eq _ _ _).trans ((if_pos (Nat.le_of_ble_eq_true rfl)).trans ((nc_Run_un [4] 5).trans rfl))
set_option maxRecDepth 100000 in
theorem qr_X11_milkOfFarm_4 (aa : Nat) (xb : Int32) (xc : Int32) (xd : Int32) (w : nc_H) : nc_Run m_X11_milkOfFarm 4 [some (.inr (.inr (11, aa))), some (.inl xb), some (.inl xc), some (.inl xd)] [] w =
  if (w.1 2 0 2) ≤ xd then
    some (some (.inl xc), w)
  else
    nc_bd xd 8 fun j1 =>
    if (w.1 238 0 j1) ≠ xb then
      nc_li (xd + 1) fun x2 =>
      nc_Run m_X11_milkOfFarm 4 [some (.inr (.inr (11, aa))), some (.inl xb), some (.inl xc), some (.inl x2)] [] w
    else
      nc_bI (nc_Call m_X7_milk [.inr (.inr (7, 0)), .inl xd] w) fun r4 w3 =>
      nc_li (xc + r4) fun x5 =>
      nc_li (xd + 1) fun x6 =>
      nc_Run m_X11_milkOfFarm 4 [some (.inr (.inr (11, aa))), some (.inl xb), some (.inl x5), some (.inl x6)] [] w3 :=
  (nc_Run_un [4] 22).trans rfl
set_option maxRecDepth 100000 in
theorem qc_X11_farm (aa : Nat) (xb : Int32) (xc : Int32) (w : nc_H) : nc_Call m_X11_farm [.inr (.inr (11, aa)), .inl xb, .inl xc] w =
  nc_bI (nc_Call m_X11_isFarm [.inr (.inr (11, aa)), .inl xb] w) fun r2 w1 =>
  if r2 = 0 then
    none
  else
    if xc < 0 then
      none
    else
      if xc ≤ 3 then
        if xc = 0 then
          nc_bd xb 4 fun j3 =>
          some (some (.inl (w1.1 237 0 j3)), w1)
        else
        if xc = 1 then
          nc_bd xb 4 fun j4 =>
          some (some (.inl (w1.1 561 0 j4)), w1)
        else
        if xc = 2 then
          nc_bI (nc_Call m_X11_milkOfFarm [.inr (.inr (11, aa)), .inl xb] w1) fun r6 w5 =>
          some (some (.inl r6), w5)
        else
          nc_bI (nc_Call m_X2_hedgesOf [.inr (.inr (2, 0)), .inl xb] w1) fun r8 w7 =>
          some (some (.inl r8), w7)
      else
        none :=
  (nc_Call_eq _ _ _).trans ((if_pos (Nat.le_of_ble_eq_true rfl)).trans ((nc_Run_un [] 17).trans rfl))
set_option maxRecDepth 100000 in
theorem qc_X11_now (aa : Nat) (xb : Int32) (w : nc_H) : nc_Call m_X11_now [.inr (.inr (11, aa)), .inl xb] w =
  if xb = 0 then
    some (some (.inl (w.1 7 0 1)), w)
  else
  if xb = 1 then
    some (some (.inl (w.1 7 0 3)), w)
  else
  if xb = 2 then
    some (some (.inl (w.1 7 0 4)), w)
  else
  if xb = 3 then
    nc_bI (nc_Call m_X7_allPails [.inr (.inr (7, 0))] w) fun r2 w1 =>
    some (some (.inl r2), w1)
  else
  if xb = 4 then
    some (some (.inl (w.1 7 0 2)), w)
  else
  if xb = 5 then
    nc_bI (nc_Call m_X7_talking [.inr (.inr (7, 0))] w) fun r4 w3 =>
    some (some (.inl r4), w3)
  else
    some (some (.inl (-1)), w) :=
  (nc_Call_eq _ _ _).trans ((if_pos (Nat.le_of_ble_eq_true rfl)).trans ((nc_Run_un [] 6).trans rfl))
set_option maxRecDepth 100000 in
theorem qc_X11_why (aa : Nat) (xb : Int32) (xc : Int32) (w : nc_H) : nc_Call m_X11_why [.inr (.inr (11, aa)), .inl xb, .inl xc] w =
  nc_bI (nc_Call m_X11_isCow [.inr (.inr (11, aa)), .inl xb] w) fun r2 w1 =>
  if r2 = 0 then
    some (some (.inl (-1)), w1)
  else
    nc_bI (nc_Call m_X11_isNews [.inr (.inr (11, aa)), .inl xc] w1) fun r4 w3 =>
    if r4 = 0 then
      some (some (.inl (-1)), w3)
    else
      nc_bI (nc_Call m_X7_whyNotTold [.inr (.inr (7, 0)), .inl xb, .inl xc] w3) fun r6 w5 =>
      some (some (.inl r6), w5) :=
  (nc_Call_eq _ _ _).trans ((if_pos (Nat.le_of_ble_eq_true rfl)).trans ((nc_Run_un [] 15).trans rfl))
set_option maxRecDepth 100000 in
theorem qc_X11_tell (aa : Nat) (xb : Int32) (xc : Int32) (w : nc_H) : nc_Call m_X11_tell [.inr (.inr (11, aa)), .inl xb, .inl xc] w =
  nc_bI (nc_Call m_X11_why [.inr (.inr (11, aa)), .inl xb, .inl xc] w) fun r2 w1 =>
  if r2 ≠ 0 then
    some (some (.inl r2), w1)
  else
    nc_bV (nc_Call m_X5_keep [.inr (.inr (5, 0)), .inr (.inr (7, 0))] w1) fun w3 =>
    nc_bV (nc_Call m_X7_hear [.inr (.inr (7, 0)), .inl xb, .inl xc] w3) fun w4 =>
    some (some (.inl r2), w4) :=
  (nc_Call_eq _ _ _).trans ((if_pos (Nat.le_of_ble_eq_true rfl)).trans ((nc_Run_un [] 19).trans rfl))
set_option maxRecDepth 100000 in
theorem qc_X11_find (aa : Nat) (xb : Int32) (w : nc_H) : nc_Call m_X11_find [.inr (.inr (11, aa)), .inl xb] w =
  nc_bI (nc_Call m_X11_isNews [.inr (.inr (11, aa)), .inl xb] w) fun r2 w1 =>
  if r2 ≠ 0 then
    nc_bI (nc_Call m_X7_whyNotFound [.inr (.inr (7, 0)), .inl xb] w1) fun r4 w3 =>
    if r4 ≠ 0 then
      some (some (.inl r4), w3)
    else
      nc_bV (nc_Call m_X5_keep [.inr (.inr (5, 0)), .inr (.inr (7, 0))] w3) fun w5 =>
      nc_bV (nc_Call m_X7_findOut [.inr (.inr (7, 0)), .inl xb] w5) fun w6 =>
      some (some (.inl r4), w6)
  else
    some (some (.inl (-1)), w1) :=
  (nc_Call_eq _ _ _).trans ((if_pos (Nat.le_of_ble_eq_true rfl)).trans ((nc_Run_un [] 22).trans rfl))
set_option maxRecDepth 100000 in
theorem qc_X11_days (aa : Nat) (xb : Int32) (w : nc_H) : nc_Call m_X11_days [.inr (.inr (11, aa)), .inl xb] w =
  if xb < 1 then
    some (some (.inl (-1)), w)
  else
    if xb ≤ 60 then
      if (400 : Int32) ≤ (w.1 7 0 1) then
        nc_bI (nc_Call m_X7_goDays [.inr (.inr (7, 0)), .inl xb] w) fun r2 w1 =>
        some (some (.inl r2), w1)
      else
        nc_bV (nc_Call m_X5_keep [.inr (.inr (5, 0)), .inr (.inr (7, 0))] w) fun w3 =>
        nc_bI (nc_Call m_X7_goDays [.inr (.inr (7, 0)), .inl xb] w3) fun r5 w4 =>
        some (some (.inl r5), w4)
    else
      some (some (.inl (-1)), w) :=
  (nc_Call_eq _ _ _).trans ((if_pos (Nat.le_of_ble_eq_true rfl)).trans ((nc_Run_un [] 21).trans rfl))
set_option maxRecDepth 100000 in
theorem qc_X11_undo (aa : Nat) (w : nc_H) : nc_Call m_X11_undo [.inr (.inr (11, aa))] w =
  nc_bI (nc_Call m_X5_takeBack [.inr (.inr (5, 0)), .inr (.inr (7, 0))] w) fun r2 w1 =>
  some (some (.inl r2), w1) :=
  (nc_Call_eq _ _ _).trans ((if_pos (Nat.le_of_ble_eq_true rfl)).trans ((nc_Run_un [] 6).trans rfl))
set_option maxRecDepth 100000 in
theorem qc_X11_canBeTold (aa : Nat) (xb : Int32) (w : nc_H) : nc_Call m_X11_canBeTold [.inr (.inr (11, aa)), .inl xb] w =
  nc_bI (nc_Call m_X11_isCow [.inr (.inr (11, aa)), .inl xb] w) fun r2 w1 =>
  if r2 = 0 then
    some (some (.inl 0), w1)
  else
    nc_bI (nc_Call m_X7_isDry [.inr (.inr (7, 0)), .inl xb] w1) fun r4 w3 =>
    if r4 ≠ 0 then
      some (some (.inl 0), w3)
    else
      some (some (.inl 1), w3) :=
  (nc_Call_eq _ _ _).trans ((if_pos (Nat.le_of_ble_eq_true rfl)).trans ((nc_Run_un [] 12).trans rfl))
set_option maxRecDepth 100000 in
theorem qc_X11_best (aa : Nat) (xb : Int32) (w : nc_H) : nc_Call m_X11_best [.inr (.inr (11, aa)), .inl xb] w =
  nc_bI (nc_Call m_X11_canBeTold [.inr (.inr (11, aa)), .inl xb] w) fun r2 w1 =>
  if r2 = 0 then
    some (some (.inl (-1)), w1)
  else
    nc_bI (nc_Call m_X1_most [.inr (.inr (1, 0)), .inl xb] w1) fun r4 w3 =>
    some (some (.inl r4), w3) :=
  (nc_Call_eq _ _ _).trans ((if_pos (Nat.le_of_ble_eq_true rfl)).trans ((nc_Run_un [] 10).trans rfl))
set_option maxRecDepth 100000 in
theorem qc_X11_least (aa : Nat) (xb : Int32) (xc : Int32) (w : nc_H) : nc_Call m_X11_least [.inr (.inr (11, aa)), .inl xb, .inl xc] w =
  nc_bI (nc_Call m_X11_canBeTold [.inr (.inr (11, aa)), .inl xb] w) fun r2 w1 =>
  if r2 = 0 then
    some (some (.inl (-1)), w1)
  else
    if xc < 0 then
      some (some (.inl (-1)), w1)
    else
      if (999 : Int32) < xc then
        some (some (.inl (-1)), w1)
      else
        nc_bI (nc_Call m_X1_fewestLies [.inr (.inr (1, 0)), .inl xb, .inl xc] w1) fun r4 w3 =>
        some (some (.inl r4), w3) :=
  (nc_Call_eq _ _ _).trans ((if_pos (Nat.le_of_ble_eq_true rfl)).trans ((nc_Run_un [] 16).trans rfl))
set_option maxRecDepth 100000 in
theorem qc_X11_honest (aa : Nat) (xb : Int32) (w : nc_H) : nc_Call m_X11_honest [.inr (.inr (11, aa)), .inl xb] w =
  nc_bI (nc_Call m_X11_canBeTold [.inr (.inr (11, aa)), .inl xb] w) fun r2 w1 =>
  if r2 = 0 then
    some (some (.inl (-1)), w1)
  else
    nc_bI (nc_Call m_X1_mostWithoutLies [.inr (.inr (1, 0)), .inl xb] w1) fun r4 w3 =>
    some (some (.inl r4), w3) :=
  (nc_Call_eq _ _ _).trans ((if_pos (Nat.le_of_ble_eq_true rfl)).trans ((nc_Run_un [] 10).trans rfl))
set_option maxRecDepth 100000 in
theorem qc_X11_plan (aa : Nat) (xb : Int32) (xc : Int32) (w : nc_H) : nc_Call m_X11_plan [.inr (.inr (11, aa)), .inl xb, .inl xc] w =
  nc_bI (nc_Call m_X11_isCow [.inr (.inr (11, aa)), .inl xb] w) fun r2 w1 =>
  if r2 = 0 then
    some (some (.inl (-1)), w1)
  else
    if xc < 1 then
      some (some (.inl (-1)), w1)
    else
      if (3 : Int32) < xc then
        some (some (.inl (-1)), w1)
      else
        if ((w1.1 7 0 1) + xc) ≤ 400 then
          nc_bI (nc_Call m_X8_seek [.inr (.inr (8, 0)), .inr (.inr (7, 0)), .inl xb, .inl xc] w1) fun r4 w3 =>
          some (some (.inl r4), w3)
        else
          some (some (.inl (-1)), w1) :=
  (nc_Call_eq _ _ _).trans ((if_pos (Nat.le_of_ble_eq_true rfl)).trans ((nc_Run_un [] 25).trans rfl))
set_option maxRecDepth 100000 in
theorem qc_X11_allKnow (aa : Nat) (xb : Int32) (w : nc_H) : nc_Call m_X11_allKnow [.inr (.inr (11, aa)), .inl xb] w =
  nc_bI (nc_Call m_X11_isNews [.inr (.inr (11, aa)), .inl xb] w) fun r2 w1 =>
  if r2 = 0 then
    some (some (.inl (-1)), w1)
  else
    if (w1.1 2 0 2) ≠ 0 then
      nc_bV (nc_Call m_X7_copyFrom [.inr (.inr (7, 1)), .inr (.inr (7, 0))] w1) fun w3 =>
      nc_Run m_X11_allKnow 33 [some (.inr (.inr (11, aa))), some (.inl xb), some (.inl 0), none] [] w3
    else
      some (some (.inl (-1)), w1) :=
  (nc_Call_eq _ _ _).trans ((if_pos (Nat.le_of_ble_eq_true rfl)).trans ((nc_Run_un [33] 16).trans rfl))
set_option maxRecDepth 100000 in
theorem qr_X11_allKnow_33 (aa : Nat) (xb : Int32) (xc : Int32) (w : nc_H) : nc_Run m_X11_allKnow 33 [some (.inr (.inr (11, aa))), some (.inl xb), some (.inl xc), none] [] w =
  if (200 : Int32) ≤ xc then
    some (some (.inl (-1)), w)
  else
    if (400 : Int32) ≤ (w.1 7 1 1) then
      some (some (.inl (-1)), w)
    else
      nc_li (w.1 7 1 1) fun x1 =>
      nc_bV (nc_Call m_X7_talk [.inr (.inr (7, 1))] w) fun w2 =>
      nc_bV (nc_Call m_X7_turn [.inr (.inr (7, 1))] w2) fun w3 =>
      nc_bI (nc_Call m_X11_cowsWith [.inr (.inr (11, aa)), .inr (.inr (554, 1)), .inl xb] w3) fun r5 w4 =>
      nc_bI (nc_Call m_X2_allCows [.inr (.inr (2, 0))] w4) fun r7 w6 =>
      if r5 ≠ r7 then
        nc_li (xc + 1) fun x8 =>
        nc_Run m_X11_allKnow 33 [some (.inr (.inr (11, aa))), some (.inl xb), some (.inl x8), none] [] w6
      else
        some (some (.inl x1), w6) :=
  (nc_Run_un [33] 31).trans rfl
set_option maxRecDepth 100000 in
theorem qc_X11_part (aa : Nat) (xb : Int32) (xc : Int32) (w : nc_H) : nc_Call m_X11_part [.inr (.inr (11, aa)), .inl xb, .inl xc] w =
  nc_bI (nc_Call m_X11_isFarm [.inr (.inr (11, aa)), .inl xb] w) fun r2 w1 =>
  if r2 = 0 then
    some (some (.inl (-1)), w1)
  else
    nc_bI (nc_Call m_X11_isFarm [.inr (.inr (11, aa)), .inl xc] w1) fun r4 w3 =>
    if r4 = 0 then
      some (some (.inl (-1)), w3)
    else
      if xb ≠ xc then
        nc_bI (nc_Call m_X2_fewestBetween [.inr (.inr (2, 0)), .inl xb, .inl xc] w3) fun r6 w5 =>
        nc_lt (nc_si w5 11 aa 15 r6) fun w7 =>
        nc_bI (nc_Call m_J6_bitCount_0f7a4 [.inl (w7.1 11 aa 15)] w7) fun r9 w8 =>
        some (some (.inl r9), w8)
      else
        some (some (.inl (-1)), w3) :=
  (nc_Call_eq _ _ _).trans ((if_pos (Nat.le_of_ble_eq_true rfl)).trans ((nc_Run_un [] 22).trans rfl))
set_option maxRecDepth 100000 in
theorem qc_X11_tasted (aa : Nat) (xb : Int32) (w : nc_H) : nc_Call m_X11_tasted [.inr (.inr (11, aa)), .inl xb] w =
  if (w.1 10 0 1) ≠ 1 then
    nc_lt (nc_si w 10 0 1 0) fun w1 =>
    some (some (.inl (-1)), w1)
  else
    nc_bI (nc_Call m_X10_at [.inr (.inr (10, 0)), .inl 0] w) fun r3 w2 =>
    nc_lt (nc_si w2 10 0 1 0) fun w4 =>
    if r3 = (-1) then
      some (some (.inl (-1)), w4)
    else
      nc_bI (nc_Call m_X11_canBeTold [.inr (.inr (11, aa)), .inl xb] w4) fun r6 w5 =>
      if r6 = 0 then
        some (some (.inl (-1)), w5)
      else
        nc_bI (nc_Call m_X1_setsThatGive [.inr (.inr (1, 0)), .inl xb, .inl r3] w5) fun r8 w7 =>
        some (some (.inl r8), w7) :=
  (nc_Call_eq _ _ _).trans ((if_pos (Nat.le_of_ble_eq_true rfl)).trans ((nc_Run_un [] 29).trans rfl))
set_option maxRecDepth 100000 in
theorem qc_X11_dries (aa : Nat) (xb : Int32) (w : nc_H) : nc_Call m_X11_dries [.inr (.inr (11, aa)), .inl xb] w =
  nc_bI (nc_Call m_X11_isNews [.inr (.inr (11, aa)), .inl xb] w) fun r2 w1 =>
  if r2 = 0 then
    some (some (.inl (-1)), w1)
  else
    nc_bI (nc_Call m_X7_whyNotFound [.inr (.inr (7, 0)), .inl xb] w1) fun r4 w3 =>
    if r4 ≠ 0 then
      some (some (.inl (-1)), w3)
    else
      nc_bI (nc_Call m_X7_wouldDry [.inr (.inr (7, 0)), .inl xb] w3) fun r6 w5 =>
      some (some (.inl r6), w5) :=
  (nc_Call_eq _ _ _).trans ((if_pos (Nat.le_of_ble_eq_true rfl)).trans ((nc_Run_un [] 15).trans rfl))
set_option maxRecDepth 100000 in
theorem qc_X11_fits (aa : Nat) (xb : Int32) (xc : Int32) (xd : Int32) (w : nc_H) : nc_Call m_X11_fits [.inr (.inr (11, aa)), .inl xb, .inl xc, .inl xd] w =
  nc_Run m_X11_fits 3 [some (.inr (.inr (11, aa))), some (.inl xb), some (.inl xc), some (.inl xd), some (.inl 0)] [] w :=
  (nc_Call_eq _ _ _).trans ((if_pos (Nat.le_of_ble_eq_true rfl)).trans ((nc_Run_un [3] 3).trans rfl))
set_option maxRecDepth 100000 in
theorem qr_X11_fits_3 (aa : Nat) (xb : Int32) (xc : Int32) (xd : Int32) (xe : Int32) (w : nc_H) : nc_Run m_X11_fits 3 [some (.inr (.inr (11, aa))), some (.inl xb), some (.inl xc), some (.inl xd), some (.inl xe)] [] w =
  if xd ≤ xe then
    some (some (.inl 1), w)
  else
    nc_bI (nc_Call m_X7_pailsOn [.inr (.inr (7, 0)), .inl xb, .inl (xc + xe)] w) fun r2 w1 =>
    nc_bI (nc_Call m_X10_at [.inr (.inr (10, 0)), .inl xe] w1) fun r4 w3 =>
    if r2 = r4 then
      nc_li (xe + 1) fun x5 =>
      nc_Run m_X11_fits 3 [some (.inr (.inr (11, aa))), some (.inl xb), some (.inl xc), some (.inl xd), some (.inl x5)] [] w3
    else
      some (some (.inl 0), w3) :=
  (nc_Run_un [3] 18).trans rfl
set_option maxRecDepth 100000 in
theorem qc_X11_week (aa : Nat) (xb : Int32) (w : nc_H) : nc_Call m_X11_week [.inr (.inr (11, aa)), .inl xb] w =
  nc_li (w.1 10 0 1) fun x1 =>
  nc_lt (nc_si w 10 0 1 0) fun w2 =>
  nc_bI (nc_Call m_X11_isFarm [.inr (.inr (11, aa)), .inl xb] w2) fun r4 w3 =>
  if r4 = 0 then
    some (some (.inl (-1)), w3)
  else
    if x1 < 1 then
      some (some (.inl (-1)), w3)
    else
      if x1 ≤ 7 then
        nc_li (if (0 : Int32) < ((w3.1 7 0 1) - 30) then ((w3.1 7 0 1) - 30) else (0 : Int32)) fun x5 =>
        nc_Run m_X11_week 52 [some (.inr (.inr (11, aa))), some (.inl xb), some (.inl x1), some (.inl x5)] [] w3
      else
        some (some (.inl (-1)), w3) :=
  (nc_Call_eq _ _ _).trans ((if_pos (Nat.le_of_ble_eq_true rfl)).trans ((nc_Run_un [52] 27).trans rfl))
set_option maxRecDepth 100000 in
theorem qr_X11_week_52 (aa : Nat) (xb : Int32) (xc : Int32) (xd : Int32) (w : nc_H) : nc_Run m_X11_week 52 [some (.inr (.inr (11, aa))), some (.inl xb), some (.inl xc), some (.inl xd)] [] w =
  if (w.1 7 0 1) < (xd + xc) then
    some (some (.inl (-1)), w)
  else
    nc_bI (nc_Call m_X11_fits [.inr (.inr (11, aa)), .inl xb, .inl xd, .inl xc] w) fun r2 w1 =>
    if r2 = 0 then
      nc_li (xd + 1) fun x3 =>
      nc_Run m_X11_week 52 [some (.inr (.inr (11, aa))), some (.inl xb), some (.inl xc), some (.inl x3)] [] w1
    else
      some (some (.inl xd), w1) :=
  (nc_Run_un [52] 16).trans rfl
set_option maxRecDepth 100000 in
theorem qc_X11_pails (aa : Nat) (xb : Int32) (xc : Int32) (w : nc_H) : nc_Call m_X11_pails [.inr (.inr (11, aa)), .inl xb, .inl xc] w =
  nc_bI (nc_Call m_X11_isFarm [.inr (.inr (11, aa)), .inl xb] w) fun r2 w1 =>
  if r2 = 0 then
    some (some (.inl (-1)), w1)
  else
    nc_bI (nc_Call m_X7_pailsOn [.inr (.inr (7, 0)), .inl xb, .inl xc] w1) fun r4 w3 =>
    some (some (.inl r4), w3) :=
  (nc_Call_eq _ _ _).trans ((if_pos (Nat.le_of_ble_eq_true rfl)).trans ((nc_Run_un [] 11).trans rfl))
set_option maxRecDepth 100000 in
theorem qc_X11_ahead (aa : Nat) (xb : Int32) (w : nc_H) : nc_Call m_X11_ahead [.inr (.inr (11, aa)), .inl xb] w =
  if xb < 1 then
    some (some (.inl (-1)), w)
  else
    if xb ≤ 60 then
      nc_bV (nc_Call m_X7_copyFrom [.inr (.inr (7, 1)), .inr (.inr (7, 0))] w) fun w1 =>
      nc_bI (nc_Call m_X7_goDays [.inr (.inr (7, 1)), .inl xb] w1) fun r3 w2 =>
      nc_bI (nc_Call m_X7_allPails [.inr (.inr (7, 1))] w2) fun r5 w4 =>
      nc_bI (nc_Call m_X7_allPails [.inr (.inr (7, 0))] w4) fun r7 w6 =>
      some (some (.inl (r5 - r7)), w6)
    else
      some (some (.inl (-1)), w) :=
  (nc_Call_eq _ _ _).trans ((if_pos (Nat.le_of_ble_eq_true rfl)).trans ((nc_Run_un [] 24).trans rfl))
set_option maxRecDepth 100000 in
theorem qc_X11_drawn (aa : Nat) (xb : Int32) (xc : Int32) (w : nc_H) : nc_Call m_X11_drawn [.inr (.inr (11, aa)), .inl xb, .inl xc] w =
  if xb < 1 then
    some (some (.inl (-1)), w)
  else
    if (60 : Int32) < xb then
      some (some (.inl (-1)), w)
    else
      if (w.1 2 0 3) ≠ 0 then
        if (400 : Int32) ≤ (w.1 7 0 1) then
          nc_lt (nc_si w 4 0 0 xc) fun w1 =>
          nc_li (w1.1 7 0 1) fun x2 =>
          nc_Run m_X11_drawn 66 [some (.inr (.inr (11, aa))), some (.inl xb), none, some (.inl x2), some (.inl 0)] [] w1
        else
          nc_bV (nc_Call m_X5_keep [.inr (.inr (5, 0)), .inr (.inr (7, 0))] w) fun w3 =>
          nc_lt (nc_si w3 4 0 0 xc) fun w4 =>
          nc_li (w4.1 7 0 1) fun x5 =>
          nc_Run m_X11_drawn 66 [some (.inr (.inr (11, aa))), some (.inl xb), none, some (.inl x5), some (.inl 0)] [] w4
      else
        some (some (.inl (-1)), w) :=
  (nc_Call_eq _ _ _).trans ((if_pos (Nat.le_of_ble_eq_true rfl)).trans ((nc_Run_un [66] 31).trans rfl))
set_option maxRecDepth 100000 in
theorem qr_X11_drawn_66 (aa : Nat) (xb : Int32) (xd : Int32) (xe : Int32) (w : nc_H) : nc_Run m_X11_drawn 66 [some (.inr (.inr (11, aa))), some (.inl xb), none, some (.inl xd), some (.inl xe)] [] w =
  if xb ≤ xe then
    some (some (.inl ((w.1 7 0 1) - xd)), w)
  else
    if (400 : Int32) ≤ (w.1 7 0 1) then
      some (some (.inl ((w.1 7 0 1) - xd)), w)
    else
      nc_bV (nc_Call m_X4_tellAndFind [.inr (.inr (4, 0)), .inr (.inr (7, 0))] w) fun w1 =>
      nc_bI (nc_Call m_X7_goDays [.inr (.inr (7, 0)), .inl 1] w1) fun r3 w2 =>
      nc_li (xe + 1) fun x4 =>
      nc_Run m_X11_drawn 66 [some (.inr (.inr (11, aa))), some (.inl xb), none, some (.inl xd), some (.inl x4)] [] w2 :=
  (nc_Run_un [66] 21).trans rfl
set_option maxRecDepth 100000 in
theorem qc_X11_driesByDraws (aa : Nat) (xb : Int32) (w : nc_H) : nc_Call m_X11_driesByDraws [.inr (.inr (11, aa)), .inl xb] w =
  nc_Run m_X11_driesByDraws 2 [some (.inr (.inr (11, aa))), some (.inl xb), some (.inl 0)] [] w :=
  (nc_Call_eq _ _ _).trans ((if_pos (Nat.le_of_ble_eq_true rfl)).trans ((nc_Run_un [2] 3).trans rfl))
set_option maxRecDepth 100000 in
theorem qr_X11_driesByDraws_2 (aa : Nat) (xb : Int32) (xc : Int32) (w : nc_H) : nc_Run m_X11_driesByDraws 2 [some (.inr (.inr (11, aa))), some (.inl xb), some (.inl xc)] [] w =
  if (20 : Int32) ≤ xc then
    nc_bI (nc_Call m_X7_isDry [.inr (.inr (7, 1)), .inl xb] w) fun r2 w1 =>
    nc_z r2 <| some (some (.inl r2), w1)
  else
    if (400 : Int32) ≤ (w.1 7 1 1) then
      nc_bI (nc_Call m_X7_isDry [.inr (.inr (7, 1)), .inl xb] w) fun r4 w3 =>
      nc_z r4 <| some (some (.inl r4), w3)
    else
      nc_bI (nc_Call m_X7_isDry [.inr (.inr (7, 1)), .inl xb] w) fun r6 w5 =>
      if r6 ≠ 0 then
        nc_bI (nc_Call m_X7_isDry [.inr (.inr (7, 1)), .inl xb] w5) fun r8 w7 =>
        nc_z r8 <| some (some (.inl r8), w7)
      else
        nc_bV (nc_Call m_X4_tellAndFind [.inr (.inr (4, 0)), .inr (.inr (7, 1))] w5) fun w9 =>
        nc_bV (nc_Call m_X7_talk [.inr (.inr (7, 1))] w9) fun w10 =>
        nc_bV (nc_Call m_X7_turn [.inr (.inr (7, 1))] w10) fun w11 =>
        nc_li (xc + 1) fun x12 =>
        nc_Run m_X11_driesByDraws 2 [some (.inr (.inr (11, aa))), some (.inl xb), some (.inl x12)] [] w11 :=
  (nc_Run_un [2] 27).trans rfl
set_option maxRecDepth 100000 in
theorem qc_X11_odds (aa : Nat) (xb : Int32) (xc : Int32) (xd : Int32) (w : nc_H) : nc_Call m_X11_odds [.inr (.inr (11, aa)), .inl xb, .inl xc, .inl xd] w =
  nc_bI (nc_Call m_X11_isCow [.inr (.inr (11, aa)), .inl xb] w) fun r2 w1 =>
  if r2 = 0 then
    some (some (.inl (-1)), w1)
  else
    if xc < 1 then
      some (some (.inl (-1)), w1)
    else
      if (30 : Int32) < xc then
        some (some (.inl (-1)), w1)
      else
        if (w1.1 2 0 3) ≠ 0 then
          nc_Run m_X11_odds 37 [some (.inr (.inr (11, aa))), some (.inl xb), some (.inl xc), some (.inl xd), some (.inl 0), some (.inl 0)] [] w1
        else
          some (some (.inl (-1)), w1) :=
  (nc_Call_eq _ _ _).trans ((if_pos (Nat.le_of_ble_eq_true rfl)).trans ((nc_Run_un [37] 19).trans rfl))
set_option maxRecDepth 100000 in
theorem qr_X11_odds_37 (aa : Nat) (xb : Int32) (xc : Int32) (xd : Int32) (xe : Int32) (xf : Int32) (w : nc_H) : nc_Run m_X11_odds 37 [some (.inr (.inr (11, aa))), some (.inl xb), some (.inl xc), some (.inl xd), some (.inl xe), some (.inl xf)] [] w =
  if xc ≤ xf then
    some (some (.inl xe), w)
  else
    nc_bV (nc_Call m_X7_copyFrom [.inr (.inr (7, 1)), .inr (.inr (7, 0))] w) fun w1 =>
    nc_lt (nc_si w1 4 0 0 (xd + xf)) fun w2 =>
    nc_bI (nc_Call m_X11_driesByDraws [.inr (.inr (11, aa)), .inl xb] w2) fun r4 w3 =>
    if r4 = 0 then
      nc_li (xf + 1) fun x5 =>
      nc_Run m_X11_odds 37 [some (.inr (.inr (11, aa))), some (.inl xb), some (.inl xc), some (.inl xd), some (.inl xe), some (.inl x5)] [] w3
    else
      nc_li (xe + 1) fun x6 =>
      nc_li (xf + 1) fun x7 =>
      nc_Run m_X11_odds 37 [some (.inr (.inr (11, aa))), some (.inl xb), some (.inl xc), some (.inl xd), some (.inl x6), some (.inl x7)] [] w3 :=
  (nc_Run_un [37] 22).trans rfl
set_option maxRecDepth 100000 in
theorem qc_X11_book (aa : Nat) (xb : Int32) (w : nc_H) : nc_Call m_X11_book [.inr (.inr (11, aa)), .inl xb] w =
  if xb = 0 then
    nc_bI (nc_Call m_X0_read [.inr (.inr (0, 0)), .inr (.inr (10, 0)), .inr (.inr (2, 0))] w) fun r2 w1 =>
    nc_lt (nc_si w1 10 0 1 0) fun w3 =>
    if r2 ≠ 0 then
      nc_bV (nc_Call m_X7_copyFrom [.inr (.inr (7, 1)), .inr (.inr (7, 0))] w3) fun w4 =>
      nc_bI (nc_Call m_X0_judge [.inr (.inr (0, 0)), .inr (.inr (7, 1))] w4) fun r6 w5 =>
      if xb ≠ 1 then
        some (some (.inl r6), w5)
      else
        if (w5.1 0 0 6) ≤ 0 then
          some (some (.inl r6), w5)
        else
          nc_bV (nc_Call m_X5_keep [.inr (.inr (5, 0)), .inr (.inr (7, 0))] w5) fun w7 =>
          nc_bV (nc_Call m_X7_copyFrom [.inr (.inr (7, 0)), .inr (.inr (7, 1))] w7) fun w8 =>
          some (some (.inl r6), w8)
    else
      some (some (.inl ((-2) - (w3.1 10 0 15))), w3)
  else
    if xb = 1 then
      nc_bI (nc_Call m_X0_read [.inr (.inr (0, 0)), .inr (.inr (10, 0)), .inr (.inr (2, 0))] w) fun r10 w9 =>
      nc_lt (nc_si w9 10 0 1 0) fun w11 =>
      if r10 ≠ 0 then
        nc_bV (nc_Call m_X7_copyFrom [.inr (.inr (7, 1)), .inr (.inr (7, 0))] w11) fun w12 =>
        nc_bI (nc_Call m_X0_judge [.inr (.inr (0, 0)), .inr (.inr (7, 1))] w12) fun r14 w13 =>
        if xb ≠ 1 then
          some (some (.inl r14), w13)
        else
          if (w13.1 0 0 6) ≤ 0 then
            some (some (.inl r14), w13)
          else
            nc_bV (nc_Call m_X5_keep [.inr (.inr (5, 0)), .inr (.inr (7, 0))] w13) fun w15 =>
            nc_bV (nc_Call m_X7_copyFrom [.inr (.inr (7, 0)), .inr (.inr (7, 1))] w15) fun w16 =>
            some (some (.inl r14), w16)
      else
        some (some (.inl ((-2) - (w11.1 10 0 15))), w11)
    else
      some (some (.inl (-1000)), w) :=
  (nc_Call_eq _ _ _).trans ((if_pos (Nat.le_of_ble_eq_true rfl)).trans ((nc_Run_un [] 49).trans rfl))
set_option maxRecDepth 100000 in
theorem qc_X11_sentence (aa : Nat) (w : nc_H) : nc_Call m_X11_sentence [.inr (.inr (11, aa))] w =
  nc_bI (nc_Call m_X9_read [.inr (.inr (9, 1)), .inr (.inr (10, 0)), .inr (.inr (2, 0))] w) fun r2 w1 =>
  nc_lt (nc_si w1 10 0 1 0) fun w3 =>
  if r2 ≠ 0 then
    nc_bV (nc_Call m_X9_copyFrom [.inr (.inr (9, 0)), .inr (.inr (9, 1))] w3) fun w4 =>
    some (some (.inl (w4.1 9 0 4)), w4)
  else
    some (some (.inl ((-1) - (w3.1 10 0 15))), w3) :=
  (nc_Call_eq _ _ _).trans ((if_pos (Nat.le_of_ble_eq_true rfl)).trans ((nc_Run_un [] 23).trans rfl))
set_option maxRecDepth 100000 in
theorem qc_X11_said (aa : Nat) (xb : Int32) (w : nc_H) : nc_Call m_X11_said [.inr (.inr (11, aa)), .inl xb] w =
  if (w.1 9 0 4) ≠ 0 then
    nc_Run m_X11_said 16 [some (.inr (.inr (11, aa))), some (.inl xb), some (.inl 0), some (.inl 0)] [] w
  else
    some (some (.inl (-1)), w) :=
  (nc_Call_eq _ _ _).trans ((if_pos (Nat.le_of_ble_eq_true rfl)).trans ((nc_Run_un [16] 9).trans rfl))
set_option maxRecDepth 100000 in
theorem qr_X11_said_16 (aa : Nat) (xb : Int32) (xc : Int32) (xd : Int32) (w : nc_H) : nc_Run m_X11_said 16 [some (.inr (.inr (11, aa))), some (.inl xb), some (.inl xc), some (.inl xd)] [] w =
  if (w.1 2 0 2) ≤ xd then
    if xb ≠ (-1) then
      some (some (.inl (-1)), w)
    else
      some (some (.inl xc), w)
  else
    nc_bI (nc_Call m_X9_holds [.inr (.inr (9, 0)), .inr (.inr (7, 0)), .inl xd] w) fun r2 w1 =>
    if r2 = 0 then
      nc_li (xd + 1) fun x3 =>
      nc_Run m_X11_said 16 [some (.inr (.inr (11, aa))), some (.inl xb), some (.inl xc), some (.inl x3)] [] w1
    else
      if xc ≠ xb then
        nc_li (xc + 1) fun x4 =>
        nc_li (xd + 1) fun x5 =>
        nc_Run m_X11_said 16 [some (.inr (.inr (11, aa))), some (.inl xb), some (.inl x4), some (.inl x5)] [] w1
      else
        some (some (.inl xd), w1) :=
  (nc_Run_un [16] 19).trans rfl
set_option maxRecDepth 100000 in
theorem qc_X11_image (aa : Nat) (xb : Int32) (w : nc_H) : nc_Call m_X11_image [.inr (.inr (11, aa)), .inl xb] w =
  if xb = 0 then
    if xb ≠ 0 then
      nc_lt (nc_si w 6 1 0 1) fun w1 =>
      nc_bV (nc_Call m_X2_copyFrom [.inr (.inr (2, 2 + 1)), .inr (.inr (2, 0))] w1) fun w2 =>
      nc_bV (nc_Call m_X7_copyFrom [.inr (.inr (7, 12 + 1)), .inr (.inr (7, 0))] w2) fun w3 =>
      nc_bV (nc_Call m_X9_copyFrom [.inr (.inr (9, 2 + 1)), .inr (.inr (9, 0))] w3) fun w4 =>
      some (some (.inl 1), w4)
    else
      nc_lt (nc_si w 6 0 0 1) fun w5 =>
      nc_bV (nc_Call m_X2_copyFrom [.inr (.inr (2, 2 + 0)), .inr (.inr (2, 0))] w5) fun w6 =>
      nc_bV (nc_Call m_X7_copyFrom [.inr (.inr (7, 12 + 0)), .inr (.inr (7, 0))] w6) fun w7 =>
      nc_bV (nc_Call m_X9_copyFrom [.inr (.inr (9, 2 + 0)), .inr (.inr (9, 0))] w7) fun w8 =>
      some (some (.inl 1), w8)
  else
    if xb = 1 then
      if xb ≠ 0 then
        nc_lt (nc_si w 6 1 0 1) fun w9 =>
        nc_bV (nc_Call m_X2_copyFrom [.inr (.inr (2, 2 + 1)), .inr (.inr (2, 0))] w9) fun w10 =>
        nc_bV (nc_Call m_X7_copyFrom [.inr (.inr (7, 12 + 1)), .inr (.inr (7, 0))] w10) fun w11 =>
        nc_bV (nc_Call m_X9_copyFrom [.inr (.inr (9, 2 + 1)), .inr (.inr (9, 0))] w11) fun w12 =>
        some (some (.inl 1), w12)
      else
        nc_lt (nc_si w 6 0 0 1) fun w13 =>
        nc_bV (nc_Call m_X2_copyFrom [.inr (.inr (2, 2 + 0)), .inr (.inr (2, 0))] w13) fun w14 =>
        nc_bV (nc_Call m_X7_copyFrom [.inr (.inr (7, 12 + 0)), .inr (.inr (7, 0))] w14) fun w15 =>
        nc_bV (nc_Call m_X9_copyFrom [.inr (.inr (9, 2 + 0)), .inr (.inr (9, 0))] w15) fun w16 =>
        some (some (.inl 1), w16)
    else
      some (some (.inl 0), w) :=
  (nc_Call_eq _ _ _).trans ((if_pos (Nat.le_of_ble_eq_true rfl)).trans ((nc_Run_un [] 31).trans rfl))
set_option maxRecDepth 100000 in
theorem qc_X11_restore (aa : Nat) (xb : Int32) (w : nc_H) : nc_Call m_X11_restore [.inr (.inr (11, aa)), .inl xb] w =
  if xb = 0 then
    if xb ≠ 0 then
      if (w.1 6 1 0) ≠ 0 then
        nc_bV (nc_Call m_X2_copyFrom [.inr (.inr (2, 0)), .inr (.inr (2, 2 + 1))] w) fun w1 =>
        nc_bV (nc_Call m_X7_copyFrom [.inr (.inr (7, 0)), .inr (.inr (7, 12 + 1))] w1) fun w2 =>
        nc_bV (nc_Call m_X9_copyFrom [.inr (.inr (9, 0)), .inr (.inr (9, 2 + 1))] w2) fun w3 =>
        nc_bV (nc_Call m_X5_clear [.inr (.inr (5, 0))] w3) fun w4 =>
        some (some (.inl 1), w4)
      else
        some (some (.inl 0), w)
    else
      if (w.1 6 0 0) ≠ 0 then
        nc_bV (nc_Call m_X2_copyFrom [.inr (.inr (2, 0)), .inr (.inr (2, 2 + 0))] w) fun w5 =>
        nc_bV (nc_Call m_X7_copyFrom [.inr (.inr (7, 0)), .inr (.inr (7, 12 + 0))] w5) fun w6 =>
        nc_bV (nc_Call m_X9_copyFrom [.inr (.inr (9, 0)), .inr (.inr (9, 2 + 0))] w6) fun w7 =>
        nc_bV (nc_Call m_X5_clear [.inr (.inr (5, 0))] w7) fun w8 =>
        some (some (.inl 1), w8)
      else
        some (some (.inl 0), w)
  else
    if xb = 1 then
      if xb ≠ 0 then
        if (w.1 6 1 0) ≠ 0 then
          nc_bV (nc_Call m_X2_copyFrom [.inr (.inr (2, 0)), .inr (.inr (2, 2 + 1))] w) fun w9 =>
          nc_bV (nc_Call m_X7_copyFrom [.inr (.inr (7, 0)), .inr (.inr (7, 12 + 1))] w9) fun w10 =>
          nc_bV (nc_Call m_X9_copyFrom [.inr (.inr (9, 0)), .inr (.inr (9, 2 + 1))] w10) fun w11 =>
          nc_bV (nc_Call m_X5_clear [.inr (.inr (5, 0))] w11) fun w12 =>
          some (some (.inl 1), w12)
        else
          some (some (.inl 0), w)
      else
        if (w.1 6 0 0) ≠ 0 then
          nc_bV (nc_Call m_X2_copyFrom [.inr (.inr (2, 0)), .inr (.inr (2, 2 + 0))] w) fun w13 =>
          nc_bV (nc_Call m_X7_copyFrom [.inr (.inr (7, 0)), .inr (.inr (7, 12 + 0))] w13) fun w14 =>
          nc_bV (nc_Call m_X9_copyFrom [.inr (.inr (9, 0)), .inr (.inr (9, 2 + 0))] w14) fun w15 =>
          nc_bV (nc_Call m_X5_clear [.inr (.inr (5, 0))] w15) fun w16 =>
          some (some (.inl 1), w16)
        else
          some (some (.inl 0), w)
    else
      some (some (.inl 0), w) :=
  (nc_Call_eq _ _ _).trans ((if_pos (Nat.le_of_ble_eq_true rfl)).trans ((nc_Run_un [] 34).trans rfl))
