set_option maxRecDepth 100000 in
theorem qr_X12_part_45 (aa : Nat) (xb : Int32) (xc : Int32) (xd : Int32) (xe : Int32) (xf : Int32) (w : nc_H) : nc_Run m_X12_part 45 [some (.inr (.inr (12, aa))), some (.inl xb), some (.inl xc), some (.inl xd), some (.inl xe), some (.inl xf)] [] w =
  if xf < 0 then
    nc_lt (nc_si w 12 aa 30 1) fun w1 =>
    nc_lt (nc_si w1 12 aa 29 xe) fun w2 =>
    nc_bI (nc_Call m_X12_bits [.inl xe] w2) fun r4 w3 =>
    some (some (.inl r4), w3)
  else
    nc_bI (nc_Call m_X12_bits [.inl xf] w) fun r6 w5 =>
    nc_bI (nc_Call m_X12_bits [.inl xe] w5) fun r8 w7 =>
    if r8 < r6 then
      nc_li (xf + Int32.ofInt (-1)) fun x9 =>
      nc_Run m_X12_part 45 [some (.inr (.inr (12, aa))), some (.inl xb), some (.inl xc), some (.inl xd), some (.inl xe), some (.inl x9)] [] w7
    else
      nc_bI (nc_Call m_X12_comes [.inr (.inr (12, aa)), .inl xb, .inl xc, .inl (xd &&& (xf ^^^ (-1)))] w7) fun r11 w10 =>
      if r11 ≠ 0 then
        nc_li (xf + Int32.ofInt (-1)) fun x12 =>
        nc_Run m_X12_part 45 [some (.inr (.inr (12, aa))), some (.inl xb), some (.inl xc), some (.inl xd), some (.inl xe), some (.inl x12)] [] w10
      else
        nc_li (xf + Int32.ofInt (-1)) fun x13 =>
        nc_Run m_X12_part 45 [some (.inr (.inr (12, aa))), some (.inl xb), some (.inl xc), some (.inl xd), some (.inl xf), some (.inl x13)] [] w10 :=
  (nc_Run_un [45] 22).trans rfl
set_option maxRecDepth 100000 in
theorem qc_X12_tasted (aa : Nat) (xb : Int32) (w : nc_H) : nc_Call m_X12_tasted [.inr (.inr (12, aa)), .inl xb] w =
  nc_lt (nc_si w 12 aa 0 0) fun w1 =>
  nc_bV (nc_Call m_X12_taken [.inr (.inr (12, aa)), .inl 940] w1) fun w2 =>
  nc_bI (nc_Call m_X12_isCow [.inr (.inr (12, aa)), .inl xb] w2) fun r4 w3 =>
  if r4 = 0 then
    some (some (.inl (-1)), w3)
  else
    nc_bI (nc_Call m_X12_isDry [.inr (.inr (12, aa)), .inl xb] w3) fun r6 w5 =>
    if r6 ≠ 0 then
      some (some (.inl (-1)), w5)
    else
      if (w5.1 12 aa 3) = 1 then
        nc_li ((1 <<< ((w5.1 874 aa 2) &&& 31)) - 1) fun x7 =>
        nc_Run m_X12_tasted 54 [some (.inr (.inr (12, aa))), some (.inl xb), some (.inl 0), some (.inl x7), some (.inl 0), none] [] w5
      else
        some (some (.inl (-1)), w5) :=
  (nc_Call_eq _ _ _).trans ((if_pos (Nat.le_of_ble_eq_true rfl)).trans ((nc_Run_un [54, 78, 130, 202] 32).trans rfl))
set_option maxRecDepth 100000 in
theorem qr_X12_tasted_54 (aa : Nat) (xb : Int32) (xc : Int32) (xd : Int32) (xe : Int32) (w : nc_H) : nc_Run m_X12_tasted 54 [some (.inr (.inr (12, aa))), some (.inl xb), some (.inl xc), some (.inl xd), some (.inl xe), none] [] w =
  if (10 : Int32) ≤ xe then
    nc_Run m_X12_tasted 78 [some (.inr (.inr (12, aa))), some (.inl xb), some (.inl xc), some (.inl xd), some (.inl 0), none] [] w
  else
    nc_bd xe 10 fun j1 =>
    nc_lt (nc_si w 902 aa j1 0) fun w2 =>
    nc_li (xe + 1) fun x3 =>
    nc_Run m_X12_tasted 54 [some (.inr (.inr (12, aa))), some (.inl xb), some (.inl xc), some (.inl xd), some (.inl x3), none] [] w2 :=
  (nc_Run_un [54, 78, 130, 202] 11).trans rfl
set_option maxRecDepth 100000 in
theorem qr_X12_tasted_78 (aa : Nat) (xb : Int32) (xc : Int32) (xd : Int32) (xe : Int32) (w : nc_H) : nc_Run m_X12_tasted 78 [some (.inr (.inr (12, aa))), some (.inl xb), some (.inl xc), some (.inl xd), some (.inl xe), none] [] w =
  if (1 <<< ((w.1 874 aa 2) &&& 31)) ≤ xe then
    if xc ≠ 0 then
      nc_lt (nc_si w 12 aa 33 1) fun w1 =>
      nc_lt (nc_si w1 12 aa 31 xd) fun w2 =>
      nc_lt (nc_si w2 12 aa 32 (-1)) fun w3 =>
      nc_Run m_X12_tasted 202 [some (.inr (.inr (12, aa))), none, some (.inl xc), none, some (.inl 0), none] [] w3
    else
      some (some (.inl 0), w)
  else
    nc_bI (nc_Call m_X12_mayHear [.inr (.inr (12, aa)), .inl xb, .inl xe] w) fun r5 w4 =>
    if r5 = 0 then
      nc_li (xe + 1) fun x6 =>
      nc_Run m_X12_tasted 78 [some (.inr (.inr (12, aa))), some (.inl xb), some (.inl xc), some (.inl xd), some (.inl x6), none] [] w4
    else
      nc_bI (nc_Call m_X12_milkWith [.inr (.inr (12, aa)), .inl xb, .inl xe] w4) fun r8 w7 =>
      nc_bI (nc_Call m_X12_octet [.inr (.inr (12, aa)), .inl 0] w7) fun r10 w9 =>
      if r8 = r10 then
        nc_li (xc + 1) fun x11 =>
        nc_li (xd &&& xe) fun x12 =>
        nc_Run m_X12_tasted 130 [some (.inr (.inr (12, aa))), some (.inl xb), some (.inl x11), some (.inl x12), some (.inl xe), some (.inl 0)] [] w9
      else
        nc_li (xe + 1) fun x13 =>
        nc_Run m_X12_tasted 78 [some (.inr (.inr (12, aa))), some (.inl xb), some (.inl xc), some (.inl xd), some (.inl x13), none] [] w9 :=
  (nc_Run_un [54, 78, 130, 202] 29).trans rfl
set_option maxRecDepth 100000 in
theorem qr_X12_tasted_202 (aa : Nat) (xc : Int32) (xe : Int32) (w : nc_H) : nc_Run m_X12_tasted 202 [some (.inr (.inr (12, aa))), none, some (.inl xc), none, some (.inl xe), none] [] w =
  if (w.1 874 aa 2) ≤ xe then
    some (some (.inl xc), w)
  else
    if (w.1 12 aa 32) < 0 then
      nc_lt (nc_si w 12 aa 32 xe) fun w1 =>
      nc_li (xe + 1) fun x2 =>
      nc_Run m_X12_tasted 202 [some (.inr (.inr (12, aa))), none, some (.inl xc), none, some (.inl x2), none] [] w1
    else
      nc_bd xe 10 fun j3 =>
      nc_bI (nc_Call m_X12_absolute [.inl (xc - (2 * (w.1 902 aa j3)))] w) fun r5 w4 =>
      nc_bd (w4.1 12 aa 32) 10 fun j6 =>
      nc_bI (nc_Call m_X12_absolute [.inl (xc - (2 * (w4.1 902 aa j6)))] w4) fun r8 w7 =>
      if r8 ≤ r5 then
        nc_li (xe + 1) fun x9 =>
        nc_Run m_X12_tasted 202 [some (.inr (.inr (12, aa))), none, some (.inl xc), none, some (.inl x9), none] [] w7
      else
        nc_lt (nc_si w7 12 aa 32 xe) fun w10 =>
        nc_li (xe + 1) fun x11 =>
        nc_Run m_X12_tasted 202 [some (.inr (.inr (12, aa))), none, some (.inl xc), none, some (.inl x11), none] [] w10 :=
  (nc_Run_un [54, 78, 130, 202] 35).trans rfl
set_option maxRecDepth 100000 in
theorem qr_X12_tasted_130 (aa : Nat) (xb : Int32) (xc : Int32) (xd : Int32) (xe : Int32) (xf : Int32) (w : nc_H) : nc_Run m_X12_tasted 130 [some (.inr (.inr (12, aa))), some (.inl xb), some (.inl xc), some (.inl xd), some (.inl xe), some (.inl xf)] [] w =
  if (w.1 874 aa 2) ≤ xf then
    nc_li (xe + 1) fun x1 =>
    nc_Run m_X12_tasted 78 [some (.inr (.inr (12, aa))), some (.inl xb), some (.inl xc), some (.inl xd), some (.inl x1), none] [] w
  else
    nc_bd xf 10 fun j2 =>
    nc_bI (nc_Call m_X12_bitOf [.inl xe, .inl xf] w) fun r4 w3 =>
    if r4 = 0 then
      nc_bd xf 10 fun j5 =>
      nc_lt (nc_si w3 902 aa j5 ((w.1 902 aa j2) + 0)) fun w6 =>
      nc_li (xf + 1) fun x7 =>
      nc_Run m_X12_tasted 130 [some (.inr (.inr (12, aa))), some (.inl xb), some (.inl xc), some (.inl xd), some (.inl xe), some (.inl x7)] [] w6
    else
      nc_bd xf 10 fun j8 =>
      nc_lt (nc_si w3 902 aa j8 ((w.1 902 aa j2) + 1)) fun w9 =>
      nc_li (xf + 1) fun x10 =>
      nc_Run m_X12_tasted 130 [some (.inr (.inr (12, aa))), some (.inl xb), some (.inl xc), some (.inl xd), some (.inl xe), some (.inl x10)] [] w9 :=
  (nc_Run_un [54, 78, 130, 202] 22).trans rfl
set_option maxRecDepth 100000 in
theorem qc_X12_dries (aa : Nat) (xb : Int32) (w : nc_H) : nc_Call m_X12_dries [.inr (.inr (12, aa)), .inl xb] w =
  nc_lt (nc_si w 12 aa 0 0) fun w1 =>
  nc_bI (nc_Call m_X12_isNews [.inr (.inr (12, aa)), .inl xb] w1) fun r3 w2 =>
  if r3 = 0 then
    some (some (.inl (-1)), w2)
  else
    nc_bI (nc_Call m_X12_whyFind [.inr (.inr (12, aa)), .inl xb] w2) fun r5 w4 =>
    if r5 ≠ 0 then
      some (some (.inl (-1)), w4)
    else
      nc_bI (nc_Call m_X12_driedBy [.inr (.inr (12, aa)), .inl xb] w4) fun r7 w6 =>
      some (some (.inl r7), w6) :=
  (nc_Call_eq _ _ _).trans ((if_pos (Nat.le_of_ble_eq_true rfl)).trans ((nc_Run_un [] 16).trans rfl))
set_option maxRecDepth 100000 in
theorem qc_X12_isPast (aa : Nat) (xb : Int32) (w : nc_H) : nc_Call m_X12_isPast [.inr (.inr (12, aa)), .inl xb] w =
  nc_bI (nc_Call m_X12_greater [.inl 0, .inl ((w.1 874 aa 76) - 30)] w) fun r2 w1 =>
  nc_bI (nc_Call m_X12_isIn [.inl xb, .inl r2, .inl ((w1.1 874 aa 76) - 1)] w1) fun r4 w3 =>
  nc_z r4 <| some (some (.inl r4), w3) :=
  (nc_Call_eq _ _ _).trans ((if_pos (Nat.le_of_ble_eq_true rfl)).trans ((nc_Run_un [] 17).trans rfl))
set_option maxRecDepth 100000 in
theorem qc_X12_week (aa : Nat) (xb : Int32) (w : nc_H) : nc_Call m_X12_week [.inr (.inr (12, aa)), .inl xb] w =
  nc_lt (nc_si w 12 aa 0 0) fun w1 =>
  nc_bV (nc_Call m_X12_taken [.inr (.inr (12, aa)), .inl 940] w1) fun w2 =>
  nc_bI (nc_Call m_X12_isFarm [.inr (.inr (12, aa)), .inl xb] w2) fun r4 w3 =>
  if r4 = 0 then
    some (some (.inl (-1)), w3)
  else
    nc_bI (nc_Call m_X12_isIn [.inl (w3.1 12 aa 3), .inl 1, .inl 7] w3) fun r6 w5 =>
    if r6 ≠ 0 then
      nc_bI (nc_Call m_X12_greater [.inl 0, .inl ((w5.1 874 aa 76) - 30)] w5) fun r8 w7 =>
      nc_Run m_X12_week 50 [some (.inr (.inr (12, aa))), some (.inl xb), some (.inl r8), none, none] [] w7
    else
      some (some (.inl (-1)), w5) :=
  (nc_Call_eq _ _ _).trans ((if_pos (Nat.le_of_ble_eq_true rfl)).trans ((nc_Run_un [50, 71] 26).trans rfl))
set_option maxRecDepth 100000 in
theorem qr_X12_week_50 (aa : Nat) (xb : Int32) (xc : Int32) (w : nc_H) : nc_Run m_X12_week 50 [some (.inr (.inr (12, aa))), some (.inl xb), some (.inl xc), none, none] [] w =
  if (w.1 874 aa 76) < (xc + (w.1 12 aa 3)) then
    some (some (.inl (-1)), w)
  else
    nc_Run m_X12_week 71 [some (.inr (.inr (12, aa))), some (.inl xb), some (.inl xc), some (.inl 1), some (.inl 0)] [] w :=
  (nc_Run_un [50, 71] 14).trans rfl
set_option maxRecDepth 100000 in
theorem qr_X12_week_71 (aa : Nat) (xb : Int32) (xc : Int32) (xd : Int32) (xe : Int32) (w : nc_H) : nc_Run m_X12_week 71 [some (.inr (.inr (12, aa))), some (.inl xb), some (.inl xc), some (.inl xd), some (.inl xe)] [] w =
  if (w.1 12 aa 3) ≤ xe then
    if xd = 0 then
      nc_li (xc + 1) fun x1 =>
      nc_Run m_X12_week 50 [some (.inr (.inr (12, aa))), some (.inl xb), some (.inl x1), none, none] [] w
    else
      some (some (.inl xc), w)
  else
    if xd = 0 then
      nc_li (xe + 1) fun x2 =>
      nc_Run m_X12_week 71 [some (.inr (.inr (12, aa))), some (.inl xb), some (.inl xc), some (.inl 0), some (.inl x2)] [] w
    else
      nc_bd ((212 + (30 * xb)) + ((xc + xe) - (xc + xe) / 30 * 30)) 513 fun j3 =>
      nc_bI (nc_Call m_X12_octet [.inr (.inr (12, aa)), .inl xe] w) fun r5 w4 =>
      if (w.1 874 aa j3) ≠ r5 then
        nc_li (xe + 1) fun x6 =>
        nc_Run m_X12_week 71 [some (.inr (.inr (12, aa))), some (.inl xb), some (.inl xc), some (.inl 0), some (.inl x6)] [] w4
      else
        nc_li (xe + 1) fun x7 =>
        nc_Run m_X12_week 71 [some (.inr (.inr (12, aa))), some (.inl xb), some (.inl xc), some (.inl 1), some (.inl x7)] [] w4 :=
  (nc_Run_un [50, 71] 30).trans rfl
set_option maxRecDepth 100000 in
theorem qc_X12_pails (aa : Nat) (xb : Int32) (xc : Int32) (w : nc_H) : nc_Call m_X12_pails [.inr (.inr (12, aa)), .inl xb, .inl xc] w =
  nc_lt (nc_si w 12 aa 0 0) fun w1 =>
  nc_bI (nc_Call m_X12_isFarm [.inr (.inr (12, aa)), .inl xb] w1) fun r3 w2 =>
  if r3 = 0 then
    some (some (.inl (-1)), w2)
  else
    nc_bI (nc_Call m_X12_isPast [.inr (.inr (12, aa)), .inl xc] w2) fun r5 w4 =>
    if r5 = 0 then
      some (some (.inl (-1)), w4)
    else
      nc_bd ((212 + (30 * xb)) + (xc - xc / 30 * 30)) 513 fun j6 =>
      some (some (.inl (w4.1 874 aa j6)), w4) :=
  (nc_Call_eq _ _ _).trans ((if_pos (Nat.le_of_ble_eq_true rfl)).trans ((nc_Run_un [] 25).trans rfl))
set_option maxRecDepth 100000 in
theorem qc_X12_ahead (aa : Nat) (xb : Int32) (w : nc_H) : nc_Call m_X12_ahead [.inr (.inr (12, aa)), .inl xb] w =
  nc_lt (nc_si w 12 aa 0 0) fun w1 =>
  nc_bI (nc_Call m_X12_isIn [.inl xb, .inl 1, .inl 60] w1) fun r3 w2 =>
  if r3 ≠ 0 then
    nc_bV (nc_Call m_X12_tries [.inr (.inr (12, aa))] w2) fun w4 =>
    nc_bI (nc_Call m_X12_allPails [.inr (.inr (12, aa))] w4) fun r6 w5 =>
    nc_bI (nc_Call m_X12_goesOn [.inr (.inr (12, aa)), .inl xb] w5) fun r8 w7 =>
    nc_bI (nc_Call m_X12_allPails [.inr (.inr (12, aa))] w7) fun r10 w9 =>
    nc_li (r10 - r6) fun x11 =>
    nc_bV (nc_Call m_X12_back [.inr (.inr (12, aa))] w9) fun w12 =>
    some (some (.inl x11), w12)
  else
    some (some (.inl (-1)), w2) :=
  (nc_Call_eq _ _ _).trans ((if_pos (Nat.le_of_ble_eq_true rfl)).trans ((nc_Run_un [] 26).trans rfl))
set_option maxRecDepth 100000 in
theorem qc_X12_draws (aa : Nat) (xb : Int32) (xc : Int32) (w : nc_H) : nc_Call m_X12_draws [.inr (.inr (12, aa)), .inl xb, .inl xc] w =
  nc_lt (nc_si w 12 aa 35 xc) fun w1 =>
  nc_Run m_X12_draws 7 [some (.inr (.inr (12, aa))), some (.inl xb), none, some (.inl 0), none, none] [] w1 :=
  (nc_Call_eq _ _ _).trans ((if_pos (Nat.le_of_ble_eq_true rfl)).trans ((nc_Run_un [7, 28] 6).trans rfl))
set_option maxRecDepth 100000 in
theorem qr_X12_draws_7 (aa : Nat) (xb : Int32) (xd : Int32) (w : nc_H) : nc_Run m_X12_draws 7 [some (.inr (.inr (12, aa))), some (.inl xb), none, some (.inl xd), none, none] [] w =
  if xb ≤ xd then
    some (some (.inl xd), w)
  else
    if (400 : Int32) ≤ (w.1 874 aa 76) then
      some (some (.inl xd), w)
    else
      nc_Run m_X12_draws 28 [some (.inr (.inr (12, aa))), some (.inl xb), none, some (.inl xd), some (.inl 0), none] [] w :=
  (nc_Run_un [7, 28] 12).trans rfl
set_option maxRecDepth 100000 in
theorem qr_X12_draws_28 (aa : Nat) (xb : Int32) (xd : Int32) (xe : Int32) (w : nc_H) : nc_Run m_X12_draws 28 [some (.inr (.inr (12, aa))), some (.inl xb), none, some (.inl xd), some (.inl xe), none] [] w =
  if (w.1 874 aa 1) ≤ xe then
    nc_bI (nc_Call m_X12_draw [.inr (.inr (12, aa)), .inl 12] w) fun r2 w1 =>
    if r2 ≠ 0 then
      nc_bV (nc_Call m_X12_day [.inr (.inr (12, aa))] w1) fun w3 =>
      nc_li (xd + 1) fun x4 =>
      nc_Run m_X12_draws 7 [some (.inr (.inr (12, aa))), some (.inl xb), none, some (.inl x4), none, none] [] w3
    else
      nc_bI (nc_Call m_X12_draw [.inr (.inr (12, aa)), .inl (w1.1 874 aa 2)] w1) fun r6 w5 =>
      nc_bI (nc_Call m_X12_whyFind [.inr (.inr (12, aa)), .inl r6] w5) fun r8 w7 =>
      if r8 ≠ 0 then
        nc_bV (nc_Call m_X12_day [.inr (.inr (12, aa))] w7) fun w9 =>
        nc_li (xd + 1) fun x10 =>
        nc_Run m_X12_draws 7 [some (.inr (.inr (12, aa))), some (.inl xb), none, some (.inl x10), none, none] [] w9
      else
        nc_bV (nc_Call m_X12_finds [.inr (.inr (12, aa)), .inl r6] w7) fun w11 =>
        nc_bV (nc_Call m_X12_day [.inr (.inr (12, aa))] w11) fun w12 =>
        nc_li (xd + 1) fun x13 =>
        nc_Run m_X12_draws 7 [some (.inr (.inr (12, aa))), some (.inl xb), none, some (.inl x13), none, none] [] w12
  else
    nc_bI (nc_Call m_X12_draw [.inr (.inr (12, aa)), .inl 3] w) fun r15 w14 =>
    if r15 ≤ 0 then
      nc_bI (nc_Call m_X12_draw [.inr (.inr (12, aa)), .inl (w14.1 874 aa 2)] w14) fun r17 w16 =>
      nc_bI (nc_Call m_X12_whyTell [.inr (.inr (12, aa)), .inl xe, .inl r17] w16) fun r19 w18 =>
      if r19 ≠ 0 then
        nc_li (xe + 1) fun x20 =>
        nc_Run m_X12_draws 28 [some (.inr (.inr (12, aa))), some (.inl xb), none, some (.inl xd), some (.inl x20), none] [] w18
      else
        nc_bV (nc_Call m_X12_tells [.inr (.inr (12, aa)), .inl xe, .inl r17] w18) fun w21 =>
        nc_li (xe + 1) fun x22 =>
        nc_Run m_X12_draws 28 [some (.inr (.inr (12, aa))), some (.inl xb), none, some (.inl xd), some (.inl x22), none] [] w21
    else
      nc_li (xe + 1) fun x23 =>
      nc_Run m_X12_draws 28 [some (.inr (.inr (12, aa))), some (.inl xb), none, some (.inl xd), some (.inl x23), none] [] w14 :=
  (nc_Run_un [7, 28] 29).trans rfl
set_option maxRecDepth 100000 in
theorem qc_X12_drawn (aa : Nat) (xb : Int32) (xc : Int32) (w : nc_H) : nc_Call m_X12_drawn [.inr (.inr (12, aa)), .inl xb, .inl xc] w =
  nc_lt (nc_si w 12 aa 0 0) fun w1 =>
  nc_bI (nc_Call m_X12_isIn [.inl xb, .inl 1, .inl 60] w1) fun r3 w2 =>
  if r3 = 0 then
    some (some (.inl (-1)), w2)
  else
    if (w2.1 874 aa 2) ≠ 0 then
      if (400 : Int32) ≤ (w2.1 874 aa 76) then
        nc_bI (nc_Call m_X12_draws [.inr (.inr (12, aa)), .inl xb, .inl xc] w2) fun r5 w4 =>
        some (some (.inl r5), w4)
      else
        nc_bV (nc_Call m_X12_keep [.inr (.inr (12, aa))] w2) fun w6 =>
        nc_bI (nc_Call m_X12_draws [.inr (.inr (12, aa)), .inl xb, .inl xc] w6) fun r8 w7 =>
        some (some (.inl r8), w7)
    else
      some (some (.inl (-1)), w2) :=
  (nc_Call_eq _ _ _).trans ((if_pos (Nat.le_of_ble_eq_true rfl)).trans ((nc_Run_un [] 26).trans rfl))
set_option maxRecDepth 100000 in
theorem qc_X12_odds (aa : Nat) (xb : Int32) (xc : Int32) (xd : Int32) (w : nc_H) : nc_Call m_X12_odds [.inr (.inr (12, aa)), .inl xb, .inl xc, .inl xd] w =
  nc_lt (nc_si w 12 aa 0 0) fun w1 =>
  nc_bI (nc_Call m_X12_isCow [.inr (.inr (12, aa)), .inl xb] w1) fun r3 w2 =>
  if r3 = 0 then
    some (some (.inl (-1)), w2)
  else
    nc_bI (nc_Call m_X12_isIn [.inl xc, .inl 1, .inl 30] w2) fun r5 w4 =>
    if r5 = 0 then
      some (some (.inl (-1)), w4)
    else
      if (w4.1 874 aa 2) ≠ 0 then
        nc_bV (nc_Call m_X12_tries [.inr (.inr (12, aa))] w4) fun w6 =>
        nc_Run m_X12_odds 44 [some (.inr (.inr (12, aa))), some (.inl xb), some (.inl xc), some (.inl xd), some (.inl 0), some (.inl 0)] [] w6
      else
        some (some (.inl (-1)), w4) :=
  (nc_Call_eq _ _ _).trans ((if_pos (Nat.le_of_ble_eq_true rfl)).trans ((nc_Run_un [44] 24).trans rfl))
set_option maxRecDepth 100000 in
theorem qr_X12_odds_44 (aa : Nat) (xb : Int32) (xc : Int32) (xd : Int32) (xe : Int32) (xf : Int32) (w : nc_H) : nc_Run m_X12_odds 44 [some (.inr (.inr (12, aa))), some (.inl xb), some (.inl xc), some (.inl xd), some (.inl xe), some (.inl xf)] [] w =
  if xc ≤ xf then
    some (some (.inl xe), w)
  else
    nc_bI (nc_Call m_X12_draws [.inr (.inr (12, aa)), .inl 20, .inl (xd + xf)] w) fun r2 w1 =>
    nc_bI (nc_Call m_X12_isDry [.inr (.inr (12, aa)), .inl xb] w1) fun r4 w3 =>
    if r4 = 0 then
      nc_li (xe + 0) fun x5 =>
      nc_bV (nc_Call m_X12_back [.inr (.inr (12, aa))] w3) fun w6 =>
      nc_li (xf + 1) fun x7 =>
      nc_Run m_X12_odds 44 [some (.inr (.inr (12, aa))), some (.inl xb), some (.inl xc), some (.inl xd), some (.inl x5), some (.inl x7)] [] w6
    else
      nc_li (xe + 1) fun x8 =>
      nc_bV (nc_Call m_X12_back [.inr (.inr (12, aa))] w3) fun w9 =>
      nc_li (xf + 1) fun x10 =>
      nc_Run m_X12_odds 44 [some (.inr (.inr (12, aa))), some (.inl xb), some (.inl xc), some (.inl xd), some (.inl x8), some (.inl x10)] [] w9 :=
  (nc_Run_un [44] 24).trans rfl
set_option maxRecDepth 100000 in
theorem qc_X12_bookLine (aa : Nat) (w : nc_H) : nc_Call m_X12_bookLine [.inr (.inr (12, aa))] w =
  nc_li (3 * (w.1 12 aa 36)) fun x1 =>
  nc_bI (nc_Call m_X12_isWord [.inr (.inr (12, aa)), .inr (.inl 439956631140)] w) fun r3 w2 =>
  nc_bI (nc_Call m_X12_isWord [.inr (.inr (12, aa)), .inr (.inl 6578553)] w2) fun r5 w4 =>
  if r3 ≠ 0 then
    nc_Run m_X12_bookLine 47 [some (.inr (.inr (12, aa))), some (.inl x1), some (.inl r3), some (.inl r5)] [] w4
  else
    if r5 ≠ 0 then
      nc_Run m_X12_bookLine 47 [some (.inr (.inr (12, aa))), some (.inl x1), some (.inl r3), some (.inl r5)] [] w4
    else
      nc_bI (nc_Call m_X12_looksAt [.inr (.inr (12, aa)), .inl 4, .inl (w4.1 874 aa 1)] w4) fun r7 w6 =>
      if r7 ≠ 0 then
        nc_Run m_X12_bookLine 47 [some (.inr (.inr (12, aa))), some (.inl x1), some (.inl r3), some (.inl r5)] [] w6
      else
        some (some (.inl 0), w6) :=
  (nc_Call_eq _ _ _).trans ((if_pos (Nat.le_of_ble_eq_true rfl)).trans ((nc_Run_un [47, 84] 27).trans rfl))
set_option maxRecDepth 100000 in
theorem qr_X12_bookLine_47 (aa : Nat) (xb : Int32) (xc : Int32) (xd : Int32) (w : nc_H) : nc_Run m_X12_bookLine 47 [some (.inr (.inr (12, aa))), some (.inl xb), some (.inl xc), some (.inl xd)] [] w =
  if (w.1 12 aa 36) ≠ 40 then
    if xc = 0 then
      if xd = 0 then
        nc_Run m_X12_bookLine 84 [some (.inr (.inr (12, aa))), some (.inl xb), some (.inl xc), some (.inl xd)] [.inl 0, .inl xb, .inr (.inr (876, aa))] w
      else
        nc_Run m_X12_bookLine 84 [some (.inr (.inr (12, aa))), some (.inl xb), some (.inl xc), some (.inl xd)] [.inl 2, .inl xb, .inr (.inr (876, aa))] w
    else
      nc_Run m_X12_bookLine 84 [some (.inr (.inr (12, aa))), some (.inl xb), some (.inl xc), some (.inl xd)] [.inl 1, .inl xb, .inr (.inr (876, aa))] w
  else
    nc_bI (nc_Call m_X12_bad [.inr (.inr (12, aa)), .inl 4] w) fun r2 w1 =>
    nc_z r2 <| some (some (.inl r2), w1) :=
  (nc_Run_un [47, 84] 14).trans rfl
set_option maxRecDepth 100000 in
theorem qr_X12_bookLine_84 (aa : Nat) (xb : Int32) (xc : Int32) (xd : Int32) (za : Int32) (zb : Int32) (bc : Nat) (w : nc_H) : nc_Run m_X12_bookLine 84 [some (.inr (.inr (12, aa))), some (.inl xb), some (.inl xc), some (.inl xd)] [.inl za, .inl zb, .inr (.inr (876, bc))] w =
  nc_bd zb 135 fun j1 =>
  nc_lt (nc_si w 876 bc j1 za) fun w2 =>
  nc_bd (xb + 1) 135 fun j3 =>
  nc_lt (nc_si w2 876 aa j3 (w2.1 12 aa 18)) fun w4 =>
  nc_bV (nc_Call m_X12_next [.inr (.inr (12, aa))] w4) fun w5 =>
  if xd = 0 then
    if xc ≠ 0 then
      nc_bI (nc_Call m_X12_takesName [.inr (.inr (12, aa)), .inl 12, .inl (w5.1 874 aa 2)] w5) fun r7 w6 =>
      if r7 ≠ 0 then
        nc_bd (xb + 2) 135 fun j8 =>
        nc_lt (nc_si w6 876 aa j8 (w6.1 12 aa 18)) fun w9 =>
        some (some (.inl 1), w9)
      else
        some (some (.inl 0), w6)
    else
      nc_bI (nc_Call m_X12_isWord [.inr (.inr (12, aa)), .inr (.inl 448377483891)] w5) fun r11 w10 =>
      if r11 ≠ 0 then
        nc_bV (nc_Call m_X12_next [.inr (.inr (12, aa))] w10) fun w12 =>
        nc_bI (nc_Call m_X12_takesName [.inr (.inr (12, aa)), .inl 12, .inl (w12.1 874 aa 2)] w12) fun r14 w13 =>
        if r14 ≠ 0 then
          nc_bd (xb + 2) 135 fun j15 =>
          nc_lt (nc_si w13 876 aa j15 (w13.1 12 aa 18)) fun w16 =>
          some (some (.inl 1), w16)
        else
          some (some (.inl 0), w13)
      else
        nc_bI (nc_Call m_X12_bad [.inr (.inr (12, aa)), .inl 1] w10) fun r18 w17 =>
        nc_z r18 <| some (some (.inl r18), w17)
  else
    nc_bI (nc_Call m_X12_takes [.inr (.inr (12, aa)), .inl 1, .inl 60] w5) fun r20 w19 =>
    if r20 ≠ 0 then
      nc_bd (xb + 1) 135 fun j21 =>
      nc_lt (nc_si w19 876 aa j21 (w19.1 12 aa 18)) fun w22 =>
      some (some (.inl 1), w22)
    else
      some (some (.inl 0), w19) :=
  (nc_Run_un [47, 84] 39).trans rfl
set_option maxRecDepth 100000 in
theorem qc_X12_does (aa : Nat) (xb : Int32) (xc : Int32) (xd : Int32) (w : nc_H) : nc_Call m_X12_does [.inr (.inr (12, aa)), .inl xb, .inl xc, .inl xd] w =
  if xb ≠ 2 then
    if xb ≠ 0 then
      nc_bI (nc_Call m_X12_whyFind [.inr (.inr (12, aa)), .inl xd] w) fun r2 w1 =>
      if r2 ≤ 0 then
        if xb ≠ 0 then
          nc_bV (nc_Call m_X12_finds [.inr (.inr (12, aa)), .inl xd] w1) fun w3 =>
          some (some (.inl 0), w3)
        else
          nc_bV (nc_Call m_X12_tells [.inr (.inr (12, aa)), .inl xc, .inl xd] w1) fun w4 =>
          some (some (.inl 0), w4)
      else
        some (some (.inl ((10 * xb) + r2)), w1)
    else
      nc_bI (nc_Call m_X12_whyTell [.inr (.inr (12, aa)), .inl xc, .inl xd] w) fun r6 w5 =>
      if r6 ≤ 0 then
        if xb ≠ 0 then
          nc_bV (nc_Call m_X12_finds [.inr (.inr (12, aa)), .inl xd] w5) fun w7 =>
          some (some (.inl 0), w7)
        else
          nc_bV (nc_Call m_X12_tells [.inr (.inr (12, aa)), .inl xc, .inl xd] w5) fun w8 =>
          some (some (.inl 0), w8)
      else
        some (some (.inl ((10 * xb) + r6)), w5)
  else
    if ((w.1 874 aa 76) + xc) ≤ 400 then
      nc_bI (nc_Call m_X12_goesOn [.inr (.inr (12, aa)), .inl xc] w) fun r10 w9 =>
      some (some (.inl 0), w9)
    else
      some (some (.inl 21), w) :=
  (nc_Call_eq _ _ _).trans ((if_pos (Nat.le_of_ble_eq_true rfl)).trans ((nc_Run_un [] 22).trans rfl))
set_option maxRecDepth 100000 in
theorem qc_X12_book (aa : Nat) (xb : Int32) (w : nc_H) : nc_Call m_X12_book [.inr (.inr (12, aa)), .inl xb] w =
  nc_lt (nc_si w 12 aa 0 0) fun w1 =>
  nc_bI (nc_Call m_X12_isIn [.inl xb, .inl 0, .inl 1] w1) fun r3 w2 =>
  if r3 ≠ 0 then
    nc_bV (nc_Call m_X12_taken [.inr (.inr (12, aa)), .inl 400] w2) fun w4 =>
    nc_lt (nc_si w4 12 aa 15 0) fun w5 =>
    nc_lt (nc_si w5 12 aa 36 0) fun w6 =>
    nc_bV (nc_Call m_X12_next [.inr (.inr (12, aa))] w6) fun w7 =>
    nc_Run m_X12_book 39 [some (.inr (.inr (12, aa))), some (.inl xb), none, none] [] w7
  else
    some (some (.inl (-1000)), w2) :=
  (nc_Call_eq _ _ _).trans ((if_pos (Nat.le_of_ble_eq_true rfl)).trans ((nc_Run_un [39, 89, 111, 242] 20).trans rfl))
set_option maxRecDepth 100000 in
theorem qr_X12_book_39 (aa : Nat) (xb : Int32) (w : nc_H) : nc_Run m_X12_book 39 [some (.inr (.inr (12, aa))), some (.inl xb), none, none] [] w =
  if (w.1 12 aa 11) = 0 then
    nc_bV (nc_Call m_X12_tries [.inr (.inr (12, aa))] w) fun w1 =>
    nc_Run m_X12_book 89 [some (.inr (.inr (12, aa))), some (.inl xb), some (.inl 0), none] [] w1
  else
    nc_bI (nc_Call m_X12_bookLine [.inr (.inr (12, aa))] w) fun r3 w2 =>
    if r3 = 0 then
      some (some (.inl ((-2) - (w2.1 12 aa 16))), w2)
    else
      nc_bI (nc_Call m_X12_sign [.inr (.inr (12, aa)), .inl 59] w2) fun r5 w4 =>
      if r5 ≠ 0 then
        nc_lt (nc_si w4 12 aa 36 ((w4.1 12 aa 36) + 1)) fun w6 =>
        nc_Run m_X12_book 39 [some (.inr (.inr (12, aa))), some (.inl xb), none, none] [] w6
      else
        some (some (.inl ((-2) - (w4.1 12 aa 16))), w4) :=
  (nc_Run_un [39, 89, 111, 242] 18).trans rfl
set_option maxRecDepth 100000 in
theorem qr_X12_book_89 (aa : Nat) (xb : Int32) (xc : Int32) (w : nc_H) : nc_Run m_X12_book 89 [some (.inr (.inr (12, aa))), some (.inl xb), some (.inl xc), none] [] w =
  if (4 : Int32) ≤ xc then
    nc_Run m_X12_book 111 [some (.inr (.inr (12, aa))), some (.inl xb), some (.inl (-1)), some (.inl 0)] [] w
  else
    nc_bd xc 4 fun j1 =>
    nc_lt (nc_si w 905 aa j1 0) fun w2 =>
    nc_li (xc + 1) fun x3 =>
    nc_Run m_X12_book 89 [some (.inr (.inr (12, aa))), some (.inl xb), some (.inl x3), none] [] w2 :=
  (nc_Run_un [39, 89, 111, 242] 11).trans rfl
set_option maxRecDepth 100000 in
theorem qr_X12_book_111 (aa : Nat) (xb : Int32) (xc : Int32) (xd : Int32) (w : nc_H) : nc_Run m_X12_book 111 [some (.inr (.inr (12, aa))), some (.inl xb), some (.inl xc), some (.inl xd)] [] w =
  if (w.1 12 aa 36) ≤ xd then
    nc_lt (nc_si w 905 aa 2 (w.1 874 aa 76)) fun w1 =>
    nc_lt (nc_si w1 905 aa 3 (w1.1 874 aa 77)) fun w2 =>
    nc_lt (nc_si w2 12 aa 38 1) fun w3 =>
    if xb ≠ 1 then
      if xb ≠ 0 then
        some (some (.inl xc), w3)
      else
        nc_bV (nc_Call m_X12_back [.inr (.inr (12, aa))] w3) fun w4 =>
        some (some (.inl xc), w4)
    else
      if (w3.1 905 aa 1) ≤ 0 then
        if xb ≠ 0 then
          some (some (.inl xc), w3)
        else
          nc_bV (nc_Call m_X12_back [.inr (.inr (12, aa))] w3) fun w5 =>
          some (some (.inl xc), w5)
      else
        nc_bV (nc_Call m_X12_keep [.inr (.inr (12, aa))] w3) fun w6 =>
        nc_Run m_X12_book 242 [some (.inr (.inr (12, aa))), some (.inl xb), some (.inl xc), some (.inl 0)] [] w6
  else
    if (0 : Int32) ≤ xc then
      nc_lt (nc_si w 905 aa 2 (w.1 874 aa 76)) fun w7 =>
      nc_lt (nc_si w7 905 aa 3 (w7.1 874 aa 77)) fun w8 =>
      nc_lt (nc_si w8 12 aa 38 1) fun w9 =>
      if xb ≠ 1 then
        if xb ≠ 0 then
          some (some (.inl xc), w9)
        else
          nc_bV (nc_Call m_X12_back [.inr (.inr (12, aa))] w9) fun w10 =>
          some (some (.inl xc), w10)
      else
        if (w9.1 905 aa 1) ≤ 0 then
          if xb ≠ 0 then
            some (some (.inl xc), w9)
          else
            nc_bV (nc_Call m_X12_back [.inr (.inr (12, aa))] w9) fun w11 =>
            some (some (.inl xc), w11)
        else
          nc_bV (nc_Call m_X12_keep [.inr (.inr (12, aa))] w9) fun w12 =>
          nc_Run m_X12_book 242 [some (.inr (.inr (12, aa))), some (.inl xb), some (.inl xc), some (.inl 0)] [] w12
    else
      nc_bd (3 * xd) 135 fun j13 =>
      nc_bd ((3 * xd) + 1) 135 fun j14 =>
      nc_bd ((3 * xd) + 2) 135 fun j15 =>
      nc_bI (nc_Call m_X12_does [.inr (.inr (12, aa)), .inl (w.1 876 aa j13), .inl (w.1 876 aa j14), .inl (w.1 876 aa j15)] w) fun r17 w16 =>
      nc_lt (nc_si w16 905 aa 0 r17) fun w18 =>
      if (w18.1 905 aa 0) ≤ 0 then
        nc_lt (nc_si w18 905 aa 1 ((w18.1 905 aa 1) + 1)) fun w19 =>
        nc_li (xd + 1) fun x20 =>
        nc_Run m_X12_book 111 [some (.inr (.inr (12, aa))), some (.inl xb), some (.inl xc), some (.inl x20)] [] w19
      else
        nc_li (xd + 1) fun x21 =>
        nc_Run m_X12_book 111 [some (.inr (.inr (12, aa))), some (.inl xb), some (.inl xd), some (.inl x21)] [] w18 :=
  (nc_Run_un [39, 89, 111, 242] 50).trans rfl
set_option maxRecDepth 100000 in
theorem qr_X12_book_242 (aa : Nat) (xb : Int32) (xc : Int32) (xd : Int32) (w : nc_H) : nc_Run m_X12_book 242 [some (.inr (.inr (12, aa))), some (.inl xb), some (.inl xc), some (.inl xd)] [] w =
  if (256 : Int32) ≤ xd then
    if xb ≠ 0 then
      some (some (.inl xc), w)
    else
      nc_bV (nc_Call m_X12_back [.inr (.inr (12, aa))] w) fun w1 =>
      some (some (.inl xc), w1)
  else
    nc_bd xd 256 fun j2 =>
    nc_bd ((256 * ((w.1 12 aa 24) - 1)) + xd) 2048 fun j3 =>
    nc_lt (nc_si w 890 aa j3 (w.1 891 aa j2)) fun w4 =>
    nc_li (xd + 1) fun x5 =>
    nc_Run m_X12_book 242 [some (.inr (.inr (12, aa))), some (.inl xb), some (.inl xc), some (.inl x5)] [] w4 :=
  (nc_Run_un [39, 89, 111, 242] 21).trans rfl
set_option maxRecDepth 100000 in
theorem qc_X12_written (aa : Nat) (xb : Int32) (w : nc_H) : nc_Call m_X12_written [.inr (.inr (12, aa)), .inl xb] w =
  nc_lt (nc_si w 12 aa 0 0) fun w1 =>
  if (w1.1 12 aa 38) = 0 then
    some (some (.inl (-1)), w1)
  else
    nc_bI (nc_Call m_X12_isIn [.inl xb, .inl 0, .inl 3] w1) fun r3 w2 =>
    if r3 = 0 then
      some (some (.inl (-1)), w2)
    else
      nc_bd xb 4 fun j4 =>
      some (some (.inl (w2.1 905 aa j4)), w2) :=
  (nc_Call_eq _ _ _).trans ((if_pos (Nat.le_of_ble_eq_true rfl)).trans ((nc_Run_un [] 17).trans rfl))
set_option maxRecDepth 100000 in
theorem qc_X12_joins (aa : Nat) (xb : Int32) (w : nc_H) : nc_Call m_X12_joins [.inr (.inr (12, aa)), .inl xb] w =
  if (w.1 12 aa 42) ≤ 0 then
    some (none, w)
  else
    nc_bd ((w.1 12 aa 42) - 1) 45 fun j1 =>
    if (w.1 907 aa j1) = 21 then
      nc_lt (nc_si w 12 aa 42 ((w.1 12 aa 42) - 1)) fun w2 =>
      nc_bd (w2.1 12 aa 42) 45 fun j3 =>
      nc_bV (nc_Call m_X12_code [.inr (.inr (12, aa)), .inl (w2.1 907 aa j3), .inl 0, .inl 0] w2) fun w4 =>
      nc_Run m_X12_joins 0 [some (.inr (.inr (12, aa))), some (.inl xb)] [] w4
    else
      nc_bd ((w.1 12 aa 42) - 1) 45 fun j5 =>
      if (w.1 907 aa j5) ≠ 22 then
        some (none, w)
      else
        if xb ≠ 22 then
          some (none, w)
        else
          nc_lt (nc_si w 12 aa 42 ((w.1 12 aa 42) - 1)) fun w6 =>
          nc_bd (w6.1 12 aa 42) 45 fun j7 =>
          nc_bV (nc_Call m_X12_code [.inr (.inr (12, aa)), .inl (w6.1 907 aa j7), .inl 0, .inl 0] w6) fun w8 =>
          nc_Run m_X12_joins 0 [some (.inr (.inr (12, aa))), some (.inl xb)] [] w8 :=
  (nc_Call_eq _ _ _).trans ((if_pos (Nat.le_of_ble_eq_true rfl)).trans ((nc_Run_un [0] 41).trans rfl))
set_option maxRecDepth 100000 in
theorem qr_X12_joins_0 (aa : Nat) (xb : Int32) (w : nc_H) : nc_Run m_X12_joins 0 [some (.inr (.inr (12, aa))), some (.inl xb)] [] w =
  if (w.1 12 aa 42) ≤ 0 then
    some (none, w)
  else
    nc_bd ((w.1 12 aa 42) - 1) 45 fun j1 =>
    if (w.1 907 aa j1) = 21 then
      nc_lt (nc_si w 12 aa 42 ((w.1 12 aa 42) - 1)) fun w2 =>
      nc_bd (w2.1 12 aa 42) 45 fun j3 =>
      nc_bV (nc_Call m_X12_code [.inr (.inr (12, aa)), .inl (w2.1 907 aa j3), .inl 0, .inl 0] w2) fun w4 =>
      nc_Run m_X12_joins 0 [some (.inr (.inr (12, aa))), some (.inl xb)] [] w4
    else
      nc_bd ((w.1 12 aa 42) - 1) 45 fun j5 =>
      if (w.1 907 aa j5) ≠ 22 then
        some (none, w)
      else
        if xb ≠ 22 then
          some (none, w)
        else
          nc_lt (nc_si w 12 aa 42 ((w.1 12 aa 42) - 1)) fun w6 =>
          nc_bd (w6.1 12 aa 42) 45 fun j7 =>
          nc_bV (nc_Call m_X12_code [.inr (.inr (12, aa)), .inl (w6.1 907 aa j7), .inl 0, .inl 0] w6) fun w8 =>
          nc_Run m_X12_joins 0 [some (.inr (.inr (12, aa))), some (.inl xb)] [] w8 :=
  (nc_Run_un [0] 41).trans rfl
set_option maxRecDepth 100000 in
theorem qc_X12_nots (aa : Nat) (w : nc_H) : nc_Call m_X12_nots [.inr (.inr (12, aa))] w =
  if (w.1 12 aa 42) ≤ 0 then
    some (none, w)
  else
    nc_bd ((w.1 12 aa 42) - 1) 45 fun j1 =>
    if (w.1 907 aa j1) ≠ 20 then
      some (none, w)
    else
      nc_lt (nc_si w 12 aa 42 ((w.1 12 aa 42) - 1)) fun w2 =>
      nc_lt (nc_si w2 12 aa 43 ((w2.1 12 aa 43) - 1)) fun w3 =>
      nc_bV (nc_Call m_X12_code [.inr (.inr (12, aa)), .inl 20, .inl 0, .inl 0] w3) fun w4 =>
      nc_Run m_X12_nots 0 [some (.inr (.inr (12, aa)))] [] w4 :=
  (nc_Call_eq _ _ _).trans ((if_pos (Nat.le_of_ble_eq_true rfl)).trans ((nc_Run_un [0] 31).trans rfl))
set_option maxRecDepth 100000 in
theorem qr_X12_nots_0 (aa : Nat) (w : nc_H) : nc_Run m_X12_nots 0 [some (.inr (.inr (12, aa)))] [] w =
  if (w.1 12 aa 42) ≤ 0 then
    some (none, w)
  else
    nc_bd ((w.1 12 aa 42) - 1) 45 fun j1 =>
    if (w.1 907 aa j1) ≠ 20 then
      some (none, w)
    else
      nc_lt (nc_si w 12 aa 42 ((w.1 12 aa 42) - 1)) fun w2 =>
      nc_lt (nc_si w2 12 aa 43 ((w2.1 12 aa 43) - 1)) fun w3 =>
      nc_bV (nc_Call m_X12_code [.inr (.inr (12, aa)), .inl 20, .inl 0, .inl 0] w3) fun w4 =>
      nc_Run m_X12_nots 0 [some (.inr (.inr (12, aa)))] [] w4 :=
  (nc_Run_un [0] 31).trans rfl
set_option maxRecDepth 100000 in
theorem qc_X12_leafOf (aa : Nat) (w : nc_H) : nc_Call m_X12_leafOf [.inr (.inr (12, aa))] w =
  nc_bI (nc_Call m_X12_isWord [.inr (.inr (12, aa)), .inr (.inl 6582905)] w) fun r2 w1 =>
  if r2 = 0 then
    nc_bI (nc_Call m_X12_isWord [.inr (.inr (12, aa)), .inr (.inl 27995156865901924)] w1) fun r4 w3 =>
    if r4 = 0 then
      nc_bI (nc_Call m_X12_isWord [.inr (.inr (12, aa)), .inr (.inl 24948)] w3) fun r6 w5 =>
      if r6 = 0 then
        nc_bI (nc_Call m_X12_isWord [.inr (.inr (12, aa)), .inr (.inl 461414299507)] w5) fun r8 w7 =>
        if r8 = 0 then
          nc_bI (nc_Call m_X12_isWord [.inr (.inr (12, aa)), .inr (.inl 448377483876)] w7) fun r10 w9 =>
          if r10 = 0 then
            nc_bI (nc_Call m_X12_isWord [.inr (.inr (12, aa)), .inr (.inl 1835625579)] w9) fun r12 w11 =>
            if r12 = 0 then
              nc_bI (nc_Call m_X12_isWord [.inr (.inr (12, aa)), .inr (.inl 444150998382)] w11) fun r14 w13 =>
              if r14 = 0 then
                nc_bI (nc_Call m_X12_isWord [.inr (.inr (12, aa)), .inr (.inl 110429873534067)] w13) fun r16 w15 =>
                if r16 = 0 then
                  nc_bI (nc_Call m_X12_isWord [.inr (.inr (12, aa)), .inr (.inl 121450625394034)] w15) fun r18 w17 =>
                  if r18 = 0 then
                    some (some (.inl (-1)), w17)
                  else
                    some (some (.inl 8), w17)
                else
                  some (some (.inl 7), w15)
              else
                some (some (.inl 6), w13)
            else
              some (some (.inl 5), w11)
          else
            some (some (.inl 4), w9)
        else
          some (some (.inl 3), w7)
      else
        some (some (.inl 2), w5)
    else
      some (some (.inl 1), w3)
  else
    some (some (.inl 0), w1) :=
  (nc_Call_eq _ _ _).trans ((if_pos (Nat.le_of_ble_eq_true rfl)).trans ((nc_Run_un [] 39).trans rfl))
set_option maxRecDepth 100000 in
theorem qc_X12_operand (aa : Nat) (w : nc_H) : nc_Call m_X12_operand [.inr (.inr (12, aa))] w =
  nc_bI (nc_Call m_X12_isWord [.inr (.inr (12, aa)), .inr (.inl 7237492)] w) fun r2 w1 =>
  nc_bI (nc_Call m_X12_isSign [.inr (.inr (12, aa)), .inl 40] w1) fun r4 w3 =>
  nc_bI (nc_Call m_X12_leafOf [.inr (.inr (12, aa))] w3) fun r6 w5 =>
  if r2 ≠ 0 then
    nc_Run m_X12_operand 38 [some (.inr (.inr (12, aa))), some (.inl r2), some (.inl r4), some (.inl r6), none] [] w5
  else
    if r4 ≠ 0 then
      nc_Run m_X12_operand 38 [some (.inr (.inr (12, aa))), some (.inl r2), some (.inl r4), some (.inl r6), none] [] w5
    else
      if (0 : Int32) ≤ r6 then
        nc_Run m_X12_operand 38 [some (.inr (.inr (12, aa))), some (.inl r2), some (.inl r4), some (.inl r6), none] [] w5
      else
        nc_bI (nc_Call m_X12_bad [.inr (.inr (12, aa)), .inl 1] w5) fun r8 w7 =>
        nc_z r8 <| some (some (.inl r8), w7) :=
  (nc_Call_eq _ _ _).trans ((if_pos (Nat.le_of_ble_eq_true rfl)).trans ((nc_Run_un [38] 21).trans rfl))
set_option maxRecDepth 100000 in
theorem qr_X12_operand_38 (aa : Nat) (xb : Int32) (xc : Int32) (xd : Int32) (w : nc_H) : nc_Run m_X12_operand 38 [some (.inr (.inr (12, aa))), some (.inl xb), some (.inl xc), some (.inl xd), none] [] w =
  if (w.1 12 aa 41) = 20 then
    nc_bI (nc_Call m_X12_bad [.inr (.inr (12, aa)), .inl 4] w) fun r2 w1 =>
    nc_z r2 <| some (some (.inl r2), w1)
  else
    if (w.1 12 aa 43) ≤ 8 then
      nc_lt (nc_si w 12 aa 41 ((w.1 12 aa 41) + 1)) fun w3 =>
      nc_bV (nc_Call m_X12_next [.inr (.inr (12, aa))] w3) fun w4 =>
      if xb ≠ 0 then
        if xb = 0 then
          nc_bd (w4.1 12 aa 42) 45 fun j5 =>
          nc_lt (nc_si w4 907 aa j5 23) fun w6 =>
          nc_lt (nc_si w6 12 aa 42 ((w6.1 12 aa 42) + 1)) fun w7 =>
          nc_lt (nc_si w7 12 aa 43 ((w7.1 12 aa 43) + 1)) fun w8 =>
          some (some (.inl 1), w8)
        else
          nc_bd (w4.1 12 aa 42) 45 fun j9 =>
          nc_lt (nc_si w4 907 aa j9 20) fun w10 =>
          nc_lt (nc_si w10 12 aa 42 ((w10.1 12 aa 42) + 1)) fun w11 =>
          nc_lt (nc_si w11 12 aa 43 ((w11.1 12 aa 43) + 1)) fun w12 =>
          some (some (.inl 1), w12)
      else
        if xc = 0 then
          nc_lt (nc_si w4 12 aa 44 1) fun w13 =>
          if (2 : Int32) ≤ xd then
            if (5 : Int32) ≤ xd then
              if (w13.1 12 aa 11) ≠ 3 then
                nc_bI (nc_Call m_X12_bad [.inr (.inr (12, aa)), .inl 1] w13) fun r15 w14 =>
                nc_z r15 <| some (some (.inl r15), w14)
              else
                if (w13.1 12 aa 14) < 60 then
                  nc_bI (nc_Call m_X12_bad [.inr (.inr (12, aa)), .inl 1] w13) fun r17 w16 =>
                  nc_z r17 <| some (some (.inl r17), w16)
                else
                  if (w13.1 12 aa 14) ≤ 62 then
                    nc_li (w13.1 12 aa 14) fun x18 =>
                    nc_bV (nc_Call m_X12_next [.inr (.inr (12, aa))] w13) fun w19 =>
                    if (w19.1 12 aa 11) = 2 then
                      nc_bV (nc_Call m_X12_code [.inr (.inr (12, aa)), .inl xd, .inl x18, .inl (w19.1 12 aa 14)] w19) fun w20 =>
                      nc_bV (nc_Call m_X12_next [.inr (.inr (12, aa))] w20) fun w21 =>
                      some (some (.inl 1), w21)
                    else
                      nc_bI (nc_Call m_X12_bad [.inr (.inr (12, aa)), .inl 1] w19) fun r23 w22 =>
                      nc_z r23 <| some (some (.inl r23), w22)
                  else
                    nc_bI (nc_Call m_X12_bad [.inr (.inr (12, aa)), .inl 1] w13) fun r25 w24 =>
                    nc_z r25 <| some (some (.inl r25), w24)
            else
              if xd ≠ 2 then
                if xd ≠ 2 then
                  nc_bI (nc_Call m_X12_looksAt [.inr (.inr (12, aa)), .inl 12, .inl (w13.1 874 aa 2)] w13) fun r27 w26 =>
                  if r27 ≠ 0 then
                    nc_bV (nc_Call m_X12_code [.inr (.inr (12, aa)), .inl xd, .inl 0, .inl (w26.1 12 aa 18)] w26) fun w28 =>
                    nc_bV (nc_Call m_X12_next [.inr (.inr (12, aa))] w28) fun w29 =>
                    some (some (.inl 1), w29)
                  else
                    some (some (.inl 0), w26)
                else
                  nc_bI (nc_Call m_X12_looksAt [.inr (.inr (12, aa)), .inl 12, .inl (w13.1 874 aa 0)] w13) fun r31 w30 =>
                  if r31 ≠ 0 then
                    nc_bV (nc_Call m_X12_code [.inr (.inr (12, aa)), .inl xd, .inl 0, .inl (w30.1 12 aa 18)] w30) fun w32 =>
                    nc_bV (nc_Call m_X12_next [.inr (.inr (12, aa))] w32) fun w33 =>
                    some (some (.inl 1), w33)
                  else
                    some (some (.inl 0), w30)
              else
                if xd ≠ 2 then
                  nc_bI (nc_Call m_X12_looksAt [.inr (.inr (12, aa)), .inl 0, .inl (w13.1 874 aa 2)] w13) fun r35 w34 =>
                  if r35 ≠ 0 then
                    nc_bV (nc_Call m_X12_code [.inr (.inr (12, aa)), .inl xd, .inl 0, .inl (w34.1 12 aa 18)] w34) fun w36 =>
                    nc_bV (nc_Call m_X12_next [.inr (.inr (12, aa))] w36) fun w37 =>
                    some (some (.inl 1), w37)
                  else
                    some (some (.inl 0), w34)
                else
                  nc_bI (nc_Call m_X12_looksAt [.inr (.inr (12, aa)), .inl 0, .inl (w13.1 874 aa 0)] w13) fun r39 w38 =>
                  if r39 ≠ 0 then
                    nc_bV (nc_Call m_X12_code [.inr (.inr (12, aa)), .inl xd, .inl 0, .inl (w38.1 12 aa 18)] w38) fun w40 =>
                    nc_bV (nc_Call m_X12_next [.inr (.inr (12, aa))] w40) fun w41 =>
                    some (some (.inl 1), w41)
                  else
                    some (some (.inl 0), w38)
          else
            nc_bV (nc_Call m_X12_code [.inr (.inr (12, aa)), .inl xd, .inl 0, .inl 0] w13) fun w42 =>
            some (some (.inl 1), w42)
        else
          if xb = 0 then
            nc_bd (w4.1 12 aa 42) 45 fun j43 =>
            nc_lt (nc_si w4 907 aa j43 23) fun w44 =>
            nc_lt (nc_si w44 12 aa 42 ((w44.1 12 aa 42) + 1)) fun w45 =>
            nc_lt (nc_si w45 12 aa 43 ((w45.1 12 aa 43) + 1)) fun w46 =>
            some (some (.inl 1), w46)
          else
            nc_bd (w4.1 12 aa 42) 45 fun j47 =>
            nc_lt (nc_si w4 907 aa j47 20) fun w48 =>
            nc_lt (nc_si w48 12 aa 42 ((w48.1 12 aa 42) + 1)) fun w49 =>
            nc_lt (nc_si w49 12 aa 43 ((w49.1 12 aa 43) + 1)) fun w50 =>
            some (some (.inl 1), w50)
    else
      nc_bI (nc_Call m_X12_bad [.inr (.inr (12, aa)), .inl 4] w) fun r52 w51 =>
      nc_z r52 <| some (some (.inl r52), w51) :=
  (nc_Run_un [38] 60).trans rfl
set_option maxRecDepth 100000 in
theorem qc_X12_behind (aa : Nat) (w : nc_H) : nc_Call m_X12_behind [.inr (.inr (12, aa))] w =
  nc_bV (nc_Call m_X12_nots [.inr (.inr (12, aa))] w) fun w1 =>
  nc_bI (nc_Call m_X12_isWord [.inr (.inr (12, aa)), .inr (.inl 6385252)] w1) fun r3 w2 =>
  if r3 ≠ 0 then
    nc_bI (nc_Call m_X12_isWord [.inr (.inr (12, aa)), .inr (.inl 6385252)] w2) fun r5 w4 =>
    if r5 = 0 then
      nc_bV (nc_Call m_X12_joins [.inr (.inr (12, aa)), .inl 22] w4) fun w6 =>
      nc_bI (nc_Call m_X12_isWord [.inr (.inr (12, aa)), .inr (.inl 6385252)] w6) fun r8 w7 =>
      if r8 = 0 then
        nc_bd (w6.1 12 aa 42) 45 fun j9 =>
        nc_lt (nc_si w7 907 aa j9 22) fun w10 =>
        nc_lt (nc_si w10 12 aa 42 ((w10.1 12 aa 42) + 1)) fun w11 =>
        nc_lt (nc_si w11 12 aa 44 0) fun w12 =>
        nc_bV (nc_Call m_X12_next [.inr (.inr (12, aa))] w12) fun w13 =>
        some (some (.inl 1), w13)
      else
        nc_bd (w6.1 12 aa 42) 45 fun j14 =>
        nc_lt (nc_si w7 907 aa j14 21) fun w15 =>
        nc_lt (nc_si w15 12 aa 42 ((w15.1 12 aa 42) + 1)) fun w16 =>
        nc_lt (nc_si w16 12 aa 44 0) fun w17 =>
        nc_bV (nc_Call m_X12_next [.inr (.inr (12, aa))] w17) fun w18 =>
        some (some (.inl 1), w18)
    else
      nc_bV (nc_Call m_X12_joins [.inr (.inr (12, aa)), .inl 21] w4) fun w19 =>
      nc_bI (nc_Call m_X12_isWord [.inr (.inr (12, aa)), .inr (.inl 6385252)] w19) fun r21 w20 =>
      if r21 = 0 then
        nc_bd (w19.1 12 aa 42) 45 fun j22 =>
        nc_lt (nc_si w20 907 aa j22 22) fun w23 =>
        nc_lt (nc_si w23 12 aa 42 ((w23.1 12 aa 42) + 1)) fun w24 =>
        nc_lt (nc_si w24 12 aa 44 0) fun w25 =>
        nc_bV (nc_Call m_X12_next [.inr (.inr (12, aa))] w25) fun w26 =>
        some (some (.inl 1), w26)
      else
        nc_bd (w19.1 12 aa 42) 45 fun j27 =>
        nc_lt (nc_si w20 907 aa j27 21) fun w28 =>
        nc_lt (nc_si w28 12 aa 42 ((w28.1 12 aa 42) + 1)) fun w29 =>
        nc_lt (nc_si w29 12 aa 44 0) fun w30 =>
        nc_bV (nc_Call m_X12_next [.inr (.inr (12, aa))] w30) fun w31 =>
        some (some (.inl 1), w31)
  else
    nc_bI (nc_Call m_X12_isWord [.inr (.inr (12, aa)), .inr (.inl 28530)] w2) fun r33 w32 =>
    if r33 = 0 then
      nc_bV (nc_Call m_X12_joins [.inr (.inr (12, aa)), .inl 22] w32) fun w34 =>
      nc_bI (nc_Call m_X12_isSign [.inr (.inr (12, aa)), .inl 41] w34) fun r36 w35 =>
      if r36 = 0 then
        nc_bI (nc_Call m_X12_bad [.inr (.inr (12, aa)), .inl 1] w35) fun r38 w37 =>
        nc_z r38 <| some (some (.inl r38), w37)
      else
        if (w35.1 12 aa 42) ≠ 0 then
          nc_lt (nc_si w35 12 aa 42 ((w35.1 12 aa 42) - 1)) fun w39 =>
          nc_lt (nc_si w39 12 aa 43 ((w39.1 12 aa 43) - 1)) fun w40 =>
          nc_bV (nc_Call m_X12_next [.inr (.inr (12, aa))] w40) fun w41 =>
          some (some (.inl 1), w41)
        else
          nc_bI (nc_Call m_X12_bad [.inr (.inr (12, aa)), .inl 1] w35) fun r43 w42 =>
          nc_z r43 <| some (some (.inl r43), w42)
    else
      nc_bI (nc_Call m_X12_isWord [.inr (.inr (12, aa)), .inr (.inl 6385252)] w32) fun r45 w44 =>
      if r45 = 0 then
        nc_bV (nc_Call m_X12_joins [.inr (.inr (12, aa)), .inl 22] w44) fun w46 =>
        nc_bI (nc_Call m_X12_isWord [.inr (.inr (12, aa)), .inr (.inl 6385252)] w46) fun r48 w47 =>
        if r48 = 0 then
          nc_bd (w46.1 12 aa 42) 45 fun j49 =>
          nc_lt (nc_si w47 907 aa j49 22) fun w50 =>
          nc_lt (nc_si w50 12 aa 42 ((w50.1 12 aa 42) + 1)) fun w51 =>
          nc_lt (nc_si w51 12 aa 44 0) fun w52 =>
          nc_bV (nc_Call m_X12_next [.inr (.inr (12, aa))] w52) fun w53 =>
          some (some (.inl 1), w53)
        else
          nc_bd (w46.1 12 aa 42) 45 fun j54 =>
          nc_lt (nc_si w47 907 aa j54 21) fun w55 =>
          nc_lt (nc_si w55 12 aa 42 ((w55.1 12 aa 42) + 1)) fun w56 =>
          nc_lt (nc_si w56 12 aa 44 0) fun w57 =>
          nc_bV (nc_Call m_X12_next [.inr (.inr (12, aa))] w57) fun w58 =>
          some (some (.inl 1), w58)
      else
        nc_bV (nc_Call m_X12_joins [.inr (.inr (12, aa)), .inl 21] w44) fun w59 =>
        nc_bI (nc_Call m_X12_isWord [.inr (.inr (12, aa)), .inr (.inl 6385252)] w59) fun r61 w60 =>
        if r61 = 0 then
          nc_bd (w59.1 12 aa 42) 45 fun j62 =>
          nc_lt (nc_si w60 907 aa j62 22) fun w63 =>
          nc_lt (nc_si w63 12 aa 42 ((w63.1 12 aa 42) + 1)) fun w64 =>
          nc_lt (nc_si w64 12 aa 44 0) fun w65 =>
          nc_bV (nc_Call m_X12_next [.inr (.inr (12, aa))] w65) fun w66 =>
          some (some (.inl 1), w66)
        else
          nc_bd (w59.1 12 aa 42) 45 fun j67 =>
          nc_lt (nc_si w60 907 aa j67 21) fun w68 =>
          nc_lt (nc_si w68 12 aa 42 ((w68.1 12 aa 42) + 1)) fun w69 =>
          nc_lt (nc_si w69 12 aa 44 0) fun w70 =>
          nc_bV (nc_Call m_X12_next [.inr (.inr (12, aa))] w70) fun w71 =>
          some (some (.inl 1), w71) :=
  (nc_Call_eq _ _ _).trans ((if_pos (Nat.le_of_ble_eq_true rfl)).trans ((nc_Run_un [] 42).trans rfl))
set_option maxRecDepth 100000 in
theorem qc_X12_sentence (aa : Nat) (w : nc_H) : nc_Call m_X12_sentence [.inr (.inr (12, aa))] w =
  nc_lt (nc_si w 12 aa 0 0) fun w1 =>
  nc_bV (nc_Call m_X12_taken [.inr (.inr (12, aa)), .inl 200] w1) fun w2 =>
  nc_lt (nc_si w2 12 aa 15 0) fun w3 =>
  nc_lt (nc_si w3 12 aa 40 0) fun w4 =>
  nc_lt (nc_si w4 12 aa 41 0) fun w5 =>
  nc_lt (nc_si w5 12 aa 42 0) fun w6 =>
  nc_lt (nc_si w6 12 aa 43 1) fun w7 =>
  nc_lt (nc_si w7 12 aa 44 0) fun w8 =>
  nc_bV (nc_Call m_X12_next [.inr (.inr (12, aa))] w8) fun w9 =>
  nc_Run m_X12_sentence 48 [some (.inr (.inr (12, aa))), some (.inl 1), none] [] w9 :=
  (nc_Call_eq _ _ _).trans ((if_pos (Nat.le_of_ble_eq_true rfl)).trans ((nc_Run_un [48, 146] 29).trans rfl))
set_option maxRecDepth 100000 in
theorem qr_X12_sentence_48 (aa : Nat) (xb : Int32) (w : nc_H) : nc_Run m_X12_sentence 48 [some (.inr (.inr (12, aa))), some (.inl xb), none] [] w =
  if xb = 0 then
    nc_lt (nc_si w 874 aa 332 (w.1 12 aa 40)) fun w1 =>
    nc_Run m_X12_sentence 146 [some (.inr (.inr (12, aa))), none, some (.inl 0)] [] w1
  else
    if (w.1 12 aa 44) = 0 then
      if (w.1 12 aa 44) = 0 then
        nc_bI (nc_Call m_X12_operand [.inr (.inr (12, aa))] w) fun r3 w2 =>
        if r3 ≠ 0 then
          nc_Run m_X12_sentence 48 [some (.inr (.inr (12, aa))), some (.inl xb), none] [] w2
        else
          some (some (.inl ((-1) - (w2.1 12 aa 16))), w2)
      else
        nc_bI (nc_Call m_X12_behind [.inr (.inr (12, aa))] w) fun r5 w4 =>
        if r5 ≠ 0 then
          nc_Run m_X12_sentence 48 [some (.inr (.inr (12, aa))), some (.inl xb), none] [] w4
        else
          some (some (.inl ((-1) - (w4.1 12 aa 16))), w4)
    else
      if (w.1 12 aa 11) ≠ 0 then
        if (w.1 12 aa 44) = 0 then
          nc_bI (nc_Call m_X12_operand [.inr (.inr (12, aa))] w) fun r7 w6 =>
          if r7 ≠ 0 then
            nc_Run m_X12_sentence 48 [some (.inr (.inr (12, aa))), some (.inl xb), none] [] w6
          else
            some (some (.inl ((-1) - (w6.1 12 aa 16))), w6)
        else
          nc_bI (nc_Call m_X12_behind [.inr (.inr (12, aa))] w) fun r9 w8 =>
          if r9 ≠ 0 then
            nc_Run m_X12_sentence 48 [some (.inr (.inr (12, aa))), some (.inl xb), none] [] w8
          else
            some (some (.inl ((-1) - (w8.1 12 aa 16))), w8)
      else
        nc_bV (nc_Call m_X12_nots [.inr (.inr (12, aa))] w) fun w10 =>
        nc_bV (nc_Call m_X12_joins [.inr (.inr (12, aa)), .inl 22] w10) fun w11 =>
        if (w11.1 12 aa 42) ≤ 0 then
          nc_Run m_X12_sentence 48 [some (.inr (.inr (12, aa))), some (.inl 0), none] [] w11
        else
          nc_bI (nc_Call m_X12_bad [.inr (.inr (12, aa)), .inl 1] w11) fun r13 w12 =>
          some (some (.inl ((-1) - (w12.1 12 aa 16))), w12) :=
  (nc_Run_un [48, 146] 25).trans rfl
set_option maxRecDepth 100000 in
theorem qr_X12_sentence_146 (aa : Nat) (xc : Int32) (w : nc_H) : nc_Run m_X12_sentence 146 [some (.inr (.inr (12, aa))), none, some (.inl xc)] [] w =
  if (3 * (w.1 12 aa 40)) ≤ xc then
    some (some (.inl (w.1 12 aa 41)), w)
  else
    nc_bd xc 135 fun j1 =>
    nc_bd (333 + xc) 513 fun j2 =>
    nc_lt (nc_si w 874 aa j2 (w.1 876 aa j1)) fun w3 =>
    nc_li (xc + 1) fun x4 =>
    nc_Run m_X12_sentence 146 [some (.inr (.inr (12, aa))), none, some (.inl x4)] [] w3 :=
  (nc_Run_un [48, 146] 19).trans rfl
set_option maxRecDepth 100000 in
theorem qc_X12_isLeaf (aa : Nat) (xb : Int32) (xc : Int32) (xd : Int32) (xe : Int32) (w : nc_H) : nc_Call m_X12_isLeaf [.inr (.inr (12, aa)), .inl xb, .inl xc, .inl xd, .inl xe] w =
  if xc = 0 then
    nc_bI (nc_Call m_X12_isDry [.inr (.inr (12, aa)), .inl xb] w) fun r2 w1 =>
    nc_z r2 <| some (some (.inl r2), w1)
  else
  if xc = 1 then
    nc_bI (nc_Call m_X12_isCurdled [.inr (.inr (12, aa)), .inl xb] w) fun r4 w3 =>
    nc_z r4 <| some (some (.inl r4), w3)
  else
  if xc = 2 then
    nc_bd (5 + xb) 513 fun j5 =>
    if (w.1 874 aa j5) ≠ xe then
      some (some (.inl 0), w)
    else
      some (some (.inl 1), w)
  else
  if xc = 3 then
    nc_bI (nc_Call m_X12_knows [.inr (.inr (12, aa)), .inl xb, .inl xe] w) fun r7 w6 =>
    nc_z r7 <| some (some (.inl r7), w6)
  else
  if xc = 4 then
    nc_bd (100 + xb) 513 fun j8 =>
    nc_bI (nc_Call m_X12_bitOf [.inl (w.1 874 aa j8), .inl xe] w) fun r10 w9 =>
    nc_z r10 <| some (some (.inl r10), w9)
  else
    if xc ≠ 5 then
      if xc ≠ 6 then
        if xc ≠ 7 then
          if xd ≠ 60 then
            if xd ≠ 61 then
              if xb ≤ xe then
                some (some (.inl 0), w)
              else
                some (some (.inl 1), w)
            else
              if xb ≠ xe then
                some (some (.inl 0), w)
              else
                some (some (.inl 1), w)
          else
            if xe ≤ xb then
              some (some (.inl 0), w)
            else
              some (some (.inl 1), w)
        else
          nc_bd (79 + xb) 513 fun j11 =>
          nc_li (w.1 874 aa j11) fun x12 =>
          if xd ≠ 60 then
            if xd ≠ 61 then
              if x12 ≤ xe then
                some (some (.inl 0), w)
              else
                some (some (.inl 1), w)
            else
              if x12 ≠ xe then
                some (some (.inl 0), w)
              else
                some (some (.inl 1), w)
          else
            if xe ≤ x12 then
              some (some (.inl 0), w)
            else
              some (some (.inl 1), w)
      else
        nc_bd (87 + xb) 513 fun j13 =>
        nc_li (w.1 874 aa j13) fun x14 =>
        if xd ≠ 60 then
          if xd ≠ 61 then
            if x14 ≤ xe then
              some (some (.inl 0), w)
            else
              some (some (.inl 1), w)
          else
            if x14 ≠ xe then
              some (some (.inl 0), w)
            else
              some (some (.inl 1), w)
        else
          if xe ≤ x14 then
            some (some (.inl 0), w)
          else
            some (some (.inl 1), w)
    else
      nc_bI (nc_Call m_X12_milk [.inr (.inr (12, aa)), .inl xb] w) fun r16 w15 =>
      if xd ≠ 60 then
        if xd ≠ 61 then
          if r16 ≤ xe then
            some (some (.inl 0), w15)
          else
            some (some (.inl 1), w15)
        else
          if r16 ≠ xe then
            some (some (.inl 0), w15)
          else
            some (some (.inl 1), w15)
      else
        if xe ≤ r16 then
          some (some (.inl 0), w15)
        else
          some (some (.inl 1), w15) :=
  (nc_Call_eq _ _ _).trans ((if_pos (Nat.le_of_ble_eq_true rfl)).trans ((nc_Run_un [] 31).trans rfl))
set_option maxRecDepth 100000 in
theorem qc_X12_isSaid (aa : Nat) (xb : Int32) (w : nc_H) : nc_Call m_X12_isSaid [.inr (.inr (12, aa)), .inl xb] w =
  nc_Run m_X12_isSaid 4 [some (.inr (.inr (12, aa))), some (.inl xb), some (.inl 0), some (.inl 0), none] [] w :=
  (nc_Call_eq _ _ _).trans ((if_pos (Nat.le_of_ble_eq_true rfl)).trans ((nc_Run_un [4, 88] 5).trans rfl))
set_option maxRecDepth 100000 in
theorem qr_X12_isSaid_4 (aa : Nat) (xb : Int32) (xc : Int32) (xd : Int32) (w : nc_H) : nc_Run m_X12_isSaid 4 [some (.inr (.inr (12, aa))), some (.inl xb), some (.inl xc), some (.inl xd), none] [] w =
  if (w.1 874 aa 332) ≤ xd then
    nc_z (w.1 913 aa 0) <| some (some (.inl (w.1 913 aa 0)), w)
  else
    nc_li (333 + (3 * xd)) fun x1 =>
    nc_bd x1 513 fun j2 =>
    if (w.1 874 aa j2) ≠ 20 then
      nc_bd x1 513 fun j3 =>
      if (w.1 874 aa j3) = 21 then
        nc_Run m_X12_isSaid 88 [some (.inr (.inr (12, aa))), some (.inl xb), some (.inl xc), some (.inl xd), some (.inl x1)] [] w
      else
        nc_bd x1 513 fun j4 =>
        if (w.1 874 aa j4) ≠ 22 then
          nc_bd x1 513 fun j5 =>
          nc_bd (x1 + 1) 513 fun j6 =>
          nc_bd (x1 + 2) 513 fun j7 =>
          nc_bI (nc_Call m_X12_isLeaf [.inr (.inr (12, aa)), .inl xb, .inl (w.1 874 aa j5), .inl (w.1 874 aa j6), .inl (w.1 874 aa j7)] w) fun r9 w8 =>
          nc_bd xc 45 fun j10 =>
          nc_z r9 <|
          nc_lt (nc_si w8 913 aa j10 r9) fun w11 =>
          nc_li (xc + 1) fun x12 =>
          nc_li (xd + 1) fun x13 =>
          nc_Run m_X12_isSaid 4 [some (.inr (.inr (12, aa))), some (.inl xb), some (.inl x12), some (.inl x13), none] [] w11
        else
          nc_Run m_X12_isSaid 88 [some (.inr (.inr (12, aa))), some (.inl xb), some (.inl xc), some (.inl xd), some (.inl x1)] [] w
    else
      nc_bd (xc - 1) 45 fun j14 =>
      if (w.1 913 aa j14) ≠ 0 then
        nc_bd (xc - 1) 45 fun j15 =>
        nc_lt (nc_si w 913 aa j15 0) fun w16 =>
        nc_li (xd + 1) fun x17 =>
        nc_Run m_X12_isSaid 4 [some (.inr (.inr (12, aa))), some (.inl xb), some (.inl xc), some (.inl x17), none] [] w16
      else
        nc_bd (xc - 1) 45 fun j18 =>
        nc_lt (nc_si w 913 aa j18 1) fun w19 =>
        nc_li (xd + 1) fun x20 =>
        nc_Run m_X12_isSaid 4 [some (.inr (.inr (12, aa))), some (.inl xb), some (.inl xc), some (.inl x20), none] [] w19 :=
  (nc_Run_un [4, 88] 57).trans rfl
set_option maxRecDepth 100000 in
theorem qc_X12_said (aa : Nat) (xb : Int32) (w : nc_H) : nc_Call m_X12_said [.inr (.inr (12, aa)), .inl xb] w =
  nc_lt (nc_si w 12 aa 0 0) fun w1 =>
  if (w1.1 874 aa 332) = 0 then
    some (some (.inl (-1)), w1)
  else
    if (-1 : Int32) ≤ xb then
      nc_Run m_X12_said 27 [some (.inr (.inr (12, aa))), some (.inl xb), some (.inl 0), some (.inl 0)] [] w1
    else
      some (some (.inl (-1)), w1) :=
  (nc_Call_eq _ _ _).trans ((if_pos (Nat.le_of_ble_eq_true rfl)).trans ((nc_Run_un [27] 16).trans rfl))
set_option maxRecDepth 100000 in
theorem qr_X12_said_27 (aa : Nat) (xb : Int32) (xc : Int32) (xd : Int32) (w : nc_H) : nc_Run m_X12_said 27 [some (.inr (.inr (12, aa))), some (.inl xb), some (.inl xc), some (.inl xd)] [] w =
  if (w.1 874 aa 1) ≤ xd then
    if xb ≠ (-1) then
      some (some (.inl (-1)), w)
    else
      some (some (.inl xc), w)
  else
    nc_bI (nc_Call m_X12_isSaid [.inr (.inr (12, aa)), .inl xd] w) fun r2 w1 =>
    if r2 ≠ 0 then
      if xc ≠ xb then
        nc_li (xc + 1) fun x3 =>
        nc_li (xd + 1) fun x4 =>
        nc_Run m_X12_said 27 [some (.inr (.inr (12, aa))), some (.inl xb), some (.inl x3), some (.inl x4)] [] w1
      else
        some (some (.inl xd), w1)
    else
      nc_li (xd + 1) fun x5 =>
      nc_Run m_X12_said 27 [some (.inr (.inr (12, aa))), some (.inl xb), some (.inl xc), some (.inl x5)] [] w1 :=
  (nc_Run_un [27] 17).trans rfl
set_option maxRecDepth 100000 in
theorem qc_X12_image (aa : Nat) (xb : Int32) (w : nc_H) : nc_Call m_X12_image [.inr (.inr (12, aa)), .inl xb] w =
  nc_lt (nc_si w 12 aa 0 0) fun w1 =>
  nc_bI (nc_Call m_X12_isIn [.inl xb, .inl 0, .inl 1] w1) fun r3 w2 =>
  if r3 ≠ 0 then
    nc_Run m_X12_image 18 [some (.inr (.inr (12, aa))), some (.inl xb), some (.inl 0)] [] w2
  else
    some (some (.inl 0), w2) :=
  (nc_Call_eq _ _ _).trans ((if_pos (Nat.le_of_ble_eq_true rfl)).trans ((nc_Run_un [18, 51] 11).trans rfl))
set_option maxRecDepth 100000 in
theorem qr_X12_image_18 (aa : Nat) (xb : Int32) (xc : Int32) (w : nc_H) : nc_Run m_X12_image 18 [some (.inr (.inr (12, aa))), some (.inl xb), some (.inl xc)] [] w =
  if (513 : Int32) ≤ xc then
    nc_Run m_X12_image 51 [some (.inr (.inr (12, aa))), some (.inl xb), some (.inl 0)] [] w
  else
    nc_bd xc 513 fun j1 =>
    nc_bd ((513 * xb) + xc) 1026 fun j2 =>
    nc_lt (nc_si w 914 aa j2 (w.1 874 aa j1)) fun w3 =>
    nc_li (xc + 1) fun x4 =>
    nc_Run m_X12_image 18 [some (.inr (.inr (12, aa))), some (.inl xb), some (.inl x4)] [] w3 :=
  (nc_Run_un [18, 51] 18).trans rfl
set_option maxRecDepth 100000 in
theorem qr_X12_image_51 (aa : Nat) (xb : Int32) (xc : Int32) (w : nc_H) : nc_Run m_X12_image 51 [some (.inr (.inr (12, aa))), some (.inl xb), some (.inl xc)] [] w =
  if (22 : Int32) ≤ xc then
    nc_bd xb 2 fun j1 =>
    nc_lt (nc_si w 916 aa j1 1) fun w2 =>
    some (some (.inl 1), w2)
  else
    nc_bd xc 44 fun j3 =>
    nc_bd ((22 * xb) + xc) 44 fun j4 =>
    nc_lt (nc_sl w 915 aa j4 (w.2 877 aa j3)) fun w5 =>
    nc_li (xc + 1) fun x6 =>
    nc_Run m_X12_image 51 [some (.inr (.inr (12, aa))), some (.inl xb), some (.inl x6)] [] w5 :=
  (nc_Run_un [18, 51] 18).trans rfl
set_option maxRecDepth 100000 in
theorem qc_X12_restore (aa : Nat) (xb : Int32) (w : nc_H) : nc_Call m_X12_restore [.inr (.inr (12, aa)), .inl xb] w =
  nc_lt (nc_si w 12 aa 0 0) fun w1 =>
  nc_bI (nc_Call m_X12_isIn [.inl xb, .inl 0, .inl 1] w1) fun r3 w2 =>
  if r3 = 0 then
    some (some (.inl 0), w2)
  else
    nc_bd xb 2 fun j4 =>
    if (w2.1 916 aa j4) ≠ 0 then
      nc_Run m_X12_restore 27 [some (.inr (.inr (12, aa))), some (.inl xb), some (.inl 0)] [] w2
    else
      some (some (.inl 0), w2) :=
  (nc_Call_eq _ _ _).trans ((if_pos (Nat.le_of_ble_eq_true rfl)).trans ((nc_Run_un [27, 60] 16).trans rfl))
set_option maxRecDepth 100000 in
theorem qr_X12_restore_27 (aa : Nat) (xb : Int32) (xc : Int32) (w : nc_H) : nc_Run m_X12_restore 27 [some (.inr (.inr (12, aa))), some (.inl xb), some (.inl xc)] [] w =
  if (513 : Int32) ≤ xc then
    nc_Run m_X12_restore 60 [some (.inr (.inr (12, aa))), some (.inl xb), some (.inl 0)] [] w
  else
    nc_bd ((513 * xb) + xc) 1026 fun j1 =>
    nc_bd xc 513 fun j2 =>
    nc_lt (nc_si w 874 aa j2 (w.1 914 aa j1)) fun w3 =>
    nc_li (xc + 1) fun x4 =>
    nc_Run m_X12_restore 27 [some (.inr (.inr (12, aa))), some (.inl xb), some (.inl x4)] [] w3 :=
  (nc_Run_un [27, 60] 18).trans rfl
set_option maxRecDepth 100000 in
theorem qr_X12_restore_60 (aa : Nat) (xb : Int32) (xc : Int32) (w : nc_H) : nc_Run m_X12_restore 60 [some (.inr (.inr (12, aa))), some (.inl xb), some (.inl xc)] [] w =
  if (22 : Int32) ≤ xc then
    nc_lt (nc_si w 12 aa 24 0) fun w1 =>
    some (some (.inl 1), w1)
  else
    nc_bd ((22 * xb) + xc) 44 fun j2 =>
    nc_bd xc 44 fun j3 =>
    nc_lt (nc_sl w 877 aa j3 (w.2 915 aa j2)) fun w4 =>
    nc_li (xc + 1) fun x5 =>
    nc_Run m_X12_restore 60 [some (.inr (.inr (12, aa))), some (.inl xb), some (.inl x5)] [] w4 :=
  (nc_Run_un [27, 60] 18).trans rfl
set_option maxRecDepth 100000 in
theorem qc_X12_count (aa : Nat) (xb : Int32) (w : nc_H) : nc_Call m_X12_count [.inr (.inr (12, aa)), .inl xb] w =
  nc_lt (nc_si w 12 aa 0 0) fun w1 =>
  if xb ≠ 5 then
    nc_bI (nc_Call m_X12_isIn [.inl xb, .inl 0, .inl 4] w1) fun r3 w2 =>
    if r3 = 0 then
      some (some (.inl (-1)), w2)
    else
      nc_bd xb 513 fun j4 =>
      some (some (.inl (w2.1 874 aa j4)), w2)
  else
    some (some (.inl (w1.1 12 aa 2)), w1) :=
  (nc_Call_eq _ _ _).trans ((if_pos (Nat.le_of_ble_eq_true rfl)).trans ((nc_Run_un [] 17).trans rfl))
