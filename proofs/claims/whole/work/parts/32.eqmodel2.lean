set_option maxRecDepth 100000 in
theorem qr_X12_milkBy_90 (aa : Nat) (xb : Int32) (xc : Int32) (xd : Int32) (xe : Int32) (xf : Int32) (xg : Int32) (za : Int32) (w : nc_H) : nc_Run m_X12_milkBy 90 [some (.inr (.inr (12, aa))), some (.inl xb), some (.inl xc), some (.inl xd), some (.inl xe), some (.inl xf), some (.inl xg), none] [.inl za] w =
  nc_Run m_X12_milkBy 91 [some (.inr (.inr (12, aa))), some (.inl xb), some (.inl xc), some (.inl xd), some (.inl xe), some (.inl xf), some (.inl xg), none] [.inl 0, .inl za] w :=
  (nc_Run_un [14, 90, 91, 116] 2).trans rfl
set_option maxRecDepth 100000 in
theorem qr_X12_milkBy_91 (aa : Nat) (xb : Int32) (xc : Int32) (xd : Int32) (xe : Int32) (xf : Int32) (xg : Int32) (za : Int32) (zb : Int32) (w : nc_H) : nc_Run m_X12_milkBy 91 [some (.inr (.inr (12, aa))), some (.inl xb), some (.inl xc), some (.inl xd), some (.inl xe), some (.inl xf), some (.inl xg), none] [.inl za, .inl zb] w =
  nc_li (zb + za) fun x1 =>
  if xg ≠ 1 then
    nc_Run m_X12_milkBy 116 [some (.inr (.inr (12, aa))), some (.inl xb), some (.inl xc), some (.inl xd), some (.inl xe), some (.inl xf), some (.inl xg), some (.inl x1)] [] w
  else
    nc_bI (nc_Call m_X12_hasOther [.inr (.inr (12, aa)), .inl xb, .inl xf] w) fun r3 w2 =>
    if r3 = 0 then
      nc_Run m_X12_milkBy 116 [some (.inr (.inr (12, aa))), some (.inl xb), some (.inl xc), some (.inl xd), some (.inl xe), some (.inl xf), some (.inl xg), some (.inl x1)] [] w2
    else
      nc_li (x1 * 2) fun x4 =>
      nc_Run m_X12_milkBy 116 [some (.inr (.inr (12, aa))), some (.inl xb), some (.inl xc), some (.inl xd), some (.inl xe), some (.inl xf), some (.inl xg), some (.inl x4)] [] w2 :=
  (nc_Run_un [14, 90, 91, 116] 15).trans rfl
set_option maxRecDepth 100000 in
theorem qr_X12_milkBy_116 (aa : Nat) (xb : Int32) (xc : Int32) (xd : Int32) (xe : Int32) (xf : Int32) (xg : Int32) (xh : Int32) (w : nc_H) : nc_Run m_X12_milkBy 116 [some (.inr (.inr (12, aa))), some (.inl xb), some (.inl xc), some (.inl xd), some (.inl xe), some (.inl xf), some (.inl xg), some (.inl xh)] [] w =
  nc_bI (nc_Call m_X12_bitOf [.inl xd, .inl xf] w) fun r2 w1 =>
  if r2 = 0 then
    nc_li (xe + xh) fun x3 =>
    if xg ≠ 3 then
      nc_li (xf + 1) fun x4 =>
      nc_Run m_X12_milkBy 14 [some (.inr (.inr (12, aa))), some (.inl xb), some (.inl xc), some (.inl xd), some (.inl x3), some (.inl x4), none, none] [] w1
    else
      nc_bd (116 + xb) 513 fun j5 =>
      nc_bI (nc_Call m_X12_bitOf [.inl (w1.1 874 aa j5), .inl xf] w1) fun r7 w6 =>
      if r7 = 0 then
        nc_li (xf + 1) fun x8 =>
        nc_Run m_X12_milkBy 14 [some (.inr (.inr (12, aa))), some (.inl xb), some (.inl xc), some (.inl xd), some (.inl x3), some (.inl x8), none, none] [] w6
      else
        nc_bI (nc_Call m_X12_isLie [.inr (.inr (12, aa)), .inl xf] w6) fun r10 w9 =>
        if r10 = 0 then
          nc_bd (47 + xf) 513 fun j11 =>
          nc_li (x3 + (w9.1 874 aa j11)) fun x12 =>
          nc_li (xf + 1) fun x13 =>
          nc_Run m_X12_milkBy 14 [some (.inr (.inr (12, aa))), some (.inl xb), some (.inl xc), some (.inl xd), some (.inl x12), some (.inl x13), none, none] [] w9
        else
          nc_bd (47 + xf) 513 fun j14 =>
          nc_li (x3 + (-(w9.1 874 aa j14))) fun x15 =>
          nc_li (xf + 1) fun x16 =>
          nc_Run m_X12_milkBy 14 [some (.inr (.inr (12, aa))), some (.inl xb), some (.inl xc), some (.inl xd), some (.inl x15), some (.inl x16), none, none] [] w9
  else
    nc_li (xe + (xh / 2)) fun x17 =>
    if xg ≠ 3 then
      nc_li (xf + 1) fun x18 =>
      nc_Run m_X12_milkBy 14 [some (.inr (.inr (12, aa))), some (.inl xb), some (.inl xc), some (.inl xd), some (.inl x17), some (.inl x18), none, none] [] w1
    else
      nc_bd (116 + xb) 513 fun j19 =>
      nc_bI (nc_Call m_X12_bitOf [.inl (w1.1 874 aa j19), .inl xf] w1) fun r21 w20 =>
      if r21 = 0 then
        nc_li (xf + 1) fun x22 =>
        nc_Run m_X12_milkBy 14 [some (.inr (.inr (12, aa))), some (.inl xb), some (.inl xc), some (.inl xd), some (.inl x17), some (.inl x22), none, none] [] w20
      else
        nc_bI (nc_Call m_X12_isLie [.inr (.inr (12, aa)), .inl xf] w20) fun r24 w23 =>
        if r24 = 0 then
          nc_bd (47 + xf) 513 fun j25 =>
          nc_li (x17 + (w23.1 874 aa j25)) fun x26 =>
          nc_li (xf + 1) fun x27 =>
          nc_Run m_X12_milkBy 14 [some (.inr (.inr (12, aa))), some (.inl xb), some (.inl xc), some (.inl xd), some (.inl x26), some (.inl x27), none, none] [] w23
        else
          nc_bd (47 + xf) 513 fun j28 =>
          nc_li (x17 + (-(w23.1 874 aa j28))) fun x29 =>
          nc_li (xf + 1) fun x30 =>
          nc_Run m_X12_milkBy 14 [some (.inr (.inr (12, aa))), some (.inl xb), some (.inl xc), some (.inl xd), some (.inl x29), some (.inl x30), none, none] [] w23 :=
  (nc_Run_un [14, 90, 91, 116] 41).trans rfl
set_option maxRecDepth 100000 in
theorem qc_X12_milkWith (aa : Nat) (xb : Int32) (xc : Int32) (w : nc_H) : nc_Call m_X12_milkWith [.inr (.inr (12, aa)), .inl xb, .inl xc] w =
  nc_bI (nc_Call m_X12_isDry [.inr (.inr (12, aa)), .inl xb] w) fun r2 w1 =>
  if r2 ≠ 0 then
    some (some (.inl 0), w1)
  else
    nc_bI (nc_Call m_X12_isCurdled [.inr (.inr (12, aa)), .inl xb] w1) fun r4 w3 =>
    if r4 = 0 then
      nc_Run m_X12_milkWith 20 [some (.inr (.inr (12, aa))), some (.inl xb), some (.inl xc), some (.inl 0)] [] w3
    else
      some (some (.inl 0), w3) :=
  (nc_Call_eq _ _ _).trans ((if_pos (Nat.le_of_ble_eq_true rfl)).trans ((nc_Run_un [20] 11).trans rfl))
set_option maxRecDepth 100000 in
theorem qr_X12_milkWith_20 (aa : Nat) (xb : Int32) (xc : Int32) (xd : Int32) (w : nc_H) : nc_Run m_X12_milkWith 20 [some (.inr (.inr (12, aa))), some (.inl xb), some (.inl xc), some (.inl xd)] [] w =
  if (w.1 874 aa 2) ≤ xd then
    nc_bd (100 + xb) 513 fun j1 =>
    nc_bd (108 + xb) 513 fun j2 =>
    nc_bI (nc_Call m_X12_known [.inr (.inr (12, aa)), .inl xb] w) fun r4 w3 =>
    nc_bI (nc_Call m_X12_milkBy [.inr (.inr (12, aa)), .inl xb, .inl ((w.1 874 aa j1) ||| xc), .inl ((w.1 874 aa j2) ||| (xc &&& r4))] w3) fun r6 w5 =>
    some (some (.inl r6), w5)
  else
    nc_bI (nc_Call m_X12_bitOf [.inl xc, .inl xd] w) fun r8 w7 =>
    if r8 = 0 then
      nc_li (xd + 1) fun x9 =>
      nc_Run m_X12_milkWith 20 [some (.inr (.inr (12, aa))), some (.inl xb), some (.inl xc), some (.inl x9)] [] w7
    else
      nc_bd (37 + xd) 513 fun j10 =>
      if (w7.1 874 aa j10) ≠ 2 then
        nc_li (xd + 1) fun x11 =>
        nc_Run m_X12_milkWith 20 [some (.inr (.inr (12, aa))), some (.inl xb), some (.inl xc), some (.inl x11)] [] w7
      else
        some (some (.inl 0), w7) :=
  (nc_Run_un [20] 30).trans rfl
set_option maxRecDepth 100000 in
theorem qc_X12_milk (aa : Nat) (xb : Int32) (w : nc_H) : nc_Call m_X12_milk [.inr (.inr (12, aa)), .inl xb] w =
  nc_bI (nc_Call m_X12_milkWith [.inr (.inr (12, aa)), .inl xb, .inl 0] w) fun r2 w1 =>
  some (some (.inl r2), w1) :=
  (nc_Call_eq _ _ _).trans ((if_pos (Nat.le_of_ble_eq_true rfl)).trans ((nc_Run_un [] 5).trans rfl))
set_option maxRecDepth 100000 in
theorem qc_X12_cow (aa : Nat) (xb : Int32) (xc : Int32) (w : nc_H) : nc_Call m_X12_cow [.inr (.inr (12, aa)), .inl xb, .inl xc] w =
  nc_bI (nc_Call m_X12_isCow [.inr (.inr (12, aa)), .inl xb] w) fun r2 w1 =>
  if r2 = 0 then
    nc_bI (nc_Call m_X12_throwsIf [.inr (.inr (12, aa)), .inl 1] w1) fun r4 w3 =>
    if r4 = 0 then
      if xc = 0 then
        nc_bd (5 + xb) 513 fun j5 =>
        some (some (.inl (w3.1 874 aa j5)), w3)
      else
      if xc = 1 then
        nc_bI (nc_Call m_X12_isDry [.inr (.inr (12, aa)), .inl xb] w3) fun r7 w6 =>
        if r7 = 0 then
          some (some (.inl 0), w6)
        else
          some (some (.inl 1), w6)
      else
      if xc = 2 then
        nc_bI (nc_Call m_X12_isCurdled [.inr (.inr (12, aa)), .inl xb] w3) fun r9 w8 =>
        if r9 = 0 then
          some (some (.inl 0), w8)
        else
          some (some (.inl 1), w8)
      else
      if xc = 3 then
        nc_bd (79 + xb) 513 fun j10 =>
        some (some (.inl (w3.1 874 aa j10)), w3)
      else
      if xc = 4 then
        nc_bd (100 + xb) 513 fun j11 =>
        some (some (.inl (w3.1 874 aa j11)), w3)
      else
      if xc = 5 then
        nc_bI (nc_Call m_X12_known [.inr (.inr (12, aa)), .inl xb] w3) fun r13 w12 =>
        some (some (.inl r13), w12)
      else
      if xc = 6 then
        nc_bI (nc_Call m_X12_milk [.inr (.inr (12, aa)), .inl xb] w3) fun r15 w14 =>
        some (some (.inl r15), w14)
      else
        nc_bd (87 + xb) 513 fun j16 =>
        some (some (.inl (w3.1 874 aa j16)), w3)
    else
      some (some (.inl 0), w3)
  else
    nc_bI (nc_Call m_X12_isIn [.inl xc, .inl 0, .inl 7] w1) fun r18 w17 =>
    if r18 ≠ 0 then
      nc_bI (nc_Call m_X12_throwsIf [.inr (.inr (12, aa)), .inl 0] w17) fun r20 w19 =>
      if r20 = 0 then
        if xc = 0 then
          nc_bd (5 + xb) 513 fun j21 =>
          some (some (.inl (w19.1 874 aa j21)), w19)
        else
        if xc = 1 then
          nc_bI (nc_Call m_X12_isDry [.inr (.inr (12, aa)), .inl xb] w19) fun r23 w22 =>
          if r23 = 0 then
            some (some (.inl 0), w22)
          else
            some (some (.inl 1), w22)
        else
        if xc = 2 then
          nc_bI (nc_Call m_X12_isCurdled [.inr (.inr (12, aa)), .inl xb] w19) fun r25 w24 =>
          if r25 = 0 then
            some (some (.inl 0), w24)
          else
            some (some (.inl 1), w24)
        else
        if xc = 3 then
          nc_bd (79 + xb) 513 fun j26 =>
          some (some (.inl (w19.1 874 aa j26)), w19)
        else
        if xc = 4 then
          nc_bd (100 + xb) 513 fun j27 =>
          some (some (.inl (w19.1 874 aa j27)), w19)
        else
        if xc = 5 then
          nc_bI (nc_Call m_X12_known [.inr (.inr (12, aa)), .inl xb] w19) fun r29 w28 =>
          some (some (.inl r29), w28)
        else
        if xc = 6 then
          nc_bI (nc_Call m_X12_milk [.inr (.inr (12, aa)), .inl xb] w19) fun r31 w30 =>
          some (some (.inl r31), w30)
        else
          nc_bd (87 + xb) 513 fun j32 =>
          some (some (.inl (w19.1 874 aa j32)), w19)
      else
        some (some (.inl 0), w19)
    else
      nc_bI (nc_Call m_X12_throwsIf [.inr (.inr (12, aa)), .inl 1] w17) fun r34 w33 =>
      if r34 = 0 then
        if xc = 0 then
          nc_bd (5 + xb) 513 fun j35 =>
          some (some (.inl (w33.1 874 aa j35)), w33)
        else
        if xc = 1 then
          nc_bI (nc_Call m_X12_isDry [.inr (.inr (12, aa)), .inl xb] w33) fun r37 w36 =>
          if r37 = 0 then
            some (some (.inl 0), w36)
          else
            some (some (.inl 1), w36)
        else
        if xc = 2 then
          nc_bI (nc_Call m_X12_isCurdled [.inr (.inr (12, aa)), .inl xb] w33) fun r39 w38 =>
          if r39 = 0 then
            some (some (.inl 0), w38)
          else
            some (some (.inl 1), w38)
        else
        if xc = 3 then
          nc_bd (79 + xb) 513 fun j40 =>
          some (some (.inl (w33.1 874 aa j40)), w33)
        else
        if xc = 4 then
          nc_bd (100 + xb) 513 fun j41 =>
          some (some (.inl (w33.1 874 aa j41)), w33)
        else
        if xc = 5 then
          nc_bI (nc_Call m_X12_known [.inr (.inr (12, aa)), .inl xb] w33) fun r43 w42 =>
          some (some (.inl r43), w42)
        else
        if xc = 6 then
          nc_bI (nc_Call m_X12_milk [.inr (.inr (12, aa)), .inl xb] w33) fun r45 w44 =>
          some (some (.inl r45), w44)
        else
          nc_bd (87 + xb) 513 fun j46 =>
          some (some (.inl (w33.1 874 aa j46)), w33)
      else
        some (some (.inl 0), w33) :=
  (nc_Call_eq _ _ _).trans ((if_pos (Nat.le_of_ble_eq_true rfl)).trans ((nc_Run_un [] 23).trans rfl))
set_option maxRecDepth 100000 in
theorem qc_X12_news (aa : Nat) (xb : Int32) (xc : Int32) (w : nc_H) : nc_Call m_X12_news [.inr (.inr (12, aa)), .inl xb, .inl xc] w =
  nc_lt (nc_si w 12 aa 0 0) fun w1 =>
  nc_bI (nc_Call m_X12_isNews [.inr (.inr (12, aa)), .inl xb] w1) fun r3 w2 =>
  if r3 ≠ 0 then
    nc_Run m_X12_news 23 [some (.inr (.inr (12, aa))), some (.inl xb), some (.inl xc), some (.inl 0), some (.inl 0), some (.inl 0)] [] w2
  else
    some (some (.inl (-1)), w2) :=
  (nc_Call_eq _ _ _).trans ((if_pos (Nat.le_of_ble_eq_true rfl)).trans ((nc_Run_un [23] 14).trans rfl))
set_option maxRecDepth 100000 in
theorem qr_X12_news_23 (aa : Nat) (xb : Int32) (xc : Int32) (xd : Int32) (xe : Int32) (xf : Int32) (w : nc_H) : nc_Run m_X12_news 23 [some (.inr (.inr (12, aa))), some (.inl xb), some (.inl xc), some (.inl xd), some (.inl xe), some (.inl xf)] [] w =
  if (w.1 874 aa 1) ≤ xf then
    if xc = 0 then
      nc_bd (37 + xb) 513 fun j1 =>
      some (some (.inl (w.1 874 aa j1)), w)
    else
    if xc = 1 then
      nc_bd (47 + xb) 513 fun j2 =>
      some (some (.inl (w.1 874 aa j2)), w)
    else
    if xc = 2 then
      nc_bI (nc_Call m_X12_isLie [.inr (.inr (12, aa)), .inl xb] w) fun r4 w3 =>
      if r4 = 0 then
        some (some (.inl 0), w3)
      else
        some (some (.inl 1), w3)
    else
    if xc = 3 then
      nc_bI (nc_Call m_X12_bitOf [.inl (w.1 874 aa 78), .inl xb] w) fun r6 w5 =>
      if r6 = 0 then
        some (some (.inl 0), w5)
      else
        some (some (.inl 1), w5)
    else
    if xc = 4 then
      some (some (.inl xd), w)
    else
    if xc = 5 then
      some (some (.inl xe), w)
    else
      some (some (.inl (-1)), w)
  else
    nc_bd (100 + xf) 513 fun j7 =>
    nc_bI (nc_Call m_X12_bitOf [.inl (w.1 874 aa j7), .inl xb] w) fun r9 w8 =>
    if r9 = 0 then
      nc_li (xd ||| 0) fun x10 =>
      nc_bI (nc_Call m_X12_knows [.inr (.inr (12, aa)), .inl xf, .inl xb] w8) fun r12 w11 =>
      if r12 = 0 then
        nc_li (xe ||| 0) fun x13 =>
        nc_li (xf + 1) fun x14 =>
        nc_Run m_X12_news 23 [some (.inr (.inr (12, aa))), some (.inl xb), some (.inl xc), some (.inl x10), some (.inl x13), some (.inl x14)] [] w11
      else
        nc_li (xe ||| (1 <<< (xf &&& 31))) fun x15 =>
        nc_li (xf + 1) fun x16 =>
        nc_Run m_X12_news 23 [some (.inr (.inr (12, aa))), some (.inl xb), some (.inl xc), some (.inl x10), some (.inl x15), some (.inl x16)] [] w11
    else
      nc_li (xd ||| (1 <<< (xf &&& 31))) fun x17 =>
      nc_bI (nc_Call m_X12_knows [.inr (.inr (12, aa)), .inl xf, .inl xb] w8) fun r19 w18 =>
      if r19 = 0 then
        nc_li (xe ||| 0) fun x20 =>
        nc_li (xf + 1) fun x21 =>
        nc_Run m_X12_news 23 [some (.inr (.inr (12, aa))), some (.inl xb), some (.inl xc), some (.inl x17), some (.inl x20), some (.inl x21)] [] w18
      else
        nc_li (xe ||| (1 <<< (xf &&& 31))) fun x22 =>
        nc_li (xf + 1) fun x23 =>
        nc_Run m_X12_news 23 [some (.inr (.inr (12, aa))), some (.inl xb), some (.inl xc), some (.inl x17), some (.inl x22), some (.inl x23)] [] w18 :=
  (nc_Run_un [23] 37).trans rfl
set_option maxRecDepth 100000 in
theorem qc_X12_milkOf (aa : Nat) (xb : Int32) (w : nc_H) : nc_Call m_X12_milkOf [.inr (.inr (12, aa)), .inl xb] w =
  nc_Run m_X12_milkOf 4 [some (.inr (.inr (12, aa))), some (.inl xb), some (.inl 0), some (.inl 0)] [] w :=
  (nc_Call_eq _ _ _).trans ((if_pos (Nat.le_of_ble_eq_true rfl)).trans ((nc_Run_un [4] 5).trans rfl))
set_option maxRecDepth 100000 in
theorem qr_X12_milkOf_4 (aa : Nat) (xb : Int32) (xc : Int32) (xd : Int32) (w : nc_H) : nc_Run m_X12_milkOf 4 [some (.inr (.inr (12, aa))), some (.inl xb), some (.inl xc), some (.inl xd)] [] w =
  if (w.1 874 aa 1) ≤ xd then
    some (some (.inl xc), w)
  else
    nc_bd (5 + xd) 513 fun j1 =>
    if (w.1 874 aa j1) ≠ xb then
      nc_li (xc + 0) fun x2 =>
      nc_li (xd + 1) fun x3 =>
      nc_Run m_X12_milkOf 4 [some (.inr (.inr (12, aa))), some (.inl xb), some (.inl x2), some (.inl x3)] [] w
    else
      nc_bI (nc_Call m_X12_milk [.inr (.inr (12, aa)), .inl xd] w) fun r5 w4 =>
      nc_li (xc + r5) fun x6 =>
      nc_li (xd + 1) fun x7 =>
      nc_Run m_X12_milkOf 4 [some (.inr (.inr (12, aa))), some (.inl xb), some (.inl x6), some (.inl x7)] [] w4 :=
  (nc_Run_un [4] 24).trans rfl
set_option maxRecDepth 100000 in
theorem qc_X12_farm (aa : Nat) (xb : Int32) (xc : Int32) (w : nc_H) : nc_Call m_X12_farm [.inr (.inr (12, aa)), .inl xb, .inl xc] w =
  nc_bI (nc_Call m_X12_isFarm [.inr (.inr (12, aa)), .inl xb] w) fun r2 w1 =>
  if r2 = 0 then
    nc_bI (nc_Call m_X12_throwsIf [.inr (.inr (12, aa)), .inl 1] w1) fun r4 w3 =>
    if r4 = 0 then
      nc_Run m_X12_farm 36 [some (.inr (.inr (12, aa))), some (.inl xb), some (.inl xc), some (.inl 0), some (.inl 0)] [] w3
    else
      some (some (.inl 0), w3)
  else
    nc_bI (nc_Call m_X12_isIn [.inl xc, .inl 0, .inl 3] w1) fun r6 w5 =>
    if r6 ≠ 0 then
      nc_bI (nc_Call m_X12_throwsIf [.inr (.inr (12, aa)), .inl 0] w5) fun r8 w7 =>
      if r8 = 0 then
        nc_Run m_X12_farm 36 [some (.inr (.inr (12, aa))), some (.inl xb), some (.inl xc), some (.inl 0), some (.inl 0)] [] w7
      else
        some (some (.inl 0), w7)
    else
      nc_bI (nc_Call m_X12_throwsIf [.inr (.inr (12, aa)), .inl 1] w5) fun r10 w9 =>
      if r10 = 0 then
        nc_Run m_X12_farm 36 [some (.inr (.inr (12, aa))), some (.inl xb), some (.inl xc), some (.inl 0), some (.inl 0)] [] w9
      else
        some (some (.inl 0), w9) :=
  (nc_Call_eq _ _ _).trans ((if_pos (Nat.le_of_ble_eq_true rfl)).trans ((nc_Run_un [36] 19).trans rfl))
set_option maxRecDepth 100000 in
theorem qr_X12_farm_36 (aa : Nat) (xb : Int32) (xc : Int32) (xd : Int32) (xe : Int32) (w : nc_H) : nc_Run m_X12_farm 36 [some (.inr (.inr (12, aa))), some (.inl xb), some (.inl xc), some (.inl xd), some (.inl xe)] [] w =
  if (w.1 874 aa 3) ≤ xe then
    if xc = 0 then
      nc_bI (nc_Call m_X12_cowsOf [.inr (.inr (12, aa)), .inl xb] w) fun r2 w1 =>
      some (some (.inl r2), w1)
    else
    if xc = 1 then
      nc_bd (95 + xb) 513 fun j3 =>
      some (some (.inl (w.1 874 aa j3)), w)
    else
    if xc = 2 then
      nc_bI (nc_Call m_X12_milkOf [.inr (.inr (12, aa)), .inl xb] w) fun r5 w4 =>
      some (some (.inl r5), w4)
    else
      some (some (.inl xd), w)
  else
    nc_bd (58 + xe) 513 fun j6 =>
    if (w.1 874 aa j6) = xb then
      nc_li (xd ||| (1 <<< (xe &&& 31))) fun x7 =>
      nc_li (xe + 1) fun x8 =>
      nc_Run m_X12_farm 36 [some (.inr (.inr (12, aa))), some (.inl xb), some (.inl xc), some (.inl x7), some (.inl x8)] [] w
    else
      nc_bd (64 + xe) 513 fun j9 =>
      if (w.1 874 aa j9) ≠ xb then
        nc_li (xd ||| 0) fun x10 =>
        nc_li (xe + 1) fun x11 =>
        nc_Run m_X12_farm 36 [some (.inr (.inr (12, aa))), some (.inl xb), some (.inl xc), some (.inl x10), some (.inl x11)] [] w
      else
        nc_li (xd ||| (1 <<< (xe &&& 31))) fun x12 =>
        nc_li (xe + 1) fun x13 =>
        nc_Run m_X12_farm 36 [some (.inr (.inr (12, aa))), some (.inl xb), some (.inl xc), some (.inl x12), some (.inl x13)] [] w :=
  (nc_Run_un [36] 32).trans rfl
set_option maxRecDepth 100000 in
theorem qc_X12_now (aa : Nat) (xb : Int32) (w : nc_H) : nc_Call m_X12_now [.inr (.inr (12, aa)), .inl xb] w =
  nc_lt (nc_si w 12 aa 0 0) fun w1 =>
  nc_Run m_X12_now 9 [some (.inr (.inr (12, aa))), some (.inl xb), some (.inl 0), some (.inl 0)] [] w1 :=
  (nc_Call_eq _ _ _).trans ((if_pos (Nat.le_of_ble_eq_true rfl)).trans ((nc_Run_un [9] 8).trans rfl))
set_option maxRecDepth 100000 in
theorem qr_X12_now_9 (aa : Nat) (xb : Int32) (xc : Int32) (xd : Int32) (w : nc_H) : nc_Run m_X12_now 9 [some (.inr (.inr (12, aa))), some (.inl xb), some (.inl xc), some (.inl xd)] [] w =
  if (w.1 874 aa 3) ≤ xd then
    if xb = 0 then
      some (some (.inl (w.1 874 aa 76)), w)
    else
    if xb = 1 then
      some (some (.inl (w.1 874 aa 77)), w)
    else
    if xb = 2 then
      some (some (.inl (w.1 874 aa 78)), w)
    else
    if xb = 3 then
      nc_bI (nc_Call m_X12_allPails [.inr (.inr (12, aa))] w) fun r2 w1 =>
      some (some (.inl r2), w1)
    else
    if xb = 4 then
      some (some (.inl (w.1 874 aa 99)), w)
    else
    if xb = 5 then
      some (some (.inl xc), w)
    else
      some (some (.inl (-1)), w)
  else
    nc_bI (nc_Call m_X12_talks [.inr (.inr (12, aa)), .inl xd] w) fun r4 w3 =>
    if r4 = 0 then
      nc_li (xc ||| 0) fun x5 =>
      nc_li (xd + 1) fun x6 =>
      nc_Run m_X12_now 9 [some (.inr (.inr (12, aa))), some (.inl xb), some (.inl x5), some (.inl x6)] [] w3
    else
      nc_li (xc ||| (1 <<< (xd &&& 31))) fun x7 =>
      nc_li (xd + 1) fun x8 =>
      nc_Run m_X12_now 9 [some (.inr (.inr (12, aa))), some (.inl xb), some (.inl x7), some (.inl x8)] [] w3 :=
  (nc_Run_un [9] 20).trans rfl
set_option maxRecDepth 100000 in
theorem qc_X12_whyTell (aa : Nat) (xb : Int32) (xc : Int32) (w : nc_H) : nc_Call m_X12_whyTell [.inr (.inr (12, aa)), .inl xb, .inl xc] w =
  nc_bI (nc_Call m_X12_isDry [.inr (.inr (12, aa)), .inl xb] w) fun r2 w1 =>
  if r2 = 0 then
    nc_bd (100 + xb) 513 fun j3 =>
    nc_bI (nc_Call m_X12_bitOf [.inl (w1.1 874 aa j3), .inl xc] w1) fun r5 w4 =>
    if r5 = 0 then
      nc_bd (100 + xb) 513 fun j6 =>
      nc_bI (nc_Call m_X12_bits [.inl (w4.1 874 aa j6)] w4) fun r8 w7 =>
      if r8 < (w7.1 874 aa 4) then
        some (some (.inl 0), w7)
      else
        some (some (.inl 3), w7)
    else
      some (some (.inl 2), w4)
  else
    some (some (.inl 1), w1) :=
  (nc_Call_eq _ _ _).trans ((if_pos (Nat.le_of_ble_eq_true rfl)).trans ((nc_Run_un [] 28).trans rfl))
set_option maxRecDepth 100000 in
theorem qc_X12_tells (aa : Nat) (xb : Int32) (xc : Int32) (w : nc_H) : nc_Call m_X12_tells [.inr (.inr (12, aa)), .inl xb, .inl xc] w =
  nc_bI (nc_Call m_X12_knows [.inr (.inr (12, aa)), .inl xb, .inl xc] w) fun r2 w1 =>
  if r2 = 0 then
    nc_bd (100 + xb) 513 fun j3 =>
    nc_bd (100 + xb) 513 fun j4 =>
    nc_lt (nc_si w1 874 aa j4 ((w1.1 874 aa j3) ||| (1 <<< (xc &&& 31)))) fun w5 =>
    nc_bd ((132 + (10 * xb)) + xc) 513 fun j6 =>
    nc_lt (nc_si w5 874 aa j6 ((w5.1 874 aa 76) + 1)) fun w7 =>
    nc_bd (37 + xc) 513 fun j8 =>
    if (w7.1 874 aa j8) ≠ 2 then
      nc_lt (nc_si w7 874 aa 99 ((w7.1 874 aa 99) + 1)) fun w9 =>
      some (none, w9)
    else
      nc_bd (124 + xb) 513 fun j10 =>
      nc_lt (nc_si w7 874 aa j10 ((w7.1 874 aa 76) + 1)) fun w11 =>
      nc_lt (nc_si w11 874 aa 99 ((w11.1 874 aa 99) + 1)) fun w12 =>
      some (none, w12)
  else
    nc_bd (108 + xb) 513 fun j13 =>
    nc_bd (108 + xb) 513 fun j14 =>
    nc_lt (nc_si w1 874 aa j14 ((w1.1 874 aa j13) ||| (1 <<< (xc &&& 31)))) fun w15 =>
    nc_bd (100 + xb) 513 fun j16 =>
    nc_bd (100 + xb) 513 fun j17 =>
    nc_lt (nc_si w15 874 aa j17 ((w15.1 874 aa j16) ||| (1 <<< (xc &&& 31)))) fun w18 =>
    nc_bd ((132 + (10 * xb)) + xc) 513 fun j19 =>
    nc_lt (nc_si w18 874 aa j19 ((w18.1 874 aa 76) + 1)) fun w20 =>
    nc_bd (37 + xc) 513 fun j21 =>
    if (w20.1 874 aa j21) ≠ 2 then
      nc_lt (nc_si w20 874 aa 99 ((w20.1 874 aa 99) + 1)) fun w22 =>
      some (none, w22)
    else
      nc_bd (124 + xb) 513 fun j23 =>
      nc_lt (nc_si w20 874 aa j23 ((w20.1 874 aa 76) + 1)) fun w24 =>
      nc_lt (nc_si w24 874 aa 99 ((w24.1 874 aa 99) + 1)) fun w25 =>
      some (none, w25) :=
  (nc_Call_eq _ _ _).trans ((if_pos (Nat.le_of_ble_eq_true rfl)).trans ((nc_Run_un [] 74).trans rfl))
set_option maxRecDepth 100000 in
theorem qc_X12_whyFind (aa : Nat) (xb : Int32) (w : nc_H) : nc_Call m_X12_whyFind [.inr (.inr (12, aa)), .inl xb] w =
  nc_bI (nc_Call m_X12_isLie [.inr (.inr (12, aa)), .inl xb] w) fun r2 w1 =>
  if r2 ≠ 0 then
    nc_bI (nc_Call m_X12_bitOf [.inl (w1.1 874 aa 78), .inl xb] w1) fun r4 w3 =>
    if r4 = 0 then
      some (some (.inl 0), w3)
    else
      some (some (.inl 2), w3)
  else
    some (some (.inl 1), w1) :=
  (nc_Call_eq _ _ _).trans ((if_pos (Nat.le_of_ble_eq_true rfl)).trans ((nc_Run_un [] 14).trans rfl))
set_option maxRecDepth 100000 in
theorem qc_X12_driedBy (aa : Nat) (xb : Int32) (w : nc_H) : nc_Call m_X12_driedBy [.inr (.inr (12, aa)), .inl xb] w =
  nc_Run m_X12_driedBy 4 [some (.inr (.inr (12, aa))), some (.inl xb), some (.inl 0), some (.inl 0)] [] w :=
  (nc_Call_eq _ _ _).trans ((if_pos (Nat.le_of_ble_eq_true rfl)).trans ((nc_Run_un [4] 5).trans rfl))
set_option maxRecDepth 100000 in
theorem qr_X12_driedBy_4 (aa : Nat) (xb : Int32) (xc : Int32) (xd : Int32) (w : nc_H) : nc_Run m_X12_driedBy 4 [some (.inr (.inr (12, aa))), some (.inl xb), some (.inl xc), some (.inl xd)] [] w =
  if (w.1 874 aa 1) ≤ xd then
    some (some (.inl xc), w)
  else
    nc_bI (nc_Call m_X12_isDry [.inr (.inr (12, aa)), .inl xd] w) fun r2 w1 =>
    if r2 ≠ 0 then
      nc_li (xc ||| 0) fun x3 =>
      nc_li (xd + 1) fun x4 =>
      nc_Run m_X12_driedBy 4 [some (.inr (.inr (12, aa))), some (.inl xb), some (.inl x3), some (.inl x4)] [] w1
    else
      nc_bI (nc_Call m_X12_knows [.inr (.inr (12, aa)), .inl xd, .inl xb] w1) fun r6 w5 =>
      if r6 = 0 then
        nc_li (xc ||| 0) fun x7 =>
        nc_li (xd + 1) fun x8 =>
        nc_Run m_X12_driedBy 4 [some (.inr (.inr (12, aa))), some (.inl xb), some (.inl x7), some (.inl x8)] [] w5
      else
        nc_bd (79 + xd) 513 fun j9 =>
        nc_bd (21 + xd) 513 fun j10 =>
        if ((w5.1 874 aa j9) + 1) < (w5.1 874 aa j10) then
          nc_li (xc ||| 0) fun x11 =>
          nc_li (xd + 1) fun x12 =>
          nc_Run m_X12_driedBy 4 [some (.inr (.inr (12, aa))), some (.inl xb), some (.inl x11), some (.inl x12)] [] w5
        else
          nc_li (xc ||| (1 <<< (xd &&& 31))) fun x13 =>
          nc_li (xd + 1) fun x14 =>
          nc_Run m_X12_driedBy 4 [some (.inr (.inr (12, aa))), some (.inl xb), some (.inl x13), some (.inl x14)] [] w5 :=
  (nc_Run_un [4] 40).trans rfl
set_option maxRecDepth 100000 in
theorem qc_X12_finds (aa : Nat) (xb : Int32) (w : nc_H) : nc_Call m_X12_finds [.inr (.inr (12, aa)), .inl xb] w =
  nc_bI (nc_Call m_X12_driedBy [.inr (.inr (12, aa)), .inl xb] w) fun r2 w1 =>
  nc_Run m_X12_finds 8 [some (.inr (.inr (12, aa))), some (.inl xb), some (.inl r2), some (.inl 0)] [] w1 :=
  (nc_Call_eq _ _ _).trans ((if_pos (Nat.le_of_ble_eq_true rfl)).trans ((nc_Run_un [8] 7).trans rfl))
set_option maxRecDepth 100000 in
theorem qr_X12_finds_8 (aa : Nat) (xb : Int32) (xc : Int32) (xd : Int32) (w : nc_H) : nc_Run m_X12_finds 8 [some (.inr (.inr (12, aa))), some (.inl xb), some (.inl xc), some (.inl xd)] [] w =
  if (w.1 874 aa 1) ≤ xd then
    nc_lt (nc_si w 874 aa 77 ((w.1 874 aa 77) ||| xc)) fun w1 =>
    nc_lt (nc_si w1 874 aa 78 ((w1.1 874 aa 78) ||| (1 <<< (xb &&& 31)))) fun w2 =>
    some (none, w2)
  else
    nc_bd (79 + xd) 513 fun j3 =>
    nc_bI (nc_Call m_X12_isDry [.inr (.inr (12, aa)), .inl xd] w) fun r5 w4 =>
    if r5 ≠ 0 then
      nc_bd (79 + xd) 513 fun j6 =>
      nc_lt (nc_si w4 874 aa j6 ((w.1 874 aa j3) + 0)) fun w7 =>
      nc_li (xd + 1) fun x8 =>
      nc_Run m_X12_finds 8 [some (.inr (.inr (12, aa))), some (.inl xb), some (.inl xc), some (.inl x8)] [] w7
    else
      nc_bI (nc_Call m_X12_knows [.inr (.inr (12, aa)), .inl xd, .inl xb] w4) fun r10 w9 =>
      if r10 = 0 then
        nc_bd (79 + xd) 513 fun j11 =>
        nc_lt (nc_si w9 874 aa j11 ((w.1 874 aa j3) + 0)) fun w12 =>
        nc_li (xd + 1) fun x13 =>
        nc_Run m_X12_finds 8 [some (.inr (.inr (12, aa))), some (.inl xb), some (.inl xc), some (.inl x13)] [] w12
      else
        nc_bd (79 + xd) 513 fun j14 =>
        nc_lt (nc_si w9 874 aa j14 ((w.1 874 aa j3) + 1)) fun w15 =>
        nc_li (xd + 1) fun x16 =>
        nc_Run m_X12_finds 8 [some (.inr (.inr (12, aa))), some (.inl xb), some (.inl xc), some (.inl x16)] [] w15 :=
  (nc_Run_un [8] 29).trans rfl
set_option maxRecDepth 100000 in
theorem qc_X12_comesTo (aa : Nat) (xb : Int32) (xc : Int32) (w : nc_H) : nc_Call m_X12_comesTo [.inr (.inr (12, aa)), .inl xb, .inl xc] w =
  nc_Run m_X12_comesTo 5 [some (.inr (.inr (12, aa))), some (.inl xb), some (.inl xc), some (.inl 0), some (.inl 0), none] [] w :=
  (nc_Call_eq _ _ _).trans ((if_pos (Nat.le_of_ble_eq_true rfl)).trans ((nc_Run_un [5, 52, 82] 5).trans rfl))
set_option maxRecDepth 100000 in
theorem qr_X12_comesTo_5 (aa : Nat) (xb : Int32) (xc : Int32) (xd : Int32) (xe : Int32) (w : nc_H) : nc_Run m_X12_comesTo 5 [some (.inr (.inr (12, aa))), some (.inl xb), some (.inl xc), some (.inl xd), some (.inl xe), none] [] w =
  if (w.1 874 aa 1) ≤ xe then
    nc_Run m_X12_comesTo 52 [some (.inr (.inr (12, aa))), none, some (.inl xc), some (.inl xd), some (.inl 0), none] [] w
  else
    nc_bd (5 + xe) 513 fun j1 =>
    if (w.1 874 aa j1) ≠ xb then
      nc_li (xd ||| 0) fun x2 =>
      nc_li (xe + 1) fun x3 =>
      nc_Run m_X12_comesTo 5 [some (.inr (.inr (12, aa))), some (.inl xb), some (.inl xc), some (.inl x2), some (.inl x3), none] [] w
    else
      nc_bd xe 8 fun j4 =>
      nc_li (xd ||| (w.1 889 aa j4)) fun x5 =>
      nc_li (xe + 1) fun x6 =>
      nc_Run m_X12_comesTo 5 [some (.inr (.inr (12, aa))), some (.inl xb), some (.inl xc), some (.inl x5), some (.inl x6), none] [] w :=
  (nc_Run_un [5, 52, 82] 25).trans rfl
set_option maxRecDepth 100000 in
theorem qr_X12_comesTo_52 (aa : Nat) (xc : Int32) (xd : Int32) (xe : Int32) (w : nc_H) : nc_Run m_X12_comesTo 52 [some (.inr (.inr (12, aa))), none, some (.inl xc), some (.inl xd), some (.inl xe), none] [] w =
  if (w.1 874 aa 1) ≤ xe then
    some (none, w)
  else
    nc_bd (5 + xe) 513 fun j1 =>
    if (w.1 874 aa j1) = xc then
      nc_Run m_X12_comesTo 82 [some (.inr (.inr (12, aa))), none, some (.inl xc), some (.inl xd), some (.inl xe), some (.inl 0)] [] w
    else
      nc_li (xe + 1) fun x2 =>
      nc_Run m_X12_comesTo 52 [some (.inr (.inr (12, aa))), none, some (.inl xc), some (.inl xd), some (.inl x2), none] [] w :=
  (nc_Run_un [5, 52, 82] 18).trans rfl
set_option maxRecDepth 100000 in
theorem qr_X12_comesTo_82 (aa : Nat) (xc : Int32) (xd : Int32) (xe : Int32) (xf : Int32) (w : nc_H) : nc_Run m_X12_comesTo 82 [some (.inr (.inr (12, aa))), none, some (.inl xc), some (.inl xd), some (.inl xe), some (.inl xf)] [] w =
  if (w.1 874 aa 2) ≤ xf then
    nc_li (xe + 1) fun x1 =>
    nc_Run m_X12_comesTo 52 [some (.inr (.inr (12, aa))), none, some (.inl xc), some (.inl xd), some (.inl x1), none] [] w
  else
    nc_bI (nc_Call m_X12_bitOf [.inl xd, .inl xf] w) fun r3 w2 =>
    if r3 = 0 then
      nc_li (xf + 1) fun x4 =>
      nc_Run m_X12_comesTo 82 [some (.inr (.inr (12, aa))), none, some (.inl xc), some (.inl xd), some (.inl xe), some (.inl x4)] [] w2
    else
      nc_bd ((132 + (10 * xe)) + xf) 513 fun j5 =>
      nc_lt (nc_si w2 874 aa j5 ((w2.1 874 aa 76) + 1)) fun w6 =>
      nc_li (xf + 1) fun x7 =>
      nc_Run m_X12_comesTo 82 [some (.inr (.inr (12, aa))), none, some (.inl xc), some (.inl xd), some (.inl xe), some (.inl x7)] [] w6 :=
  (nc_Run_un [5, 52, 82] 29).trans rfl
set_option maxRecDepth 100000 in
theorem qc_X12_day (aa : Nat) (w : nc_H) : nc_Call m_X12_day [.inr (.inr (12, aa))] w =
  nc_Run m_X12_day 2 [some (.inr (.inr (12, aa))), some (.inl 0)] [] w :=
  (nc_Call_eq _ _ _).trans ((if_pos (Nat.le_of_ble_eq_true rfl)).trans ((nc_Run_un [2, 66, 112, 185] 3).trans rfl))
set_option maxRecDepth 100000 in
theorem qr_X12_day_2 (aa : Nat) (xb : Int32) (w : nc_H) : nc_Run m_X12_day 2 [some (.inr (.inr (12, aa))), some (.inl xb)] [] w =
  if (w.1 874 aa 0) ≤ xb then
    nc_Run m_X12_day 66 [some (.inr (.inr (12, aa))), some (.inl 0)] [] w
  else
    nc_bI (nc_Call m_X12_milkOf [.inr (.inr (12, aa)), .inl xb] w) fun r2 w1 =>
    nc_bd ((212 + (30 * xb)) + ((w.1 874 aa 76) - (w.1 874 aa 76) / 30 * 30)) 513 fun j3 =>
    nc_lt (nc_si w1 874 aa j3 r2) fun w4 =>
    nc_bd (95 + xb) 513 fun j5 =>
    nc_bI (nc_Call m_X12_milkOf [.inr (.inr (12, aa)), .inl xb] w4) fun r7 w6 =>
    nc_bd (95 + xb) 513 fun j8 =>
    nc_lt (nc_si w6 874 aa j8 ((w4.1 874 aa j5) + r7)) fun w9 =>
    nc_li (xb + 1) fun x10 =>
    nc_Run m_X12_day 2 [some (.inr (.inr (12, aa))), some (.inl x10)] [] w9 :=
  (nc_Run_un [2, 66, 112, 185] 39).trans rfl
set_option maxRecDepth 100000 in
theorem qr_X12_day_66 (aa : Nat) (xb : Int32) (w : nc_H) : nc_Run m_X12_day 66 [some (.inr (.inr (12, aa))), some (.inl xb)] [] w =
  if (w.1 874 aa 1) ≤ xb then
    nc_Run m_X12_day 112 [some (.inr (.inr (12, aa))), some (.inl 0)] [] w
  else
    nc_bd (87 + xb) 513 fun j1 =>
    nc_bI (nc_Call m_X12_milk [.inr (.inr (12, aa)), .inl xb] w) fun r3 w2 =>
    nc_bd (87 + xb) 513 fun j4 =>
    nc_lt (nc_si w2 874 aa j4 ((w.1 874 aa j1) + r3)) fun w5 =>
    nc_bI (nc_Call m_X12_known [.inr (.inr (12, aa)), .inl xb] w5) fun r7 w6 =>
    nc_bd xb 8 fun j8 =>
    nc_lt (nc_si w6 889 aa j8 r7) fun w9 =>
    nc_li (xb + 1) fun x10 =>
    nc_Run m_X12_day 66 [some (.inr (.inr (12, aa))), some (.inl x10)] [] w9 :=
  (nc_Run_un [2, 66, 112, 185] 28).trans rfl
set_option maxRecDepth 100000 in
theorem qr_X12_day_112 (aa : Nat) (xb : Int32) (w : nc_H) : nc_Run m_X12_day 112 [some (.inr (.inr (12, aa))), some (.inl xb)] [] w =
  if (w.1 874 aa 3) ≤ xb then
    nc_Run m_X12_day 185 [some (.inr (.inr (12, aa))), some (.inl 0)] [] w
  else
    nc_bI (nc_Call m_X12_talks [.inr (.inr (12, aa)), .inl xb] w) fun r2 w1 =>
    if r2 ≠ 0 then
      nc_bd (58 + xb) 513 fun j3 =>
      nc_bd (64 + xb) 513 fun j4 =>
      nc_bV (nc_Call m_X12_comesTo [.inr (.inr (12, aa)), .inl (w1.1 874 aa j3), .inl (w1.1 874 aa j4)] w1) fun w5 =>
      nc_bd (64 + xb) 513 fun j6 =>
      nc_bd (58 + xb) 513 fun j7 =>
      nc_bV (nc_Call m_X12_comesTo [.inr (.inr (12, aa)), .inl (w5.1 874 aa j6), .inl (w5.1 874 aa j7)] w5) fun w8 =>
      nc_li (xb + 1) fun x9 =>
      nc_Run m_X12_day 112 [some (.inr (.inr (12, aa))), some (.inl x9)] [] w8
    else
      nc_li (xb + 1) fun x10 =>
      nc_Run m_X12_day 112 [some (.inr (.inr (12, aa))), some (.inl x10)] [] w1 :=
  (nc_Run_un [2, 66, 112, 185] 41).trans rfl
set_option maxRecDepth 100000 in
theorem qr_X12_day_185 (aa : Nat) (xb : Int32) (w : nc_H) : nc_Run m_X12_day 185 [some (.inr (.inr (12, aa))), some (.inl xb)] [] w =
  if (w.1 874 aa 1) ≤ xb then
    nc_lt (nc_si w 874 aa 76 ((w.1 874 aa 76) + 1)) fun w1 =>
    some (none, w1)
  else
    nc_bd (100 + xb) 513 fun j2 =>
    nc_bd (116 + xb) 513 fun j3 =>
    nc_lt (nc_si w 874 aa j3 (w.1 874 aa j2)) fun w4 =>
    nc_bd (100 + xb) 513 fun j5 =>
    nc_lt (nc_si w4 874 aa j5 0) fun w6 =>
    nc_bd (108 + xb) 513 fun j7 =>
    nc_lt (nc_si w6 874 aa j7 0) fun w8 =>
    nc_li (xb + 1) fun x9 =>
    nc_Run m_X12_day 185 [some (.inr (.inr (12, aa))), some (.inl x9)] [] w8 :=
  (nc_Run_un [2, 66, 112, 185] 35).trans rfl
set_option maxRecDepth 100000 in
theorem qc_X12_goesOn (aa : Nat) (xb : Int32) (w : nc_H) : nc_Call m_X12_goesOn [.inr (.inr (12, aa)), .inl xb] w =
  nc_Run m_X12_goesOn 2 [some (.inr (.inr (12, aa))), some (.inl xb), some (.inl 0)] [] w :=
  (nc_Call_eq _ _ _).trans ((if_pos (Nat.le_of_ble_eq_true rfl)).trans ((nc_Run_un [2] 3).trans rfl))
set_option maxRecDepth 100000 in
theorem qr_X12_goesOn_2 (aa : Nat) (xb : Int32) (xc : Int32) (w : nc_H) : nc_Run m_X12_goesOn 2 [some (.inr (.inr (12, aa))), some (.inl xb), some (.inl xc)] [] w =
  if xb ≤ xc then
    some (some (.inl xc), w)
  else
    if (400 : Int32) ≤ (w.1 874 aa 76) then
      some (some (.inl xc), w)
    else
      nc_bV (nc_Call m_X12_day [.inr (.inr (12, aa))] w) fun w1 =>
      nc_li (xc + 1) fun x2 =>
      nc_Run m_X12_goesOn 2 [some (.inr (.inr (12, aa))), some (.inl xb), some (.inl x2)] [] w1 :=
  (nc_Run_un [2] 14).trans rfl
set_option maxRecDepth 100000 in
theorem qc_X12_tell (aa : Nat) (xb : Int32) (xc : Int32) (w : nc_H) : nc_Call m_X12_tell [.inr (.inr (12, aa)), .inl xb, .inl xc] w =
  nc_lt (nc_si w 12 aa 0 0) fun w1 =>
  nc_bI (nc_Call m_X12_isCow [.inr (.inr (12, aa)), .inl xb] w1) fun r3 w2 =>
  if r3 = 0 then
    some (some (.inl (-1)), w2)
  else
    nc_bI (nc_Call m_X12_isNews [.inr (.inr (12, aa)), .inl xc] w2) fun r5 w4 =>
    if r5 ≠ 0 then
      nc_bI (nc_Call m_X12_whyTell [.inr (.inr (12, aa)), .inl xb, .inl xc] w4) fun r7 w6 =>
      if r7 ≤ 0 then
        nc_bV (nc_Call m_X12_keep [.inr (.inr (12, aa))] w6) fun w8 =>
        nc_bV (nc_Call m_X12_tells [.inr (.inr (12, aa)), .inl xb, .inl xc] w8) fun w9 =>
        some (some (.inl 0), w9)
      else
        some (some (.inl r7), w6)
    else
      some (some (.inl (-1)), w4) :=
  (nc_Call_eq _ _ _).trans ((if_pos (Nat.le_of_ble_eq_true rfl)).trans ((nc_Run_un [] 26).trans rfl))
set_option maxRecDepth 100000 in
theorem qc_X12_find (aa : Nat) (xb : Int32) (w : nc_H) : nc_Call m_X12_find [.inr (.inr (12, aa)), .inl xb] w =
  nc_lt (nc_si w 12 aa 0 0) fun w1 =>
  nc_bI (nc_Call m_X12_isNews [.inr (.inr (12, aa)), .inl xb] w1) fun r3 w2 =>
  if r3 ≠ 0 then
    nc_bI (nc_Call m_X12_whyFind [.inr (.inr (12, aa)), .inl xb] w2) fun r5 w4 =>
    if r5 ≤ 0 then
      nc_bV (nc_Call m_X12_keep [.inr (.inr (12, aa))] w4) fun w6 =>
      nc_bV (nc_Call m_X12_finds [.inr (.inr (12, aa)), .inl xb] w6) fun w7 =>
      some (some (.inl 0), w7)
    else
      some (some (.inl r5), w4)
  else
    some (some (.inl (-1)), w2) :=
  (nc_Call_eq _ _ _).trans ((if_pos (Nat.le_of_ble_eq_true rfl)).trans ((nc_Run_un [] 20).trans rfl))
set_option maxRecDepth 100000 in
theorem qc_X12_days (aa : Nat) (xb : Int32) (w : nc_H) : nc_Call m_X12_days [.inr (.inr (12, aa)), .inl xb] w =
  nc_lt (nc_si w 12 aa 0 0) fun w1 =>
  nc_bI (nc_Call m_X12_isIn [.inl xb, .inl 1, .inl 60] w1) fun r3 w2 =>
  if r3 ≠ 0 then
    if (w2.1 874 aa 76) ≠ 400 then
      nc_bV (nc_Call m_X12_keep [.inr (.inr (12, aa))] w2) fun w4 =>
      nc_bI (nc_Call m_X12_goesOn [.inr (.inr (12, aa)), .inl xb] w4) fun r6 w5 =>
      some (some (.inl r6), w5)
    else
      some (some (.inl 0), w2)
  else
    some (some (.inl (-1)), w2) :=
  (nc_Call_eq _ _ _).trans ((if_pos (Nat.le_of_ble_eq_true rfl)).trans ((nc_Run_un [] 20).trans rfl))
set_option maxRecDepth 100000 in
theorem qc_X12_why (aa : Nat) (xb : Int32) (xc : Int32) (w : nc_H) : nc_Call m_X12_why [.inr (.inr (12, aa)), .inl xb, .inl xc] w =
  nc_lt (nc_si w 12 aa 0 0) fun w1 =>
  nc_bI (nc_Call m_X12_isCow [.inr (.inr (12, aa)), .inl xb] w1) fun r3 w2 =>
  if r3 = 0 then
    some (some (.inl (-1)), w2)
  else
    nc_bI (nc_Call m_X12_isNews [.inr (.inr (12, aa)), .inl xc] w2) fun r5 w4 =>
    if r5 = 0 then
      some (some (.inl (-1)), w4)
    else
      nc_bI (nc_Call m_X12_whyTell [.inr (.inr (12, aa)), .inl xb, .inl xc] w4) fun r7 w6 =>
      some (some (.inl r7), w6) :=
  (nc_Call_eq _ _ _).trans ((if_pos (Nat.le_of_ble_eq_true rfl)).trans ((nc_Run_un [] 17).trans rfl))
set_option maxRecDepth 100000 in
theorem qc_X12_mayHear (aa : Nat) (xb : Int32) (xc : Int32) (w : nc_H) : nc_Call m_X12_mayHear [.inr (.inr (12, aa)), .inl xb, .inl xc] w =
  nc_bd (100 + xb) 513 fun j1 =>
  if (xc &&& (w.1 874 aa j1)) ≠ 0 then
    some (some (.inl 0), w)
  else
    nc_bI (nc_Call m_X12_bits [.inl xc] w) fun r3 w2 =>
    nc_bd (100 + xb) 513 fun j4 =>
    nc_bI (nc_Call m_X12_bits [.inl (w2.1 874 aa j4)] w2) fun r6 w5 =>
    if ((w2.1 874 aa 4) - r6) < r3 then
      some (some (.inl 0), w5)
    else
      some (some (.inl 1), w5) :=
  (nc_Call_eq _ _ _).trans ((if_pos (Nat.le_of_ble_eq_true rfl)).trans ((nc_Run_un [] 27).trans rfl))
set_option maxRecDepth 100000 in
theorem qc_X12_bestOf (aa : Nat) (xb : Int32) (xc : Int32) (w : nc_H) : nc_Call m_X12_bestOf [.inr (.inr (12, aa)), .inl xb, .inl xc] w =
  nc_Run m_X12_bestOf 5 [some (.inr (.inr (12, aa))), some (.inl xb), some (.inl xc), some (.inl 0), some (.inl 1), none, none] [] w :=
  (nc_Call_eq _ _ _).trans ((if_pos (Nat.le_of_ble_eq_true rfl)).trans ((nc_Run_un [5] 5).trans rfl))
set_option maxRecDepth 100000 in
theorem qr_X12_bestOf_5 (aa : Nat) (xb : Int32) (xc : Int32) (xd : Int32) (xe : Int32) (w : nc_H) : nc_Run m_X12_bestOf 5 [some (.inr (.inr (12, aa))), some (.inl xb), some (.inl xc), some (.inl xd), some (.inl xe), none, none] [] w =
  if xc < xe then
    some (some (.inl xd), w)
  else
    if (xe &&& (xc ^^^ (-1))) ≠ 0 then
      nc_li (xe + 1) fun x1 =>
      nc_Run m_X12_bestOf 5 [some (.inr (.inr (12, aa))), some (.inl xb), some (.inl xc), some (.inl xd), some (.inl x1), none, none] [] w
    else
      nc_bI (nc_Call m_X12_mayHear [.inr (.inr (12, aa)), .inl xb, .inl xe] w) fun r3 w2 =>
      if r3 ≠ 0 then
        nc_bI (nc_Call m_X12_milkWith [.inr (.inr (12, aa)), .inl xb, .inl xe] w2) fun r5 w4 =>
        nc_bI (nc_Call m_X12_milkWith [.inr (.inr (12, aa)), .inl xb, .inl xd] w4) fun r7 w6 =>
        if r7 < r5 then
          nc_li (xe + 1) fun x8 =>
          nc_Run m_X12_bestOf 5 [some (.inr (.inr (12, aa))), some (.inl xb), some (.inl xc), some (.inl xe), some (.inl x8), none, none] [] w6
        else
          if r5 ≠ r7 then
            nc_li (xe + 1) fun x9 =>
            nc_Run m_X12_bestOf 5 [some (.inr (.inr (12, aa))), some (.inl xb), some (.inl xc), some (.inl xd), some (.inl x9), none, none] [] w6
          else
            nc_bI (nc_Call m_X12_bits [.inl xe] w6) fun r11 w10 =>
            nc_bI (nc_Call m_X12_bits [.inl xd] w10) fun r13 w12 =>
            if r13 ≤ r11 then
              nc_li (xe + 1) fun x14 =>
              nc_Run m_X12_bestOf 5 [some (.inr (.inr (12, aa))), some (.inl xb), some (.inl xc), some (.inl xd), some (.inl x14), none, none] [] w12
            else
              nc_li (xe + 1) fun x15 =>
              nc_Run m_X12_bestOf 5 [some (.inr (.inr (12, aa))), some (.inl xb), some (.inl xc), some (.inl xe), some (.inl x15), none, none] [] w12
      else
        nc_li (xe + 1) fun x16 =>
        nc_Run m_X12_bestOf 5 [some (.inr (.inr (12, aa))), some (.inl xb), some (.inl xc), some (.inl xd), some (.inl x16), none, none] [] w2 :=
  (nc_Run_un [5] 40).trans rfl
set_option maxRecDepth 100000 in
theorem qc_X12_best (aa : Nat) (xb : Int32) (w : nc_H) : nc_Call m_X12_best [.inr (.inr (12, aa)), .inl xb] w =
  nc_lt (nc_si w 12 aa 0 0) fun w1 =>
  nc_bI (nc_Call m_X12_isCow [.inr (.inr (12, aa)), .inl xb] w1) fun r3 w2 =>
  if r3 = 0 then
    some (some (.inl (-1)), w2)
  else
    nc_bI (nc_Call m_X12_isDry [.inr (.inr (12, aa)), .inl xb] w2) fun r5 w4 =>
    if r5 = 0 then
      nc_bI (nc_Call m_X12_peace [.inr (.inr (12, aa))] w4) fun r7 w6 =>
      nc_bI (nc_Call m_X12_bestOf [.inr (.inr (12, aa)), .inl xb, .inl r7] w6) fun r9 w8 =>
      nc_bV (nc_Call m_X12_tellsSet [.inr (.inr (12, aa)), .inl r9] w8) fun w10 =>
      nc_bI (nc_Call m_X12_milkWith [.inr (.inr (12, aa)), .inl xb, .inl r9] w10) fun r12 w11 =>
      some (some (.inl r12), w11)
    else
      some (some (.inl (-1)), w4) :=
  (nc_Call_eq _ _ _).trans ((if_pos (Nat.le_of_ble_eq_true rfl)).trans ((nc_Run_un [] 25).trans rfl))
set_option maxRecDepth 100000 in
theorem qc_X12_least (aa : Nat) (xb : Int32) (xc : Int32) (w : nc_H) : nc_Call m_X12_least [.inr (.inr (12, aa)), .inl xb, .inl xc] w =
  nc_lt (nc_si w 12 aa 0 0) fun w1 =>
  nc_bI (nc_Call m_X12_isCow [.inr (.inr (12, aa)), .inl xb] w1) fun r3 w2 =>
  if r3 = 0 then
    some (some (.inl (-1)), w2)
  else
    nc_bI (nc_Call m_X12_isDry [.inr (.inr (12, aa)), .inl xb] w2) fun r5 w4 =>
    if r5 ≠ 0 then
      some (some (.inl (-1)), w4)
    else
      nc_bI (nc_Call m_X12_isIn [.inl xc, .inl 0, .inl 999] w4) fun r7 w6 =>
      if r7 ≠ 0 then
        nc_bI (nc_Call m_X12_peace [.inr (.inr (12, aa))] w6) fun r9 w8 =>
        nc_Run m_X12_least 45 [some (.inr (.inr (12, aa))), some (.inl xb), some (.inl xc), some (.inl r9), some (.inl (-1)), some (.inl 0), none] [] w8
      else
        some (some (.inl (-1)), w6) :=
  (nc_Call_eq _ _ _).trans ((if_pos (Nat.le_of_ble_eq_true rfl)).trans ((nc_Run_un [45] 24).trans rfl))
set_option maxRecDepth 100000 in
theorem qr_X12_least_45 (aa : Nat) (xb : Int32) (xc : Int32) (xd : Int32) (xe : Int32) (xf : Int32) (w : nc_H) : nc_Run m_X12_least 45 [some (.inr (.inr (12, aa))), some (.inl xb), some (.inl xc), some (.inl xd), some (.inl xe), some (.inl xf), none] [] w =
  if xd < xf then
    if (0 : Int32) ≤ xe then
      nc_bV (nc_Call m_X12_tellsSet [.inr (.inr (12, aa)), .inl xe] w) fun w1 =>
      nc_bI (nc_Call m_X12_bits [.inl (xe &&& (w1.1 874 aa 57))] w1) fun r3 w2 =>
      some (some (.inl r3), w2)
    else
      some (some (.inl (-1)), w)
  else
    if (xf &&& (xd ^^^ (-1))) ≠ 0 then
      nc_li (xf + 1) fun x4 =>
      nc_Run m_X12_least 45 [some (.inr (.inr (12, aa))), some (.inl xb), some (.inl xc), some (.inl xd), some (.inl xe), some (.inl x4), none] [] w
    else
      nc_bI (nc_Call m_X12_mayHear [.inr (.inr (12, aa)), .inl xb, .inl xf] w) fun r6 w5 =>
      if r6 = 0 then
        nc_li (xf + 1) fun x7 =>
        nc_Run m_X12_least 45 [some (.inr (.inr (12, aa))), some (.inl xb), some (.inl xc), some (.inl xd), some (.inl xe), some (.inl x7), none] [] w5
      else
        nc_bI (nc_Call m_X12_milkWith [.inr (.inr (12, aa)), .inl xb, .inl xf] w5) fun r9 w8 =>
        if xc ≤ r9 then
          nc_bI (nc_Call m_X12_bits [.inl (xf &&& (w8.1 874 aa 57))] w8) fun r11 w10 =>
          if xe < 0 then
            nc_li (xf + 1) fun x12 =>
            nc_Run m_X12_least 45 [some (.inr (.inr (12, aa))), some (.inl xb), some (.inl xc), some (.inl xd), some (.inl xf), some (.inl x12), none] [] w10
          else
            nc_bI (nc_Call m_X12_bits [.inl (xe &&& (w10.1 874 aa 57))] w10) fun r14 w13 =>
            if r11 < r14 then
              nc_li (xf + 1) fun x15 =>
              nc_Run m_X12_least 45 [some (.inr (.inr (12, aa))), some (.inl xb), some (.inl xc), some (.inl xd), some (.inl xf), some (.inl x15), none] [] w13
            else
              nc_bI (nc_Call m_X12_bits [.inl (xe &&& (w13.1 874 aa 57))] w13) fun r17 w16 =>
              if r11 ≠ r17 then
                nc_li (xf + 1) fun x18 =>
                nc_Run m_X12_least 45 [some (.inr (.inr (12, aa))), some (.inl xb), some (.inl xc), some (.inl xd), some (.inl xe), some (.inl x18), none] [] w16
              else
                nc_bI (nc_Call m_X12_bits [.inl xf] w16) fun r20 w19 =>
                nc_bI (nc_Call m_X12_bits [.inl xe] w19) fun r22 w21 =>
                if r22 ≤ r20 then
                  nc_li (xf + 1) fun x23 =>
                  nc_Run m_X12_least 45 [some (.inr (.inr (12, aa))), some (.inl xb), some (.inl xc), some (.inl xd), some (.inl xe), some (.inl x23), none] [] w21
                else
                  nc_li (xf + 1) fun x24 =>
                  nc_Run m_X12_least 45 [some (.inr (.inr (12, aa))), some (.inl xb), some (.inl xc), some (.inl xd), some (.inl xf), some (.inl x24), none] [] w21
        else
          nc_li (xf + 1) fun x25 =>
          nc_Run m_X12_least 45 [some (.inr (.inr (12, aa))), some (.inl xb), some (.inl xc), some (.inl xd), some (.inl xe), some (.inl x25), none] [] w8 :=
  (nc_Run_un [45] 58).trans rfl
set_option maxRecDepth 100000 in
theorem qc_X12_honest (aa : Nat) (xb : Int32) (w : nc_H) : nc_Call m_X12_honest [.inr (.inr (12, aa)), .inl xb] w =
  nc_lt (nc_si w 12 aa 0 0) fun w1 =>
  nc_bI (nc_Call m_X12_isCow [.inr (.inr (12, aa)), .inl xb] w1) fun r3 w2 =>
  if r3 = 0 then
    some (some (.inl (-1)), w2)
  else
    nc_bI (nc_Call m_X12_isDry [.inr (.inr (12, aa)), .inl xb] w2) fun r5 w4 =>
    if r5 ≠ 0 then
      some (some (.inl (-1)), w4)
    else
      nc_bI (nc_Call m_X12_peace [.inr (.inr (12, aa))] w4) fun r7 w6 =>
      nc_bI (nc_Call m_X12_bestOf [.inr (.inr (12, aa)), .inl xb, .inl (r7 &&& ((w6.1 874 aa 57) ^^^ (-1)))] w6) fun r9 w8 =>
      nc_bI (nc_Call m_X12_milkWith [.inr (.inr (12, aa)), .inl xb, .inl r9] w8) fun r11 w10 =>
      some (some (.inl r11), w10) :=
  (nc_Call_eq _ _ _).trans ((if_pos (Nat.le_of_ble_eq_true rfl)).trans ((nc_Run_un [] 28).trans rfl))
set_option maxRecDepth 100000 in
theorem qc_X12_planned (aa : Nat) (xb : Int32) (xc : Int32) (xd : Int32) (w : nc_H) : nc_Call m_X12_planned [.inr (.inr (12, aa)), .inl xb, .inl xc, .inl xd] w =
  nc_Run m_X12_planned 9 [some (.inr (.inr (12, aa))), some (.inl xb), some (.inl xc), some (.inl xd), some (.inl 0), some (.inl 1), some (.inl 0), none] [] w :=
  (nc_Call_eq _ _ _).trans ((if_pos (Nat.le_of_ble_eq_true rfl)).trans ((nc_Run_un [9] 7).trans rfl))
set_option maxRecDepth 100000 in
theorem qr_X12_planned_9 (aa : Nat) (xb : Int32) (xc : Int32) (xd : Int32) (xe : Int32) (xf : Int32) (xg : Int32) (w : nc_H) : nc_Run m_X12_planned 9 [some (.inr (.inr (12, aa))), some (.inl xb), some (.inl xc), some (.inl xd), some (.inl xe), some (.inl xf), some (.inl xg), none] [] w =
  if xd ≤ xg then
    nc_bV (nc_Call m_X12_back [.inr (.inr (12, aa))] w) fun w1 =>
    if xf = 0 then
      some (some (.inl (-1)), w1)
    else
      some (some (.inl xe), w1)
  else
    if xf = 0 then
      nc_bV (nc_Call m_X12_back [.inr (.inr (12, aa))] w) fun w2 =>
      if xf = 0 then
        some (some (.inl (-1)), w2)
      else
        some (some (.inl xe), w2)
    else
      nc_bI (nc_Call m_X12_digit [.inr (.inr (12, aa)), .inl xc, .inl xg, .inl xd] w) fun r4 w3 =>
      if r4 = (w3.1 874 aa 2) then
        if (w3.1 874 aa 2) ≤ r4 then
          nc_bI (nc_Call m_X12_milk [.inr (.inr (12, aa)), .inl xb] w3) fun r6 w5 =>
          nc_li (xe + r6) fun x7 =>
          nc_bV (nc_Call m_X12_day [.inr (.inr (12, aa))] w5) fun w8 =>
          nc_li (xg + 1) fun x9 =>
          nc_Run m_X12_planned 9 [some (.inr (.inr (12, aa))), some (.inl xb), some (.inl xc), some (.inl xd), some (.inl x7), some (.inl 1), some (.inl x9), none] [] w8
        else
          nc_bV (nc_Call m_X12_tells [.inr (.inr (12, aa)), .inl xb, .inl r4] w3) fun w10 =>
          nc_bI (nc_Call m_X12_milk [.inr (.inr (12, aa)), .inl xb] w10) fun r12 w11 =>
          nc_li (xe + r12) fun x13 =>
          nc_bV (nc_Call m_X12_day [.inr (.inr (12, aa))] w11) fun w14 =>
          nc_li (xg + 1) fun x15 =>
          nc_Run m_X12_planned 9 [some (.inr (.inr (12, aa))), some (.inl xb), some (.inl xc), some (.inl xd), some (.inl x13), some (.inl 1), some (.inl x15), none] [] w14
      else
        nc_bI (nc_Call m_X12_whyTell [.inr (.inr (12, aa)), .inl xb, .inl r4] w3) fun r17 w16 =>
        if r17 ≠ 0 then
          nc_bI (nc_Call m_X12_milk [.inr (.inr (12, aa)), .inl xb] w16) fun r19 w18 =>
          nc_li (xe + r19) fun x20 =>
          nc_bV (nc_Call m_X12_day [.inr (.inr (12, aa))] w18) fun w21 =>
          nc_li (xg + 1) fun x22 =>
          nc_Run m_X12_planned 9 [some (.inr (.inr (12, aa))), some (.inl xb), some (.inl xc), some (.inl xd), some (.inl x20), some (.inl 0), some (.inl x22), none] [] w21
        else
          if (w16.1 874 aa 2) ≤ r4 then
            nc_bI (nc_Call m_X12_milk [.inr (.inr (12, aa)), .inl xb] w16) fun r24 w23 =>
            nc_li (xe + r24) fun x25 =>
            nc_bV (nc_Call m_X12_day [.inr (.inr (12, aa))] w23) fun w26 =>
            nc_li (xg + 1) fun x27 =>
            nc_Run m_X12_planned 9 [some (.inr (.inr (12, aa))), some (.inl xb), some (.inl xc), some (.inl xd), some (.inl x25), some (.inl 1), some (.inl x27), none] [] w26
          else
            nc_bV (nc_Call m_X12_tells [.inr (.inr (12, aa)), .inl xb, .inl r4] w16) fun w28 =>
            nc_bI (nc_Call m_X12_milk [.inr (.inr (12, aa)), .inl xb] w28) fun r30 w29 =>
            nc_li (xe + r30) fun x31 =>
            nc_bV (nc_Call m_X12_day [.inr (.inr (12, aa))] w29) fun w32 =>
            nc_li (xg + 1) fun x33 =>
            nc_Run m_X12_planned 9 [some (.inr (.inr (12, aa))), some (.inl xb), some (.inl xc), some (.inl xd), some (.inl x31), some (.inl 1), some (.inl x33), none] [] w32 :=
  (nc_Run_un [9] 48).trans rfl
set_option maxRecDepth 100000 in
theorem qc_X12_plan (aa : Nat) (xb : Int32) (xc : Int32) (w : nc_H) : nc_Call m_X12_plan [.inr (.inr (12, aa)), .inl xb, .inl xc] w =
  nc_lt (nc_si w 12 aa 0 0) fun w1 =>
  nc_bI (nc_Call m_X12_isCow [.inr (.inr (12, aa)), .inl xb] w1) fun r3 w2 =>
  if r3 = 0 then
    some (some (.inl (-1)), w2)
  else
    nc_bI (nc_Call m_X12_isIn [.inl xc, .inl 1, .inl 3] w2) fun r5 w4 =>
    if r5 = 0 then
      some (some (.inl (-1)), w4)
    else
      if ((w4.1 874 aa 76) + xc) ≤ 400 then
        nc_Run m_X12_plan 44 [some (.inr (.inr (12, aa))), some (.inl xb), some (.inl xc), some (.inl 1), some (.inl 0), none, none, none] [] w4
      else
        some (some (.inl (-1)), w4) :=
  (nc_Call_eq _ _ _).trans ((if_pos (Nat.le_of_ble_eq_true rfl)).trans ((nc_Run_un [44, 80, 128] 25).trans rfl))
set_option maxRecDepth 100000 in
theorem qr_X12_plan_44 (aa : Nat) (xb : Int32) (xc : Int32) (xd : Int32) (xe : Int32) (w : nc_H) : nc_Run m_X12_plan 44 [some (.inr (.inr (12, aa))), some (.inl xb), some (.inl xc), some (.inl xd), some (.inl xe), none, none, none] [] w =
  if xc ≤ xe then
    nc_bV (nc_Call m_X12_tries [.inr (.inr (12, aa))] w) fun w1 =>
    nc_Run m_X12_plan 80 [some (.inr (.inr (12, aa))), some (.inl xb), some (.inl xc), some (.inl xd), some (.inl (-1)), some (.inl (-1)), some (.inl 0), none] [] w1
  else
    nc_li (xd * ((w.1 874 aa 2) + 1)) fun x2 =>
    nc_li (xe + 1) fun x3 =>
    nc_Run m_X12_plan 44 [some (.inr (.inr (12, aa))), some (.inl xb), some (.inl xc), some (.inl x2), some (.inl x3), none, none, none] [] w :=
  (nc_Run_un [44, 80, 128] 15).trans rfl
set_option maxRecDepth 100000 in
theorem qr_X12_plan_80 (aa : Nat) (xb : Int32) (xc : Int32) (xd : Int32) (xe : Int32) (xf : Int32) (xg : Int32) (w : nc_H) : nc_Run m_X12_plan 80 [some (.inr (.inr (12, aa))), some (.inl xb), some (.inl xc), some (.inl xd), some (.inl xe), some (.inl xf), some (.inl xg), none] [] w =
  if xd ≤ xg then
    nc_lt (nc_si w 12 aa 28 xc) fun w1 =>
    nc_Run m_X12_plan 128 [some (.inr (.inr (12, aa))), none, some (.inl xc), none, some (.inl xe), some (.inl xf), some (.inl 0), none] [] w1
  else
    nc_bI (nc_Call m_X12_planned [.inr (.inr (12, aa)), .inl xb, .inl xg, .inl xc] w) fun r3 w2 =>
    if xf < r3 then
      nc_li (xg + 1) fun x4 =>
      nc_Run m_X12_plan 80 [some (.inr (.inr (12, aa))), some (.inl xb), some (.inl xc), some (.inl xd), some (.inl xg), some (.inl r3), some (.inl x4), none] [] w2
    else
      nc_li (xg + 1) fun x5 =>
      nc_Run m_X12_plan 80 [some (.inr (.inr (12, aa))), some (.inl xb), some (.inl xc), some (.inl xd), some (.inl xe), some (.inl xf), some (.inl x5), none] [] w2 :=
  (nc_Run_un [44, 80, 128] 19).trans rfl
set_option maxRecDepth 100000 in
theorem qr_X12_plan_128 (aa : Nat) (xc : Int32) (xe : Int32) (xf : Int32) (xg : Int32) (w : nc_H) : nc_Run m_X12_plan 128 [some (.inr (.inr (12, aa))), none, some (.inl xc), none, some (.inl xe), some (.inl xf), some (.inl xg), none] [] w =
  if xc ≤ xg then
    some (some (.inl xf), w)
  else
    nc_bI (nc_Call m_X12_digit [.inr (.inr (12, aa)), .inl xe, .inl xg, .inl xc] w) fun r2 w1 =>
    if r2 ≠ (w1.1 874 aa 2) then
      nc_bd xg 3 fun j3 =>
      nc_lt (nc_si w1 895 aa j3 r2) fun w4 =>
      nc_li (xg + 1) fun x5 =>
      nc_Run m_X12_plan 128 [some (.inr (.inr (12, aa))), none, some (.inl xc), none, some (.inl xe), some (.inl xf), some (.inl x5), none] [] w4
    else
      nc_bd xg 3 fun j6 =>
      nc_lt (nc_si w1 895 aa j6 (-1)) fun w7 =>
      nc_li (xg + 1) fun x8 =>
      nc_Run m_X12_plan 128 [some (.inr (.inr (12, aa))), none, some (.inl xc), none, some (.inl xe), some (.inl xf), some (.inl x8), none] [] w7 :=
  (nc_Run_un [44, 80, 128] 24).trans rfl
set_option maxRecDepth 100000 in
theorem qc_X12_planAt (aa : Nat) (xb : Int32) (w : nc_H) : nc_Call m_X12_planAt [.inr (.inr (12, aa)), .inl xb] w =
  nc_lt (nc_si w 12 aa 0 0) fun w1 =>
  nc_bI (nc_Call m_X12_isIn [.inl xb, .inl 0, .inl ((w1.1 12 aa 28) - 1)] w1) fun r3 w2 =>
  if r3 = 0 then
    some (some (.inl (-1)), w2)
  else
    nc_bd xb 3 fun j4 =>
    some (some (.inl (w2.1 895 aa j4)), w2) :=
  (nc_Call_eq _ _ _).trans ((if_pos (Nat.le_of_ble_eq_true rfl)).trans ((nc_Run_un [] 17).trans rfl))
set_option maxRecDepth 100000 in
theorem qc_X12_allKnow (aa : Nat) (xb : Int32) (w : nc_H) : nc_Call m_X12_allKnow [.inr (.inr (12, aa)), .inl xb] w =
  nc_lt (nc_si w 12 aa 0 0) fun w1 =>
  nc_bI (nc_Call m_X12_isNews [.inr (.inr (12, aa)), .inl xb] w1) fun r3 w2 =>
  if r3 = 0 then
    some (some (.inl (-1)), w2)
  else
    if (w2.1 874 aa 1) ≠ 0 then
      nc_bV (nc_Call m_X12_tries [.inr (.inr (12, aa))] w2) fun w4 =>
      nc_Run m_X12_allKnow 32 [some (.inr (.inr (12, aa))), some (.inl xb), some (.inl (-1)), some (.inl 0), none, none] [] w4
    else
      some (some (.inl (-1)), w2) :=
  (nc_Call_eq _ _ _).trans ((if_pos (Nat.le_of_ble_eq_true rfl)).trans ((nc_Run_un [32, 58] 19).trans rfl))
set_option maxRecDepth 100000 in
theorem qr_X12_allKnow_32 (aa : Nat) (xb : Int32) (xc : Int32) (xd : Int32) (w : nc_H) : nc_Run m_X12_allKnow 32 [some (.inr (.inr (12, aa))), some (.inl xb), some (.inl xc), some (.inl xd), none, none] [] w =
  if (200 : Int32) ≤ xd then
    nc_bV (nc_Call m_X12_back [.inr (.inr (12, aa))] w) fun w1 =>
    some (some (.inl xc), w1)
  else
    if (0 : Int32) ≤ xc then
      nc_bV (nc_Call m_X12_back [.inr (.inr (12, aa))] w) fun w2 =>
      some (some (.inl xc), w2)
    else
      nc_bI (nc_Call m_X12_goesOn [.inr (.inr (12, aa)), .inl 1] w) fun r4 w3 =>
      if r4 ≠ 1 then
        nc_bV (nc_Call m_X12_back [.inr (.inr (12, aa))] w3) fun w5 =>
        some (some (.inl xc), w5)
      else
        nc_Run m_X12_allKnow 58 [some (.inr (.inr (12, aa))), some (.inl xb), some (.inl xc), some (.inl xd), some (.inl 1), some (.inl 0)] [] w3 :=
  (nc_Run_un [32, 58] 15).trans rfl
set_option maxRecDepth 100000 in
theorem qr_X12_allKnow_58 (aa : Nat) (xb : Int32) (xc : Int32) (xd : Int32) (xe : Int32) (xf : Int32) (w : nc_H) : nc_Run m_X12_allKnow 58 [some (.inr (.inr (12, aa))), some (.inl xb), some (.inl xc), some (.inl xd), some (.inl xe), some (.inl xf)] [] w =
  if (w.1 874 aa 1) ≤ xf then
    if xe = 0 then
      nc_li (xd + 1) fun x1 =>
      nc_Run m_X12_allKnow 32 [some (.inr (.inr (12, aa))), some (.inl xb), some (.inl xc), some (.inl x1), none, none] [] w
    else
      nc_li ((w.1 874 aa 76) - 1) fun x2 =>
      nc_li (xd + 1) fun x3 =>
      nc_Run m_X12_allKnow 32 [some (.inr (.inr (12, aa))), some (.inl xb), some (.inl x2), some (.inl x3), none, none] [] w
  else
    if xe = 0 then
      nc_li (xf + 1) fun x4 =>
      nc_Run m_X12_allKnow 58 [some (.inr (.inr (12, aa))), some (.inl xb), some (.inl xc), some (.inl xd), some (.inl 0), some (.inl x4)] [] w
    else
      nc_bI (nc_Call m_X12_knows [.inr (.inr (12, aa)), .inl xf, .inl xb] w) fun r6 w5 =>
      if r6 = 0 then
        nc_li (xf + 1) fun x7 =>
        nc_Run m_X12_allKnow 58 [some (.inr (.inr (12, aa))), some (.inl xb), some (.inl xc), some (.inl xd), some (.inl 0), some (.inl x7)] [] w5
      else
        nc_li (xf + 1) fun x8 =>
        nc_Run m_X12_allKnow 58 [some (.inr (.inr (12, aa))), some (.inl xb), some (.inl xc), some (.inl xd), some (.inl 1), some (.inl x8)] [] w5 :=
  (nc_Run_un [32, 58] 19).trans rfl
set_option maxRecDepth 100000 in
theorem qc_X12_comes (aa : Nat) (xb : Int32) (xc : Int32) (xd : Int32) (w : nc_H) : nc_Call m_X12_comes [.inr (.inr (12, aa)), .inl xb, .inl xc, .inl xd] w =
  nc_li (1 <<< (xb &&& 31)) fun x1 =>
  nc_Run m_X12_comes 8 [some (.inr (.inr (12, aa))), none, some (.inl xc), some (.inl xd), some (.inl x1), some (.inl 0), none] [] w :=
  (nc_Call_eq _ _ _).trans ((if_pos (Nat.le_of_ble_eq_true rfl)).trans ((nc_Run_un [8, 17] 7).trans rfl))
set_option maxRecDepth 100000 in
theorem qr_X12_comes_8 (aa : Nat) (xc : Int32) (xd : Int32) (xe : Int32) (xf : Int32) (w : nc_H) : nc_Run m_X12_comes 8 [some (.inr (.inr (12, aa))), none, some (.inl xc), some (.inl xd), some (.inl xe), some (.inl xf), none] [] w =
  if (4 : Int32) ≤ xf then
    nc_bI (nc_Call m_X12_bitOf [.inl xe, .inl xc] w) fun r2 w1 =>
    nc_z r2 <| some (some (.inl r2), w1)
  else
    nc_Run m_X12_comes 17 [some (.inr (.inr (12, aa))), none, some (.inl xc), some (.inl xd), some (.inl xe), some (.inl xf), some (.inl 0)] [] w :=
  (nc_Run_un [8, 17] 7).trans rfl
set_option maxRecDepth 100000 in
theorem qr_X12_comes_17 (aa : Nat) (xc : Int32) (xd : Int32) (xe : Int32) (xf : Int32) (xg : Int32) (w : nc_H) : nc_Run m_X12_comes 17 [some (.inr (.inr (12, aa))), none, some (.inl xc), some (.inl xd), some (.inl xe), some (.inl xf), some (.inl xg)] [] w =
  if (w.1 874 aa 3) ≤ xg then
    nc_li (xf + 1) fun x1 =>
    nc_Run m_X12_comes 8 [some (.inr (.inr (12, aa))), none, some (.inl xc), some (.inl xd), some (.inl xe), some (.inl x1), none] [] w
  else
    nc_bI (nc_Call m_X12_bitOf [.inl xd, .inl xg] w) fun r3 w2 =>
    if r3 ≠ 0 then
      nc_bd (58 + xg) 513 fun j4 =>
      nc_bI (nc_Call m_X12_bitOf [.inl xe, .inl (w2.1 874 aa j4)] w2) fun r6 w5 =>
      if r6 ≠ 0 then
        nc_bd (58 + xg) 513 fun j7 =>
        nc_bd (64 + xg) 513 fun j8 =>
        nc_li (xe ||| ((1 <<< ((w5.1 874 aa j7) &&& 31)) ||| (1 <<< ((w5.1 874 aa j8) &&& 31)))) fun x9 =>
        nc_li (xg + 1) fun x10 =>
        nc_Run m_X12_comes 17 [some (.inr (.inr (12, aa))), none, some (.inl xc), some (.inl xd), some (.inl x9), some (.inl xf), some (.inl x10)] [] w5
      else
        nc_bd (64 + xg) 513 fun j11 =>
        nc_bI (nc_Call m_X12_bitOf [.inl xe, .inl (w5.1 874 aa j11)] w5) fun r13 w12 =>
        if r13 = 0 then
          nc_li (xg + 1) fun x14 =>
          nc_Run m_X12_comes 17 [some (.inr (.inr (12, aa))), none, some (.inl xc), some (.inl xd), some (.inl xe), some (.inl xf), some (.inl x14)] [] w12
        else
          nc_bd (58 + xg) 513 fun j15 =>
          nc_bd (64 + xg) 513 fun j16 =>
          nc_li (xe ||| ((1 <<< ((w12.1 874 aa j15) &&& 31)) ||| (1 <<< ((w12.1 874 aa j16) &&& 31)))) fun x17 =>
          nc_li (xg + 1) fun x18 =>
          nc_Run m_X12_comes 17 [some (.inr (.inr (12, aa))), none, some (.inl xc), some (.inl xd), some (.inl x17), some (.inl xf), some (.inl x18)] [] w12
    else
      nc_li (xg + 1) fun x19 =>
      nc_Run m_X12_comes 17 [some (.inr (.inr (12, aa))), none, some (.inl xc), some (.inl xd), some (.inl xe), some (.inl xf), some (.inl x19)] [] w2 :=
  (nc_Run_un [8, 17] 51).trans rfl
set_option maxRecDepth 100000 in
theorem qc_X12_part (aa : Nat) (xb : Int32) (xc : Int32) (w : nc_H) : nc_Call m_X12_part [.inr (.inr (12, aa)), .inl xb, .inl xc] w =
  nc_lt (nc_si w 12 aa 0 0) fun w1 =>
  nc_bI (nc_Call m_X12_isFarm [.inr (.inr (12, aa)), .inl xb] w1) fun r3 w2 =>
  if r3 = 0 then
    some (some (.inl (-1)), w2)
  else
    nc_bI (nc_Call m_X12_isFarm [.inr (.inr (12, aa)), .inl xc] w2) fun r5 w4 =>
    if r5 = 0 then
      some (some (.inl (-1)), w4)
    else
      if xb ≠ xc then
        nc_li ((1 <<< ((w4.1 874 aa 3) &&& 31)) - 1) fun x6 =>
        nc_Run m_X12_part 45 [some (.inr (.inr (12, aa))), some (.inl xb), some (.inl xc), some (.inl x6), some (.inl x6), some (.inl x6)] [] w4
      else
        some (some (.inl (-1)), w4) :=
  (nc_Call_eq _ _ _).trans ((if_pos (Nat.le_of_ble_eq_true rfl)).trans ((nc_Run_un [45] 28).trans rfl))
