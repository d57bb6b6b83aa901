set_option maxRecDepth 100000 in
theorem qc_X9_readCond_6 (aa : Nat) (ab : Nat) (ac : Nat) (xd : Int32) (w : nc_H) : nc_Call m_X9_readCond_6 [.inr (.inr (9, aa)), .inr (.inr (10, ab)), .inr (.inr (2, ac)), .inl xd] w =
  nc_bI (nc_Call m_X9_readAll_6 [.inr (.inr (9, aa)), .inr (.inr (10, ab)), .inr (.inr (2, ac)), .inl xd] w) fun r2 w1 =>
  if r2 ≠ 0 then
    nc_Run m_X9_readCond_6 15 [some (.inr (.inr (9, aa))), some (.inr (.inr (10, ab))), some (.inr (.inr (2, ac))), some (.inl xd), some (.inl 0)] [] w1
  else
    some (some (.inl 0), w1) :=
  (nc_Call_eq _ _ _).trans ((if_pos (Nat.le_of_ble_eq_true rfl)).trans ((nc_Run_un [15] 9).trans rfl))
set_option maxRecDepth 100000 in
theorem qr_X9_readCond_6_15 (aa : Nat) (ab : Nat) (ac : Nat) (xd : Int32) (xe : Int32) (w : nc_H) : nc_Run m_X9_readCond_6 15 [some (.inr (.inr (9, aa))), some (.inr (.inr (10, ab))), some (.inr (.inr (2, ac))), some (.inl xd), some (.inl xe)] [] w =
  if (20 : Int32) ≤ xe then
    some (some (.inl 1), w)
  else
    nc_bI (nc_Call m_X10_word [.inr (.inr (10, ab))] w) fun r2 w1 =>
    if r2 ≠ 12 then
      some (some (.inl 1), w1)
    else
      nc_bV (nc_Call m_X10_next [.inr (.inr (10, ab))] w1) fun w3 =>
      nc_bI (nc_Call m_X9_readAll_6 [.inr (.inr (9, aa)), .inr (.inr (10, ab)), .inr (.inr (2, ac)), .inl xd] w3) fun r5 w4 =>
      if r5 ≠ 0 then
        nc_bV (nc_Call m_X9_put [.inr (.inr (9, aa)), .inl 12, .inl 0, .inl 0] w4) fun w6 =>
        nc_li (xe + 1) fun x7 =>
        nc_Run m_X9_readCond_6 15 [some (.inr (.inr (9, aa))), some (.inr (.inr (10, ab))), some (.inr (.inr (2, ac))), some (.inl xd), some (.inl x7)] [] w6
      else
        some (some (.inl 0), w4) :=
  (nc_Run_un [15] 23).trans rfl
set_option maxRecDepth 100000 in
theorem qc_X9_readOne_5 (aa : Nat) (ab : Nat) (ac : Nat) (xd : Int32) (w : nc_H) : nc_Call m_X9_readOne_5 [.inr (.inr (9, aa)), .inr (.inr (10, ab)), .inr (.inr (2, ac)), .inl xd] w =
  nc_bI (nc_Call m_X10_isSign [.inr (.inr (10, ab)), .inl 40] w) fun r2 w1 =>
  nc_bI (nc_Call m_X10_word [.inr (.inr (10, ab))] w1) fun r4 w3 =>
  if r2 ≠ 0 then
    if (20 : Int32) ≤ (w3.1 9 aa 4) then
      nc_bI (nc_Call m_X10_fail [.inr (.inr (10, ab)), .inl 4] w3) fun r6 w5 =>
      nc_z r6 <| some (some (.inl r6), w5)
    else
      if xd ≤ 8 then
        nc_lt (nc_si w3 9 aa 4 ((w3.1 9 aa 4) + 1)) fun w7 =>
        if r2 = 0 then
          if r4 ≠ 14 then
            nc_bI (nc_Call m_X9_readPlainOne [.inr (.inr (9, aa)), .inr (.inr (10, ab)), .inr (.inr (2, ac)), .inl r4] w7) fun r9 w8 =>
            if r9 ≠ 0 then
              nc_bV (nc_Call m_X10_next [.inr (.inr (10, ab))] w8) fun w10 =>
              some (some (.inl 1), w10)
            else
              some (some (.inl 0), w8)
          else
            nc_bV (nc_Call m_X10_next [.inr (.inr (10, ab))] w7) fun w11 =>
            nc_bI (nc_Call m_X9_readOne_6 [.inr (.inr (9, aa)), .inr (.inr (10, ab)), .inr (.inr (2, ac)), .inl (xd + 1)] w11) fun r13 w12 =>
            if r13 ≠ 0 then
              nc_bV (nc_Call m_X9_put [.inr (.inr (9, aa)), .inl 14, .inl 0, .inl 0] w12) fun w14 =>
              some (some (.inl 1), w14)
            else
              some (some (.inl 0), w12)
        else
          nc_bV (nc_Call m_X10_next [.inr (.inr (10, ab))] w7) fun w15 =>
          nc_bI (nc_Call m_X9_readCond_6 [.inr (.inr (9, aa)), .inr (.inr (10, ab)), .inr (.inr (2, ac)), .inl (xd + 1)] w15) fun r17 w16 =>
          if r17 = 0 then
            some (some (.inl 0), w16)
          else
            nc_bI (nc_Call m_X10_mustBeSign [.inr (.inr (10, ab)), .inl 41] w16) fun r19 w18 =>
            if r19 ≠ 0 then
              nc_bV (nc_Call m_X10_next [.inr (.inr (10, ab))] w18) fun w20 =>
              some (some (.inl 1), w20)
            else
              some (some (.inl 0), w18)
      else
        nc_bI (nc_Call m_X10_fail [.inr (.inr (10, ab)), .inl 4] w3) fun r22 w21 =>
        nc_z r22 <| some (some (.inl r22), w21)
  else
    if (14 : Int32) ≤ r4 then
      if (20 : Int32) ≤ (w3.1 9 aa 4) then
        nc_bI (nc_Call m_X10_fail [.inr (.inr (10, ab)), .inl 4] w3) fun r24 w23 =>
        nc_z r24 <| some (some (.inl r24), w23)
      else
        if xd ≤ 8 then
          nc_lt (nc_si w3 9 aa 4 ((w3.1 9 aa 4) + 1)) fun w25 =>
          if r2 = 0 then
            if r4 ≠ 14 then
              nc_bI (nc_Call m_X9_readPlainOne [.inr (.inr (9, aa)), .inr (.inr (10, ab)), .inr (.inr (2, ac)), .inl r4] w25) fun r27 w26 =>
              if r27 ≠ 0 then
                nc_bV (nc_Call m_X10_next [.inr (.inr (10, ab))] w26) fun w28 =>
                some (some (.inl 1), w28)
              else
                some (some (.inl 0), w26)
            else
              nc_bV (nc_Call m_X10_next [.inr (.inr (10, ab))] w25) fun w29 =>
              nc_bI (nc_Call m_X9_readOne_6 [.inr (.inr (9, aa)), .inr (.inr (10, ab)), .inr (.inr (2, ac)), .inl (xd + 1)] w29) fun r31 w30 =>
              if r31 ≠ 0 then
                nc_bV (nc_Call m_X9_put [.inr (.inr (9, aa)), .inl 14, .inl 0, .inl 0] w30) fun w32 =>
                some (some (.inl 1), w32)
              else
                some (some (.inl 0), w30)
          else
            nc_bV (nc_Call m_X10_next [.inr (.inr (10, ab))] w25) fun w33 =>
            nc_bI (nc_Call m_X9_readCond_6 [.inr (.inr (9, aa)), .inr (.inr (10, ab)), .inr (.inr (2, ac)), .inl (xd + 1)] w33) fun r35 w34 =>
            if r35 = 0 then
              some (some (.inl 0), w34)
            else
              nc_bI (nc_Call m_X10_mustBeSign [.inr (.inr (10, ab)), .inl 41] w34) fun r37 w36 =>
              if r37 ≠ 0 then
                nc_bV (nc_Call m_X10_next [.inr (.inr (10, ab))] w36) fun w38 =>
                some (some (.inl 1), w38)
              else
                some (some (.inl 0), w36)
        else
          nc_bI (nc_Call m_X10_fail [.inr (.inr (10, ab)), .inl 4] w3) fun r40 w39 =>
          nc_z r40 <| some (some (.inl r40), w39)
    else
      nc_bI (nc_Call m_X10_fail [.inr (.inr (10, ab)), .inl 1] w3) fun r42 w41 =>
      nc_z r42 <| some (some (.inl r42), w41) :=
  (nc_Call_eq _ _ _).trans ((if_pos (Nat.le_of_ble_eq_true rfl)).trans ((nc_Run_un [] 47).trans rfl))
set_option maxRecDepth 100000 in
theorem qc_X9_readAll_5 (aa : Nat) (ab : Nat) (ac : Nat) (xd : Int32) (w : nc_H) : nc_Call m_X9_readAll_5 [.inr (.inr (9, aa)), .inr (.inr (10, ab)), .inr (.inr (2, ac)), .inl xd] w =
  nc_bI (nc_Call m_X9_readOne_5 [.inr (.inr (9, aa)), .inr (.inr (10, ab)), .inr (.inr (2, ac)), .inl xd] w) fun r2 w1 =>
  if r2 ≠ 0 then
    nc_Run m_X9_readAll_5 15 [some (.inr (.inr (9, aa))), some (.inr (.inr (10, ab))), some (.inr (.inr (2, ac))), some (.inl xd), some (.inl 0)] [] w1
  else
    some (some (.inl 0), w1) :=
  (nc_Call_eq _ _ _).trans ((if_pos (Nat.le_of_ble_eq_true rfl)).trans ((nc_Run_un [15] 9).trans rfl))
set_option maxRecDepth 100000 in
theorem qr_X9_readAll_5_15 (aa : Nat) (ab : Nat) (ac : Nat) (xd : Int32) (xe : Int32) (w : nc_H) : nc_Run m_X9_readAll_5 15 [some (.inr (.inr (9, aa))), some (.inr (.inr (10, ab))), some (.inr (.inr (2, ac))), some (.inl xd), some (.inl xe)] [] w =
  if (20 : Int32) ≤ xe then
    some (some (.inl 1), w)
  else
    nc_bI (nc_Call m_X10_word [.inr (.inr (10, ab))] w) fun r2 w1 =>
    if r2 ≠ 13 then
      some (some (.inl 1), w1)
    else
      nc_bV (nc_Call m_X10_next [.inr (.inr (10, ab))] w1) fun w3 =>
      nc_bI (nc_Call m_X9_readOne_5 [.inr (.inr (9, aa)), .inr (.inr (10, ab)), .inr (.inr (2, ac)), .inl xd] w3) fun r5 w4 =>
      if r5 ≠ 0 then
        nc_bV (nc_Call m_X9_put [.inr (.inr (9, aa)), .inl 13, .inl 0, .inl 0] w4) fun w6 =>
        nc_li (xe + 1) fun x7 =>
        nc_Run m_X9_readAll_5 15 [some (.inr (.inr (9, aa))), some (.inr (.inr (10, ab))), some (.inr (.inr (2, ac))), some (.inl xd), some (.inl x7)] [] w6
      else
        some (some (.inl 0), w4) :=
  (nc_Run_un [15] 23).trans rfl
set_option maxRecDepth 100000 in
theorem qc_X9_readCond_5 (aa : Nat) (ab : Nat) (ac : Nat) (xd : Int32) (w : nc_H) : nc_Call m_X9_readCond_5 [.inr (.inr (9, aa)), .inr (.inr (10, ab)), .inr (.inr (2, ac)), .inl xd] w =
  nc_bI (nc_Call m_X9_readAll_5 [.inr (.inr (9, aa)), .inr (.inr (10, ab)), .inr (.inr (2, ac)), .inl xd] w) fun r2 w1 =>
  if r2 ≠ 0 then
    nc_Run m_X9_readCond_5 15 [some (.inr (.inr (9, aa))), some (.inr (.inr (10, ab))), some (.inr (.inr (2, ac))), some (.inl xd), some (.inl 0)] [] w1
  else
    some (some (.inl 0), w1) :=
  (nc_Call_eq _ _ _).trans ((if_pos (Nat.le_of_ble_eq_true rfl)).trans ((nc_Run_un [15] 9).trans rfl))
set_option maxRecDepth 100000 in
theorem qr_X9_readCond_5_15 (aa : Nat) (ab : Nat) (ac : Nat) (xd : Int32) (xe : Int32) (w : nc_H) : nc_Run m_X9_readCond_5 15 [some (.inr (.inr (9, aa))), some (.inr (.inr (10, ab))), some (.inr (.inr (2, ac))), some (.inl xd), some (.inl xe)] [] w =
  if (20 : Int32) ≤ xe then
    some (some (.inl 1), w)
  else
    nc_bI (nc_Call m_X10_word [.inr (.inr (10, ab))] w) fun r2 w1 =>
    if r2 ≠ 12 then
      some (some (.inl 1), w1)
    else
      nc_bV (nc_Call m_X10_next [.inr (.inr (10, ab))] w1) fun w3 =>
      nc_bI (nc_Call m_X9_readAll_5 [.inr (.inr (9, aa)), .inr (.inr (10, ab)), .inr (.inr (2, ac)), .inl xd] w3) fun r5 w4 =>
      if r5 ≠ 0 then
        nc_bV (nc_Call m_X9_put [.inr (.inr (9, aa)), .inl 12, .inl 0, .inl 0] w4) fun w6 =>
        nc_li (xe + 1) fun x7 =>
        nc_Run m_X9_readCond_5 15 [some (.inr (.inr (9, aa))), some (.inr (.inr (10, ab))), some (.inr (.inr (2, ac))), some (.inl xd), some (.inl x7)] [] w6
      else
        some (some (.inl 0), w4) :=
  (nc_Run_un [15] 23).trans rfl
set_option maxRecDepth 100000 in
theorem qc_X9_readOne_4 (aa : Nat) (ab : Nat) (ac : Nat) (xd : Int32) (w : nc_H) : nc_Call m_X9_readOne_4 [.inr (.inr (9, aa)), .inr (.inr (10, ab)), .inr (.inr (2, ac)), .inl xd] w =
  nc_bI (nc_Call m_X10_isSign [.inr (.inr (10, ab)), .inl 40] w) fun r2 w1 =>
  nc_bI (nc_Call m_X10_word [.inr (.inr (10, ab))] w1) fun r4 w3 =>
  if r2 ≠ 0 then
    if (20 : Int32) ≤ (w3.1 9 aa 4) then
      nc_bI (nc_Call m_X10_fail [.inr (.inr (10, ab)), .inl 4] w3) fun r6 w5 =>
      nc_z r6 <| some (some (.inl r6), w5)
    else
      if xd ≤ 8 then
        nc_lt (nc_si w3 9 aa 4 ((w3.1 9 aa 4) + 1)) fun w7 =>
        if r2 = 0 then
          if r4 ≠ 14 then
            nc_bI (nc_Call m_X9_readPlainOne [.inr (.inr (9, aa)), .inr (.inr (10, ab)), .inr (.inr (2, ac)), .inl r4] w7) fun r9 w8 =>
            if r9 ≠ 0 then
              nc_bV (nc_Call m_X10_next [.inr (.inr (10, ab))] w8) fun w10 =>
              some (some (.inl 1), w10)
            else
              some (some (.inl 0), w8)
          else
            nc_bV (nc_Call m_X10_next [.inr (.inr (10, ab))] w7) fun w11 =>
            nc_bI (nc_Call m_X9_readOne_5 [.inr (.inr (9, aa)), .inr (.inr (10, ab)), .inr (.inr (2, ac)), .inl (xd + 1)] w11) fun r13 w12 =>
            if r13 ≠ 0 then
              nc_bV (nc_Call m_X9_put [.inr (.inr (9, aa)), .inl 14, .inl 0, .inl 0] w12) fun w14 =>
              some (some (.inl 1), w14)
            else
              some (some (.inl 0), w12)
        else
          nc_bV (nc_Call m_X10_next [.inr (.inr (10, ab))] w7) fun w15 =>
          nc_bI (nc_Call m_X9_readCond_5 [.inr (.inr (9, aa)), .inr (.inr (10, ab)), .inr (.inr (2, ac)), .inl (xd + 1)] w15) fun r17 w16 =>
          if r17 = 0 then
            some (some (.inl 0), w16)
          else
            nc_bI (nc_Call m_X10_mustBeSign [.inr (.inr (10, ab)), .inl 41] w16) fun r19 w18 =>
            if r19 ≠ 0 then
              nc_bV (nc_Call m_X10_next [.inr (.inr (10, ab))] w18) fun w20 =>
              some (some (.inl 1), w20)
            else
              some (some (.inl 0), w18)
      else
        nc_bI (nc_Call m_X10_fail [.inr (.inr (10, ab)), .inl 4] w3) fun r22 w21 =>
        nc_z r22 <| some (some (.inl r22), w21)
  else
    if (14 : Int32) ≤ r4 then
      if (20 : Int32) ≤ (w3.1 9 aa 4) then
        nc_bI (nc_Call m_X10_fail [.inr (.inr (10, ab)), .inl 4] w3) fun r24 w23 =>
        nc_z r24 <| some (some (.inl r24), w23)
      else
        if xd ≤ 8 then
          nc_lt (nc_si w3 9 aa 4 ((w3.1 9 aa 4) + 1)) fun w25 =>
          if r2 = 0 then
            if r4 ≠ 14 then
              nc_bI (nc_Call m_X9_readPlainOne [.inr (.inr (9, aa)), .inr (.inr (10, ab)), .inr (.inr (2, ac)), .inl r4] w25) fun r27 w26 =>
              if r27 ≠ 0 then
                nc_bV (nc_Call m_X10_next [.inr (.inr (10, ab))] w26) fun w28 =>
                some (some (.inl 1), w28)
              else
                some (some (.inl 0), w26)
            else
              nc_bV (nc_Call m_X10_next [.inr (.inr (10, ab))] w25) fun w29 =>
              nc_bI (nc_Call m_X9_readOne_5 [.inr (.inr (9, aa)), .inr (.inr (10, ab)), .inr (.inr (2, ac)), .inl (xd + 1)] w29) fun r31 w30 =>
              if r31 ≠ 0 then
                nc_bV (nc_Call m_X9_put [.inr (.inr (9, aa)), .inl 14, .inl 0, .inl 0] w30) fun w32 =>
                some (some (.inl 1), w32)
              else
                some (some (.inl 0), w30)
          else
            nc_bV (nc_Call m_X10_next [.inr (.inr (10, ab))] w25) fun w33 =>
            nc_bI (nc_Call m_X9_readCond_5 [.inr (.inr (9, aa)), .inr (.inr (10, ab)), .inr (.inr (2, ac)), .inl (xd + 1)] w33) fun r35 w34 =>
            if r35 = 0 then
              some (some (.inl 0), w34)
            else
              nc_bI (nc_Call m_X10_mustBeSign [.inr (.inr (10, ab)), .inl 41] w34) fun r37 w36 =>
              if r37 ≠ 0 then
                nc_bV (nc_Call m_X10_next [.inr (.inr (10, ab))] w36) fun w38 =>
                some (some (.inl 1), w38)
              else
                some (some (.inl 0), w36)
        else
          nc_bI (nc_Call m_X10_fail [.inr (.inr (10, ab)), .inl 4] w3) fun r40 w39 =>
          nc_z r40 <| some (some (.inl r40), w39)
    else
      nc_bI (nc_Call m_X10_fail [.inr (.inr (10, ab)), .inl 1] w3) fun r42 w41 =>
      nc_z r42 <| some (some (.inl r42), w41) :=
  (nc_Call_eq _ _ _).trans ((if_pos (Nat.le_of_ble_eq_true rfl)).trans ((nc_Run_un [] 47).trans rfl))
set_option maxRecDepth 100000 in
theorem qc_X9_readAll_4 (aa : Nat) (ab : Nat) (ac : Nat) (xd : Int32) (w : nc_H) : nc_Call m_X9_readAll_4 [.inr (.inr (9, aa)), .inr (.inr (10, ab)), .inr (.inr (2, ac)), .inl xd] w =
  nc_bI (nc_Call m_X9_readOne_4 [.inr (.inr (9, aa)), .inr (.inr (10, ab)), .inr (.inr (2, ac)), .inl xd] w) fun r2 w1 =>
  if r2 ≠ 0 then
    nc_Run m_X9_readAll_4 15 [some (.inr (.inr (9, aa))), some (.inr (.inr (10, ab))), some (.inr (.inr (2, ac))), some (.inl xd), some (.inl 0)] [] w1
  else
    some (some (.inl 0), w1) :=
  (nc_Call_eq _ _ _).trans ((if_pos (Nat.le_of_ble_eq_true rfl)).trans ((nc_Run_un [15] 9).trans rfl))
set_option maxRecDepth 100000 in
theorem qr_X9_readAll_4_15 (aa : Nat) (ab : Nat) (ac : Nat) (xd : Int32) (xe : Int32) (w : nc_H) : nc_Run m_X9_readAll_4 15 [some (.inr (.inr (9, aa))), some (.inr (.inr (10, ab))), some (.inr (.inr (2, ac))), some (.inl xd), some (.inl xe)] [] w =
  if (20 : Int32) ≤ xe then
    some (some (.inl 1), w)
  else
    nc_bI (nc_Call m_X10_word [.inr (.inr (10, ab))] w) fun r2 w1 =>
    if r2 ≠ 13 then
      some (some (.inl 1), w1)
    else
      nc_bV (nc_Call m_X10_next [.inr (.inr (10, ab))] w1) fun w3 =>
      nc_bI (nc_Call m_X9_readOne_4 [.inr (.inr (9, aa)), .inr (.inr (10, ab)), .inr (.inr (2, ac)), .inl xd] w3) fun r5 w4 =>
      if r5 ≠ 0 then
        nc_bV (nc_Call m_X9_put [.inr (.inr (9, aa)), .inl 13, .inl 0, .inl 0] w4) fun w6 =>
        nc_li (xe + 1) fun x7 =>
        nc_Run m_X9_readAll_4 15 [some (.inr (.inr (9, aa))), some (.inr (.inr (10, ab))), some (.inr (.inr (2, ac))), some (.inl xd), some (.inl x7)] [] w6
      else
        some (some (.inl 0), w4) :=
  (nc_Run_un [15] 23).trans rfl
set_option maxRecDepth 100000 in
theorem qc_X9_readCond_4 (aa : Nat) (ab : Nat) (ac : Nat) (xd : Int32) (w : nc_H) : nc_Call m_X9_readCond_4 [.inr (.inr (9, aa)), .inr (.inr (10, ab)), .inr (.inr (2, ac)), .inl xd] w =
  nc_bI (nc_Call m_X9_readAll_4 [.inr (.inr (9, aa)), .inr (.inr (10, ab)), .inr (.inr (2, ac)), .inl xd] w) fun r2 w1 =>
  if r2 ≠ 0 then
    nc_Run m_X9_readCond_4 15 [some (.inr (.inr (9, aa))), some (.inr (.inr (10, ab))), some (.inr (.inr (2, ac))), some (.inl xd), some (.inl 0)] [] w1
  else
    some (some (.inl 0), w1) :=
  (nc_Call_eq _ _ _).trans ((if_pos (Nat.le_of_ble_eq_true rfl)).trans ((nc_Run_un [15] 9).trans rfl))
set_option maxRecDepth 100000 in
theorem qr_X9_readCond_4_15 (aa : Nat) (ab : Nat) (ac : Nat) (xd : Int32) (xe : Int32) (w : nc_H) : nc_Run m_X9_readCond_4 15 [some (.inr (.inr (9, aa))), some (.inr (.inr (10, ab))), some (.inr (.inr (2, ac))), some (.inl xd), some (.inl xe)] [] w =
  if (20 : Int32) ≤ xe then
    some (some (.inl 1), w)
  else
    nc_bI (nc_Call m_X10_word [.inr (.inr (10, ab))] w) fun r2 w1 =>
    if r2 ≠ 12 then
      some (some (.inl 1), w1)
    else
      nc_bV (nc_Call m_X10_next [.inr (.inr (10, ab))] w1) fun w3 =>
      nc_bI (nc_Call m_X9_readAll_4 [.inr (.inr (9, aa)), .inr (.inr (10, ab)), .inr (.inr (2, ac)), .inl xd] w3) fun r5 w4 =>
      if r5 ≠ 0 then
        nc_bV (nc_Call m_X9_put [.inr (.inr (9, aa)), .inl 12, .inl 0, .inl 0] w4) fun w6 =>
        nc_li (xe + 1) fun x7 =>
        nc_Run m_X9_readCond_4 15 [some (.inr (.inr (9, aa))), some (.inr (.inr (10, ab))), some (.inr (.inr (2, ac))), some (.inl xd), some (.inl x7)] [] w6
      else
        some (some (.inl 0), w4) :=
  (nc_Run_un [15] 23).trans rfl
set_option maxRecDepth 100000 in
theorem qc_X9_readOne_3 (aa : Nat) (ab : Nat) (ac : Nat) (xd : Int32) (w : nc_H) : nc_Call m_X9_readOne_3 [.inr (.inr (9, aa)), .inr (.inr (10, ab)), .inr (.inr (2, ac)), .inl xd] w =
  nc_bI (nc_Call m_X10_isSign [.inr (.inr (10, ab)), .inl 40] w) fun r2 w1 =>
  nc_bI (nc_Call m_X10_word [.inr (.inr (10, ab))] w1) fun r4 w3 =>
  if r2 ≠ 0 then
    if (20 : Int32) ≤ (w3.1 9 aa 4) then
      nc_bI (nc_Call m_X10_fail [.inr (.inr (10, ab)), .inl 4] w3) fun r6 w5 =>
      nc_z r6 <| some (some (.inl r6), w5)
    else
      if xd ≤ 8 then
        nc_lt (nc_si w3 9 aa 4 ((w3.1 9 aa 4) + 1)) fun w7 =>
        if r2 = 0 then
          if r4 ≠ 14 then
            nc_bI (nc_Call m_X9_readPlainOne [.inr (.inr (9, aa)), .inr (.inr (10, ab)), .inr (.inr (2, ac)), .inl r4] w7) fun r9 w8 =>
            if r9 ≠ 0 then
              nc_bV (nc_Call m_X10_next [.inr (.inr (10, ab))] w8) fun w10 =>
              some (some (.inl 1), w10)
            else
              some (some (.inl 0), w8)
          else
            nc_bV (nc_Call m_X10_next [.inr (.inr (10, ab))] w7) fun w11 =>
            nc_bI (nc_Call m_X9_readOne_4 [.inr (.inr (9, aa)), .inr (.inr (10, ab)), .inr (.inr (2, ac)), .inl (xd + 1)] w11) fun r13 w12 =>
            if r13 ≠ 0 then
              nc_bV (nc_Call m_X9_put [.inr (.inr (9, aa)), .inl 14, .inl 0, .inl 0] w12) fun w14 =>
              some (some (.inl 1), w14)
            else
              some (some (.inl 0), w12)
        else
          nc_bV (nc_Call m_X10_next [.inr (.inr (10, ab))] w7) fun w15 =>
          nc_bI (nc_Call m_X9_readCond_4 [.inr (.inr (9, aa)), .inr (.inr (10, ab)), .inr (.inr (2, ac)), .inl (xd + 1)] w15) fun r17 w16 =>
          if r17 = 0 then
            some (some (.inl 0), w16)
          else
            nc_bI (nc_Call m_X10_mustBeSign [.inr (.inr (10, ab)), .inl 41] w16) fun r19 w18 =>
            if r19 ≠ 0 then
              nc_bV (nc_Call m_X10_next [.inr (.inr (10, ab))] w18) fun w20 =>
              some (some (.inl 1), w20)
            else
              some (some (.inl 0), w18)
      else
        nc_bI (nc_Call m_X10_fail [.inr (.inr (10, ab)), .inl 4] w3) fun r22 w21 =>
        nc_z r22 <| some (some (.inl r22), w21)
  else
    if (14 : Int32) ≤ r4 then
      if (20 : Int32) ≤ (w3.1 9 aa 4) then
        nc_bI (nc_Call m_X10_fail [.inr (.inr (10, ab)), .inl 4] w3) fun r24 w23 =>
        nc_z r24 <| some (some (.inl r24), w23)
      else
        if xd ≤ 8 then
          nc_lt (nc_si w3 9 aa 4 ((w3.1 9 aa 4) + 1)) fun w25 =>
          if r2 = 0 then
            if r4 ≠ 14 then
              nc_bI (nc_Call m_X9_readPlainOne [.inr (.inr (9, aa)), .inr (.inr (10, ab)), .inr (.inr (2, ac)), .inl r4] w25) fun r27 w26 =>
              if r27 ≠ 0 then
                nc_bV (nc_Call m_X10_next [.inr (.inr (10, ab))] w26) fun w28 =>
                some (some (.inl 1), w28)
              else
                some (some (.inl 0), w26)
            else
              nc_bV (nc_Call m_X10_next [.inr (.inr (10, ab))] w25) fun w29 =>
              nc_bI (nc_Call m_X9_readOne_4 [.inr (.inr (9, aa)), .inr (.inr (10, ab)), .inr (.inr (2, ac)), .inl (xd + 1)] w29) fun r31 w30 =>
              if r31 ≠ 0 then
                nc_bV (nc_Call m_X9_put [.inr (.inr (9, aa)), .inl 14, .inl 0, .inl 0] w30) fun w32 =>
                some (some (.inl 1), w32)
              else
                some (some (.inl 0), w30)
          else
            nc_bV (nc_Call m_X10_next [.inr (.inr (10, ab))] w25) fun w33 =>
            nc_bI (nc_Call m_X9_readCond_4 [.inr (.inr (9, aa)), .inr (.inr (10, ab)), .inr (.inr (2, ac)), .inl (xd + 1)] w33) fun r35 w34 =>
            if r35 = 0 then
              some (some (.inl 0), w34)
            else
              nc_bI (nc_Call m_X10_mustBeSign [.inr (.inr (10, ab)), .inl 41] w34) fun r37 w36 =>
              if r37 ≠ 0 then
                nc_bV (nc_Call m_X10_next [.inr (.inr (10, ab))] w36) fun w38 =>
                some (some (.inl 1), w38)
              else
                some (some (.inl 0), w36)
        else
          nc_bI (nc_Call m_X10_fail [.inr (.inr (10, ab)), .inl 4] w3) fun r40 w39 =>
          nc_z r40 <| some (some (.inl r40), w39)
    else
      nc_bI (nc_Call m_X10_fail [.inr (.inr (10, ab)), .inl 1] w3) fun r42 w41 =>
      nc_z r42 <| some (some (.inl r42), w41) :=
  (nc_Call_eq _ _ _).trans ((if_pos (Nat.le_of_ble_eq_true rfl)).trans ((nc_Run_un [] 47).trans rfl))
set_option maxRecDepth 100000 in
theorem qc_X9_readAll_3 (aa : Nat) (ab : Nat) (ac : Nat) (xd : Int32) (w : nc_H) : nc_Call m_X9_readAll_3 [.inr (.inr (9, aa)), .inr (.inr (10, ab)), .inr (.inr (2, ac)), .inl xd] w =
  nc_bI (nc_Call m_X9_readOne_3 [.inr (.inr (9, aa)), .inr (.inr (10, ab)), .inr (.inr (2, ac)), .inl xd] w) fun r2 w1 =>
  if r2 ≠ 0 then
    nc_Run m_X9_readAll_3 15 [some (.inr (.inr (9, aa))), some (.inr (.inr (10, ab))), some (.inr (.inr (2, ac))), some (.inl xd), some (.inl 0)] [] w1
  else
    some (some (.inl 0), w1) :=
  (nc_Call_eq _ _ _).trans ((if_pos (Nat.le_of_ble_eq_true rfl)).trans ((nc_Run_un [15] 9).trans rfl))
set_option maxRecDepth 100000 in
theorem qr_X9_readAll_3_15 (aa : Nat) (ab : Nat) (ac : Nat) (xd : Int32) (xe : Int32) (w : nc_H) : nc_Run m_X9_readAll_3 15 [some (.inr (.inr (9, aa))), some (.inr (.inr (10, ab))), some (.inr (.inr (2, ac))), some (.inl xd), some (.inl xe)] [] w =
  if (20 : Int32) ≤ xe then
    some (some (.inl 1), w)
  else
    nc_bI (nc_Call m_X10_word [.inr (.inr (10, ab))] w) fun r2 w1 =>
    if r2 ≠ 13 then
      some (some (.inl 1), w1)
    else
      nc_bV (nc_Call m_X10_next [.inr (.inr (10, ab))] w1) fun w3 =>
      nc_bI (nc_Call m_X9_readOne_3 [.inr (.inr (9, aa)), .inr (.inr (10, ab)), .inr (.inr (2, ac)), .inl xd] w3) fun r5 w4 =>
      if r5 ≠ 0 then
        nc_bV (nc_Call m_X9_put [.inr (.inr (9, aa)), .inl 13, .inl 0, .inl 0] w4) fun w6 =>
        nc_li (xe + 1) fun x7 =>
        nc_Run m_X9_readAll_3 15 [some (.inr (.inr (9, aa))), some (.inr (.inr (10, ab))), some (.inr (.inr (2, ac))), some (.inl xd), some (.inl x7)] [] w6
      else
        some (some (.inl 0), w4) :=
  (nc_Run_un [15] 23).trans rfl
set_option maxRecDepth 100000 in
theorem qc_X9_readCond_3 (aa : Nat) (ab : Nat) (ac : Nat) (xd : Int32) (w : nc_H) : nc_Call m_X9_readCond_3 [.inr (.inr (9, aa)), .inr (.inr (10, ab)), .inr (.inr (2, ac)), .inl xd] w =
  nc_bI (nc_Call m_X9_readAll_3 [.inr (.inr (9, aa)), .inr (.inr (10, ab)), .inr (.inr (2, ac)), .inl xd] w) fun r2 w1 =>
  if r2 ≠ 0 then
    nc_Run m_X9_readCond_3 15 [some (.inr (.inr (9, aa))), some (.inr (.inr (10, ab))), some (.inr (.inr (2, ac))), some (.inl xd), some (.inl 0)] [] w1
  else
    some (some (.inl 0), w1) :=
  (nc_Call_eq _ _ _).trans ((if_pos (Nat.le_of_ble_eq_true rfl)).trans ((nc_Run_un [15] 9).trans rfl))
set_option maxRecDepth 100000 in
theorem qr_X9_readCond_3_15 (aa : Nat) (ab : Nat) (ac : Nat) (xd : Int32) (xe : Int32) (w : nc_H) : nc_Run m_X9_readCond_3 15 [some (.inr (.inr (9, aa))), some (.inr (.inr (10, ab))), some (.inr (.inr (2, ac))), some (.inl xd), some (.inl xe)] [] w =
  if (20 : Int32) ≤ xe then
    some (some (.inl 1), w)
  else
    nc_bI (nc_Call m_X10_word [.inr (.inr (10, ab))] w) fun r2 w1 =>
    if r2 ≠ 12 then
      some (some (.inl 1), w1)
    else
      nc_bV (nc_Call m_X10_next [.inr (.inr (10, ab))] w1) fun w3 =>
      nc_bI (nc_Call m_X9_readAll_3 [.inr (.inr (9, aa)), .inr (.inr (10, ab)), .inr (.inr (2, ac)), .inl xd] w3) fun r5 w4 =>
      if r5 ≠ 0 then
        nc_bV (nc_Call m_X9_put [.inr (.inr (9, aa)), .inl 12, .inl 0, .inl 0] w4) fun w6 =>
        nc_li (xe + 1) fun x7 =>
        nc_Run m_X9_readCond_3 15 [some (.inr (.inr (9, aa))), some (.inr (.inr (10, ab))), some (.inr (.inr (2, ac))), some (.inl xd), some (.inl x7)] [] w6
      else
        some (some (.inl 0), w4) :=
  (nc_Run_un [15] 23).trans rfl
set_option maxRecDepth 100000 in
theorem qc_X9_readOne_2 (aa : Nat) (ab : Nat) (ac : Nat) (xd : Int32) (w : nc_H) : nc_Call m_X9_readOne_2 [.inr (.inr (9, aa)), .inr (.inr (10, ab)), .inr (.inr (2, ac)), .inl xd] w =
  nc_bI (nc_Call m_X10_isSign [.inr (.inr (10, ab)), .inl 40] w) fun r2 w1 =>
  nc_bI (nc_Call m_X10_word [.inr (.inr (10, ab))] w1) fun r4 w3 =>
  if r2 ≠ 0 then
    if (20 : Int32) ≤ (w3.1 9 aa 4) then
      nc_bI (nc_Call m_X10_fail [.inr (.inr (10, ab)), .inl 4] w3) fun r6 w5 =>
      nc_z r6 <| some (some (.inl r6), w5)
    else
      if xd ≤ 8 then
        nc_lt (nc_si w3 9 aa 4 ((w3.1 9 aa 4) + 1)) fun w7 =>
        if r2 = 0 then
          if r4 ≠ 14 then
            nc_bI (nc_Call m_X9_readPlainOne [.inr (.inr (9, aa)), .inr (.inr (10, ab)), .inr (.inr (2, ac)), .inl r4] w7) fun r9 w8 =>
            if r9 ≠ 0 then
              nc_bV (nc_Call m_X10_next [.inr (.inr (10, ab))] w8) fun w10 =>
              some (some (.inl 1), w10)
            else
              some (some (.inl 0), w8)
          else
            nc_bV (nc_Call m_X10_next [.inr (.inr (10, ab))] w7) fun w11 =>
            nc_bI (nc_Call m_X9_readOne_3 [.inr (.inr (9, aa)), .inr (.inr (10, ab)), .inr (.inr (2, ac)), .inl (xd + 1)] w11) fun r13 w12 =>
            if r13 ≠ 0 then
              nc_bV (nc_Call m_X9_put [.inr (.inr (9, aa)), .inl 14, .inl 0, .inl 0] w12) fun w14 =>
              some (some (.inl 1), w14)
            else
              some (some (.inl 0), w12)
        else
          nc_bV (nc_Call m_X10_next [.inr (.inr (10, ab))] w7) fun w15 =>
          nc_bI (nc_Call m_X9_readCond_3 [.inr (.inr (9, aa)), .inr (.inr (10, ab)), .inr (.inr (2, ac)), .inl (xd + 1)] w15) fun r17 w16 =>
          if r17 = 0 then
            some (some (.inl 0), w16)
          else
            nc_bI (nc_Call m_X10_mustBeSign [.inr (.inr (10, ab)), .inl 41] w16) fun r19 w18 =>
            if r19 ≠ 0 then
              nc_bV (nc_Call m_X10_next [.inr (.inr (10, ab))] w18) fun w20 =>
              some (some (.inl 1), w20)
            else
              some (some (.inl 0), w18)
      else
        nc_bI (nc_Call m_X10_fail [.inr (.inr (10, ab)), .inl 4] w3) fun r22 w21 =>
        nc_z r22 <| some (some (.inl r22), w21)
  else
    if (14 : Int32) ≤ r4 then
      if (20 : Int32) ≤ (w3.1 9 aa 4) then
        nc_bI (nc_Call m_X10_fail [.inr (.inr (10, ab)), .inl 4] w3) fun r24 w23 =>
        nc_z r24 <| some (some (.inl r24), w23)
      else
        if xd ≤ 8 then
          nc_lt (nc_si w3 9 aa 4 ((w3.1 9 aa 4) + 1)) fun w25 =>
          if r2 = 0 then
            if r4 ≠ 14 then
              nc_bI (nc_Call m_X9_readPlainOne [.inr (.inr (9, aa)), .inr (.inr (10, ab)), .inr (.inr (2, ac)), .inl r4] w25) fun r27 w26 =>
              if r27 ≠ 0 then
                nc_bV (nc_Call m_X10_next [.inr (.inr (10, ab))] w26) fun w28 =>
                some (some (.inl 1), w28)
              else
                some (some (.inl 0), w26)
            else
              nc_bV (nc_Call m_X10_next [.inr (.inr (10, ab))] w25) fun w29 =>
              nc_bI (nc_Call m_X9_readOne_3 [.inr (.inr (9, aa)), .inr (.inr (10, ab)), .inr (.inr (2, ac)), .inl (xd + 1)] w29) fun r31 w30 =>
              if r31 ≠ 0 then
                nc_bV (nc_Call m_X9_put [.inr (.inr (9, aa)), .inl 14, .inl 0, .inl 0] w30) fun w32 =>
                some (some (.inl 1), w32)
              else
                some (some (.inl 0), w30)
          else
            nc_bV (nc_Call m_X10_next [.inr (.inr (10, ab))] w25) fun w33 =>
            nc_bI (nc_Call m_X9_readCond_3 [.inr (.inr (9, aa)), .inr (.inr (10, ab)), .inr (.inr (2, ac)), .inl (xd + 1)] w33) fun r35 w34 =>
            if r35 = 0 then
              some (some (.inl 0), w34)
            else
              nc_bI (nc_Call m_X10_mustBeSign [.inr (.inr (10, ab)), .inl 41] w34) fun r37 w36 =>
              if r37 ≠ 0 then
                nc_bV (nc_Call m_X10_next [.inr (.inr (10, ab))] w36) fun w38 =>
                some (some (.inl 1), w38)
              else
                some (some (.inl 0), w36)
        else
          nc_bI (nc_Call m_X10_fail [.inr (.inr (10, ab)), .inl 4] w3) fun r40 w39 =>
          nc_z r40 <| some (some (.inl r40), w39)
    else
      nc_bI (nc_Call m_X10_fail [.inr (.inr (10, ab)), .inl 1] w3) fun r42 w41 =>
      nc_z r42 <| some (some (.inl r42), w41) :=
  (nc_Call_eq _ _ _).trans ((if_pos (Nat.le_of_ble_eq_true rfl)).trans ((nc_Run_un [] 47).trans rfl))
set_option maxRecDepth 100000 in
theorem qc_X9_readAll_2 (aa : Nat) (ab : Nat) (ac : Nat) (xd : Int32) (w : nc_H) : nc_Call m_X9_readAll_2 [.inr (.inr (9, aa)), .inr (.inr (10, ab)), .inr (.inr (2, ac)), .inl xd] w =
  nc_bI (nc_Call m_X9_readOne_2 [.inr (.inr (9, aa)), .inr (.inr (10, ab)), .inr (.inr (2, ac)), .inl xd] w) fun r2 w1 =>
  if r2 ≠ 0 then
    nc_Run m_X9_readAll_2 15 [some (.inr (.inr (9, aa))), some (.inr (.inr (10, ab))), some (.inr (.inr (2, ac))), some (.inl xd), some (.inl 0)] [] w1
  else
    some (some (.inl 0), w1) :=
  (nc_Call_eq _ _ _).trans ((if_pos (Nat.le_of_ble_eq_true rfl)).trans ((nc_Run_un [15] 9).trans rfl))
set_option maxRecDepth 100000 in
theorem qr_X9_readAll_2_15 (aa : Nat) (ab : Nat) (ac : Nat) (xd : Int32) (xe : Int32) (w : nc_H) : nc_Run m_X9_readAll_2 15 [some (.inr (.inr (9, aa))), some (.inr (.inr (10, ab))), some (.inr (.inr (2, ac))), some (.inl xd), some (.inl xe)] [] w =
  if (20 : Int32) ≤ xe then
    some (some (.inl 1), w)
  else
    nc_bI (nc_Call m_X10_word [.inr (.inr (10, ab))] w) fun r2 w1 =>
    if r2 ≠ 13 then
      some (some (.inl 1), w1)
    else
      nc_bV (nc_Call m_X10_next [.inr (.inr (10, ab))] w1) fun w3 =>
      nc_bI (nc_Call m_X9_readOne_2 [.inr (.inr (9, aa)), .inr (.inr (10, ab)), .inr (.inr (2, ac)), .inl xd] w3) fun r5 w4 =>
      if r5 ≠ 0 then
        nc_bV (nc_Call m_X9_put [.inr (.inr (9, aa)), .inl 13, .inl 0, .inl 0] w4) fun w6 =>
        nc_li (xe + 1) fun x7 =>
        nc_Run m_X9_readAll_2 15 [some (.inr (.inr (9, aa))), some (.inr (.inr (10, ab))), some (.inr (.inr (2, ac))), some (.inl xd), some (.inl x7)] [] w6
      else
        some (some (.inl 0), w4) :=
  (nc_Run_un [15] 23).trans rfl
set_option maxRecDepth 100000 in
theorem qc_X9_readCond_2 (aa : Nat) (ab : Nat) (ac : Nat) (xd : Int32) (w : nc_H) : nc_Call m_X9_readCond_2 [.inr (.inr (9, aa)), .inr (.inr (10, ab)), .inr (.inr (2, ac)), .inl xd] w =
  nc_bI (nc_Call m_X9_readAll_2 [.inr (.inr (9, aa)), .inr (.inr (10, ab)), .inr (.inr (2, ac)), .inl xd] w) fun r2 w1 =>
  if r2 ≠ 0 then
    nc_Run m_X9_readCond_2 15 [some (.inr (.inr (9, aa))), some (.inr (.inr (10, ab))), some (.inr (.inr (2, ac))), some (.inl xd), some (.inl 0)] [] w1
  else
    some (some (.inl 0), w1) :=
  (nc_Call_eq _ _ _).trans ((if_pos (Nat.le_of_ble_eq_true rfl)).trans ((nc_Run_un [15] 9).trans rfl))
set_option maxRecDepth 100000 in
theorem qr_X9_readCond_2_15 (aa : Nat) (ab : Nat) (ac : Nat) (xd : Int32) (xe : Int32) (w : nc_H) : nc_Run m_X9_readCond_2 15 [some (.inr (.inr (9, aa))), some (.inr (.inr (10, ab))), some (.inr (.inr (2, ac))), some (.inl xd), some (.inl xe)] [] w =
  if (20 : Int32) ≤ xe then
    some (some (.inl 1), w)
  else
    nc_bI (nc_Call m_X10_word [.inr (.inr (10, ab))] w) fun r2 w1 =>
    if r2 ≠ 12 then
      some (some (.inl 1), w1)
    else
      nc_bV (nc_Call m_X10_next [.inr (.inr (10, ab))] w1) fun w3 =>
      nc_bI (nc_Call m_X9_readAll_2 [.inr (.inr (9, aa)), .inr (.inr (10, ab)), .inr (.inr (2, ac)), .inl xd] w3) fun r5 w4 =>
      if r5 ≠ 0 then
        nc_bV (nc_Call m_X9_put [.inr (.inr (9, aa)), .inl 12, .inl 0, .inl 0] w4) fun w6 =>
        nc_li (xe + 1) fun x7 =>
        nc_Run m_X9_readCond_2 15 [some (.inr (.inr (9, aa))), some (.inr (.inr (10, ab))), some (.inr (.inr (2, ac))), some (.inl xd), some (.inl x7)] [] w6
      else
        some (some (.inl 0), w4) :=
  (nc_Run_un [15] 23).trans rfl
set_option maxRecDepth 100000 in
theorem qc_X9_readOne_1 (aa : Nat) (ab : Nat) (ac : Nat) (xd : Int32) (w : nc_H) : nc_Call m_X9_readOne_1 [.inr (.inr (9, aa)), .inr (.inr (10, ab)), .inr (.inr (2, ac)), .inl xd] w =
  nc_bI (nc_Call m_X10_isSign [.inr (.inr (10, ab)), .inl 40] w) fun r2 w1 =>
  nc_bI (nc_Call m_X10_word [.inr (.inr (10, ab))] w1) fun r4 w3 =>
  if r2 ≠ 0 then
    if (20 : Int32) ≤ (w3.1 9 aa 4) then
      nc_bI (nc_Call m_X10_fail [.inr (.inr (10, ab)), .inl 4] w3) fun r6 w5 =>
      nc_z r6 <| some (some (.inl r6), w5)
    else
      if xd ≤ 8 then
        nc_lt (nc_si w3 9 aa 4 ((w3.1 9 aa 4) + 1)) fun w7 =>
        if r2 = 0 then
          if r4 ≠ 14 then
            nc_bI (nc_Call m_X9_readPlainOne [.inr (.inr (9, aa)), .inr (.inr (10, ab)), .inr (.inr (2, ac)), .inl r4] w7) fun r9 w8 =>
            if r9 ≠ 0 then
              nc_bV (nc_Call m_X10_next [.inr (.inr (10, ab))] w8) fun w10 =>
              some (some (.inl 1), w10)
            else
              some (some (.inl 0), w8)
          else
            nc_bV (nc_Call m_X10_next [.inr (.inr (10, ab))] w7) fun w11 =>
            nc_bI (nc_Call m_X9_readOne_2 [.inr (.inr (9, aa)), .inr (.inr (10, ab)), .inr (.inr (2, ac)), .inl (xd + 1)] w11) fun r13 w12 =>
            if r13 ≠ 0 then
              nc_bV (nc_Call m_X9_put [.inr (.inr (9, aa)), .inl 14, .inl 0, .inl 0] w12) fun w14 =>
              some (some (.inl 1), w14)
            else
              some (some (.inl 0), w12)
        else
          nc_bV (nc_Call m_X10_next [.inr (.inr (10, ab))] w7) fun w15 =>
          nc_bI (nc_Call m_X9_readCond_2 [.inr (.inr (9, aa)), .inr (.inr (10, ab)), .inr (.inr (2, ac)), .inl (xd + 1)] w15) fun r17 w16 =>
          if r17 = 0 then
            some (some (.inl 0), w16)
          else
            nc_bI (nc_Call m_X10_mustBeSign [.inr (.inr (10, ab)), .inl 41] w16) fun r19 w18 =>
            if r19 ≠ 0 then
              nc_bV (nc_Call m_X10_next [.inr (.inr (10, ab))] w18) fun w20 =>
              some (some (.inl 1), w20)
            else
              some (some (.inl 0), w18)
      else
        nc_bI (nc_Call m_X10_fail [.inr (.inr (10, ab)), .inl 4] w3) fun r22 w21 =>
        nc_z r22 <| some (some (.inl r22), w21)
  else
    if (14 : Int32) ≤ r4 then
      if (20 : Int32) ≤ (w3.1 9 aa 4) then
        nc_bI (nc_Call m_X10_fail [.inr (.inr (10, ab)), .inl 4] w3) fun r24 w23 =>
        nc_z r24 <| some (some (.inl r24), w23)
      else
        if xd ≤ 8 then
          nc_lt (nc_si w3 9 aa 4 ((w3.1 9 aa 4) + 1)) fun w25 =>
          if r2 = 0 then
            if r4 ≠ 14 then
              nc_bI (nc_Call m_X9_readPlainOne [.inr (.inr (9, aa)), .inr (.inr (10, ab)), .inr (.inr (2, ac)), .inl r4] w25) fun r27 w26 =>
              if r27 ≠ 0 then
                nc_bV (nc_Call m_X10_next [.inr (.inr (10, ab))] w26) fun w28 =>
                some (some (.inl 1), w28)
              else
                some (some (.inl 0), w26)
            else
              nc_bV (nc_Call m_X10_next [.inr (.inr (10, ab))] w25) fun w29 =>
              nc_bI (nc_Call m_X9_readOne_2 [.inr (.inr (9, aa)), .inr (.inr (10, ab)), .inr (.inr (2, ac)), .inl (xd + 1)] w29) fun r31 w30 =>
              if r31 ≠ 0 then
                nc_bV (nc_Call m_X9_put [.inr (.inr (9, aa)), .inl 14, .inl 0, .inl 0] w30) fun w32 =>
                some (some (.inl 1), w32)
              else
                some (some (.inl 0), w30)
          else
            nc_bV (nc_Call m_X10_next [.inr (.inr (10, ab))] w25) fun w33 =>
            nc_bI (nc_Call m_X9_readCond_2 [.inr (.inr (9, aa)), .inr (.inr (10, ab)), .inr (.inr (2, ac)), .inl (xd + 1)] w33) fun r35 w34 =>
            if r35 = 0 then
              some (some (.inl 0), w34)
            else
              nc_bI (nc_Call m_X10_mustBeSign [.inr (.inr (10, ab)), .inl 41] w34) fun r37 w36 =>
              if r37 ≠ 0 then
                nc_bV (nc_Call m_X10_next [.inr (.inr (10, ab))] w36) fun w38 =>
                some (some (.inl 1), w38)
              else
                some (some (.inl 0), w36)
        else
          nc_bI (nc_Call m_X10_fail [.inr (.inr (10, ab)), .inl 4] w3) fun r40 w39 =>
          nc_z r40 <| some (some (.inl r40), w39)
    else
      nc_bI (nc_Call m_X10_fail [.inr (.inr (10, ab)), .inl 1] w3) fun r42 w41 =>
      nc_z r42 <| some (some (.inl r42), w41) :=
  (nc_Call_eq _ _ _).trans ((if_pos (Nat.le_of_ble_eq_true rfl)).trans ((nc_Run_un [] 47).trans rfl))
set_option maxRecDepth 100000 in
theorem qc_X9_readAll_1 (aa : Nat) (ab : Nat) (ac : Nat) (xd : Int32) (w : nc_H) : nc_Call m_X9_readAll_1 [.inr (.inr (9, aa)), .inr (.inr (10, ab)), .inr (.inr (2, ac)), .inl xd] w =
  nc_bI (nc_Call m_X9_readOne_1 [.inr (.inr (9, aa)), .inr (.inr (10, ab)), .inr (.inr (2, ac)), .inl xd] w) fun r2 w1 =>
  if r2 ≠ 0 then
    nc_Run m_X9_readAll_1 15 [some (.inr (.inr (9, aa))), some (.inr (.inr (10, ab))), some (.inr (.inr (2, ac))), some (.inl xd), some (.inl 0)] [] w1
  else
    some (some (.inl 0), w1) :=
  (nc_Call_eq _ _ _).trans ((if_pos (Nat.le_of_ble_eq_true rfl)).trans ((nc_Run_un [15] 9).trans rfl))
set_option maxRecDepth 100000 in
theorem qr_X9_readAll_1_15 (aa : Nat) (ab : Nat) (ac : Nat) (xd : Int32) (xe : Int32) (w : nc_H) : nc_Run m_X9_readAll_1 15 [some (.inr (.inr (9, aa))), some (.inr (.inr (10, ab))), some (.inr (.inr (2, ac))), some (.inl xd), some (.inl xe)] [] w =
  if (20 : Int32) ≤ xe then
    some (some (.inl 1), w)
  else
    nc_bI (nc_Call m_X10_word [.inr (.inr (10, ab))] w) fun r2 w1 =>
    if r2 ≠ 13 then
      some (some (.inl 1), w1)
    else
      nc_bV (nc_Call m_X10_next [.inr (.inr (10, ab))] w1) fun w3 =>
      nc_bI (nc_Call m_X9_readOne_1 [.inr (.inr (9, aa)), .inr (.inr (10, ab)), .inr (.inr (2, ac)), .inl xd] w3) fun r5 w4 =>
      if r5 ≠ 0 then
        nc_bV (nc_Call m_X9_put [.inr (.inr (9, aa)), .inl 13, .inl 0, .inl 0] w4) fun w6 =>
        nc_li (xe + 1) fun x7 =>
        nc_Run m_X9_readAll_1 15 [some (.inr (.inr (9, aa))), some (.inr (.inr (10, ab))), some (.inr (.inr (2, ac))), some (.inl xd), some (.inl x7)] [] w6
      else
        some (some (.inl 0), w4) :=
  (nc_Run_un [15] 23).trans rfl
set_option maxRecDepth 100000 in
theorem qc_X9_readCond_1 (aa : Nat) (ab : Nat) (ac : Nat) (xd : Int32) (w : nc_H) : nc_Call m_X9_readCond_1 [.inr (.inr (9, aa)), .inr (.inr (10, ab)), .inr (.inr (2, ac)), .inl xd] w =
  nc_bI (nc_Call m_X9_readAll_1 [.inr (.inr (9, aa)), .inr (.inr (10, ab)), .inr (.inr (2, ac)), .inl xd] w) fun r2 w1 =>
  if r2 ≠ 0 then
    nc_Run m_X9_readCond_1 15 [some (.inr (.inr (9, aa))), some (.inr (.inr (10, ab))), some (.inr (.inr (2, ac))), some (.inl xd), some (.inl 0)] [] w1
  else
    some (some (.inl 0), w1) :=
  (nc_Call_eq _ _ _).trans ((if_pos (Nat.le_of_ble_eq_true rfl)).trans ((nc_Run_un [15] 9).trans rfl))
set_option maxRecDepth 100000 in
theorem qr_X9_readCond_1_15 (aa : Nat) (ab : Nat) (ac : Nat) (xd : Int32) (xe : Int32) (w : nc_H) : nc_Run m_X9_readCond_1 15 [some (.inr (.inr (9, aa))), some (.inr (.inr (10, ab))), some (.inr (.inr (2, ac))), some (.inl xd), some (.inl xe)] [] w =
  if (20 : Int32) ≤ xe then
    some (some (.inl 1), w)
  else
    nc_bI (nc_Call m_X10_word [.inr (.inr (10, ab))] w) fun r2 w1 =>
    if r2 ≠ 12 then
      some (some (.inl 1), w1)
    else
      nc_bV (nc_Call m_X10_next [.inr (.inr (10, ab))] w1) fun w3 =>
      nc_bI (nc_Call m_X9_readAll_1 [.inr (.inr (9, aa)), .inr (.inr (10, ab)), .inr (.inr (2, ac)), .inl xd] w3) fun r5 w4 =>
      if r5 ≠ 0 then
        nc_bV (nc_Call m_X9_put [.inr (.inr (9, aa)), .inl 12, .inl 0, .inl 0] w4) fun w6 =>
        nc_li (xe + 1) fun x7 =>
        nc_Run m_X9_readCond_1 15 [some (.inr (.inr (9, aa))), some (.inr (.inr (10, ab))), some (.inr (.inr (2, ac))), some (.inl xd), some (.inl x7)] [] w6
      else
        some (some (.inl 0), w4) :=
  (nc_Run_un [15] 23).trans rfl
set_option maxRecDepth 100000 in
theorem qc_X8_go_2 (aa : Nat) (ab : Nat) (xc : Int32) (xd : Int32) (xe : Int32) (w : nc_H) : nc_Call m_X8_go_2 [.inr (.inr (8, aa)), .inr (.inr (7, ab)), .inl xc, .inl xd, .inl xe] w =
  if xd < 3 then
    if xd ≠ ((w.1 8 aa 5) - 1) then
      if xd ≠ 0 then
        nc_Run m_X8_go_2 46 [some (.inr (.inr (8, aa))), some (.inr (.inr (7, ab))), some (.inl xc), some (.inl xd), some (.inl xe), some (.inr (.inr (7, 11))), some (.inl 0), none, none] [] w
      else
        nc_Run m_X8_go_2 46 [some (.inr (.inr (8, aa))), some (.inr (.inr (7, ab))), some (.inl xc), some (.inl xd), some (.inl xe), some (.inr (.inr (7, 10))), some (.inl 0), none, none] [] w
    else
      nc_bV (nc_Call m_X8_goLast [.inr (.inr (8, aa)), .inr (.inr (7, ab)), .inl xc, .inl xd, .inl xe] w) fun w1 =>
      some (none, w1)
  else
    some (none, w) :=
  (nc_Call_eq _ _ _).trans ((if_pos (Nat.le_of_ble_eq_true rfl)).trans ((nc_Run_un [46, 75] 18).trans rfl))
set_option maxRecDepth 100000 in
theorem qr_X8_go_2_46 (aa : Nat) (ab : Nat) (xc : Int32) (xd : Int32) (xe : Int32) (af : Nat) (xg : Int32) (w : nc_H) : nc_Run m_X8_go_2 46 [some (.inr (.inr (8, aa))), some (.inr (.inr (7, ab))), some (.inl xc), some (.inl xd), some (.inl xe), some (.inr (.inr (7, af))), some (.inl xg), none, none] [] w =
  if (w.1 2 0 3) < xg then
    some (none, w)
  else
    if xg ≠ (w.1 2 0 3) then
      nc_Run m_X8_go_2 75 [some (.inr (.inr (8, aa))), some (.inr (.inr (7, ab))), some (.inl xc), some (.inl xd), some (.inl xe), some (.inr (.inr (7, af))), some (.inl xg), none, none] [.inl 0] w
    else
      nc_Run m_X8_go_2 75 [some (.inr (.inr (8, aa))), some (.inr (.inr (7, ab))), some (.inl xc), some (.inl xd), some (.inl xe), some (.inr (.inr (7, af))), some (.inl xg), none, none] [.inl 1] w :=
  (nc_Run_un [46, 75] 13).trans rfl
set_option maxRecDepth 100000 in
theorem qr_X8_go_2_75 (aa : Nat) (ab : Nat) (xc : Int32) (xd : Int32) (xe : Int32) (af : Nat) (xg : Int32) (za : Int32) (w : nc_H) : nc_Run m_X8_go_2 75 [some (.inr (.inr (8, aa))), some (.inr (.inr (7, ab))), some (.inl xc), some (.inl xd), some (.inl xe), some (.inr (.inr (7, af))), some (.inl xg), none, none] [.inl za] w =
  if za ≠ 0 then
    if za = 0 then
      nc_bd xd 3 fun j1 =>
      nc_lt (nc_si w 615 aa j1 xg) fun w2 =>
      nc_bV (nc_Call m_X7_copyFrom [.inr (.inr (7, af)), .inr (.inr (7, ab))] w2) fun w3 =>
      if za ≠ 0 then
        nc_bI (nc_Call m_X7_milk [.inr (.inr (7, af)), .inl xc] w3) fun r5 w4 =>
        nc_bV (nc_Call m_X7_talk [.inr (.inr (7, af))] w4) fun w6 =>
        nc_bV (nc_Call m_X7_turn [.inr (.inr (7, af))] w6) fun w7 =>
        none
      else
        nc_bV (nc_Call m_X7_hear [.inr (.inr (7, af)), .inl xc, .inl xg] w3) fun w8 =>
        nc_bI (nc_Call m_X7_milk [.inr (.inr (7, af)), .inl xc] w8) fun r10 w9 =>
        nc_bV (nc_Call m_X7_talk [.inr (.inr (7, af))] w9) fun w11 =>
        nc_bV (nc_Call m_X7_turn [.inr (.inr (7, af))] w11) fun w12 =>
        none
    else
      nc_bd xd 3 fun j13 =>
      nc_lt (nc_si w 615 aa j13 (-1)) fun w14 =>
      nc_bV (nc_Call m_X7_copyFrom [.inr (.inr (7, af)), .inr (.inr (7, ab))] w14) fun w15 =>
      if za ≠ 0 then
        nc_bI (nc_Call m_X7_milk [.inr (.inr (7, af)), .inl xc] w15) fun r17 w16 =>
        nc_bV (nc_Call m_X7_talk [.inr (.inr (7, af))] w16) fun w18 =>
        nc_bV (nc_Call m_X7_turn [.inr (.inr (7, af))] w18) fun w19 =>
        none
      else
        nc_bV (nc_Call m_X7_hear [.inr (.inr (7, af)), .inl xc, .inl xg] w15) fun w20 =>
        nc_bI (nc_Call m_X7_milk [.inr (.inr (7, af)), .inl xc] w20) fun r22 w21 =>
        nc_bV (nc_Call m_X7_talk [.inr (.inr (7, af))] w21) fun w23 =>
        nc_bV (nc_Call m_X7_turn [.inr (.inr (7, af))] w23) fun w24 =>
        none
  else
    nc_bI (nc_Call m_X7_whyNotTold [.inr (.inr (7, ab)), .inl xc, .inl xg] w) fun r26 w25 =>
    if r26 ≠ 0 then
      nc_li (xg + 1) fun x27 =>
      nc_Run m_X8_go_2 46 [some (.inr (.inr (8, aa))), some (.inr (.inr (7, ab))), some (.inl xc), some (.inl xd), some (.inl xe), some (.inr (.inr (7, af))), some (.inl x27), none, none] [] w25
    else
      if za = 0 then
        nc_bd xd 3 fun j28 =>
        nc_lt (nc_si w25 615 aa j28 xg) fun w29 =>
        nc_bV (nc_Call m_X7_copyFrom [.inr (.inr (7, af)), .inr (.inr (7, ab))] w29) fun w30 =>
        if za ≠ 0 then
          nc_bI (nc_Call m_X7_milk [.inr (.inr (7, af)), .inl xc] w30) fun r32 w31 =>
          nc_bV (nc_Call m_X7_talk [.inr (.inr (7, af))] w31) fun w33 =>
          nc_bV (nc_Call m_X7_turn [.inr (.inr (7, af))] w33) fun w34 =>
          none
        else
          nc_bV (nc_Call m_X7_hear [.inr (.inr (7, af)), .inl xc, .inl xg] w30) fun w35 =>
          nc_bI (nc_Call m_X7_milk [.inr (.inr (7, af)), .inl xc] w35) fun r37 w36 =>
          nc_bV (nc_Call m_X7_talk [.inr (.inr (7, af))] w36) fun w38 =>
          nc_bV (nc_Call m_X7_turn [.inr (.inr (7, af))] w38) fun w39 =>
          none
      else
        nc_bd xd 3 fun j40 =>
        nc_lt (nc_si w25 615 aa j40 (-1)) fun w41 =>
        nc_bV (nc_Call m_X7_copyFrom [.inr (.inr (7, af)), .inr (.inr (7, ab))] w41) fun w42 =>
        if za ≠ 0 then
          nc_bI (nc_Call m_X7_milk [.inr (.inr (7, af)), .inl xc] w42) fun r44 w43 =>
          nc_bV (nc_Call m_X7_talk [.inr (.inr (7, af))] w43) fun w45 =>
          nc_bV (nc_Call m_X7_turn [.inr (.inr (7, af))] w45) fun w46 =>
          none
        else
          nc_bV (nc_Call m_X7_hear [.inr (.inr (7, af)), .inl xc, .inl xg] w42) fun w47 =>
          nc_bI (nc_Call m_X7_milk [.inr (.inr (7, af)), .inl xc] w47) fun r49 w48 =>
          nc_bV (nc_Call m_X7_talk [.inr (.inr (7, af))] w48) fun w50 =>
          nc_bV (nc_Call m_X7_turn [.inr (.inr (7, af))] w50) fun w51 =>
          none :=
  (nc_Run_un [46, 75] 43).trans rfl
set_option maxRecDepth 100000 in
theorem qc_X8_go_1 (aa : Nat) (ab : Nat) (xc : Int32) (xd : Int32) (xe : Int32) (w : nc_H) : nc_Call m_X8_go_1 [.inr (.inr (8, aa)), .inr (.inr (7, ab)), .inl xc, .inl xd, .inl xe] w =
  if xd < 3 then
    if xd ≠ ((w.1 8 aa 5) - 1) then
      if xd ≠ 0 then
        nc_Run m_X8_go_1 46 [some (.inr (.inr (8, aa))), some (.inr (.inr (7, ab))), some (.inl xc), some (.inl xd), some (.inl xe), some (.inr (.inr (7, 11))), some (.inl 0), none, none] [] w
      else
        nc_Run m_X8_go_1 46 [some (.inr (.inr (8, aa))), some (.inr (.inr (7, ab))), some (.inl xc), some (.inl xd), some (.inl xe), some (.inr (.inr (7, 10))), some (.inl 0), none, none] [] w
    else
      nc_bV (nc_Call m_X8_goLast [.inr (.inr (8, aa)), .inr (.inr (7, ab)), .inl xc, .inl xd, .inl xe] w) fun w1 =>
      some (none, w1)
  else
    some (none, w) :=
  (nc_Call_eq _ _ _).trans ((if_pos (Nat.le_of_ble_eq_true rfl)).trans ((nc_Run_un [46, 75] 18).trans rfl))
set_option maxRecDepth 100000 in
theorem qr_X8_go_1_46 (aa : Nat) (ab : Nat) (xc : Int32) (xd : Int32) (xe : Int32) (af : Nat) (xg : Int32) (w : nc_H) : nc_Run m_X8_go_1 46 [some (.inr (.inr (8, aa))), some (.inr (.inr (7, ab))), some (.inl xc), some (.inl xd), some (.inl xe), some (.inr (.inr (7, af))), some (.inl xg), none, none] [] w =
  if (w.1 2 0 3) < xg then
    some (none, w)
  else
    if xg ≠ (w.1 2 0 3) then
      nc_Run m_X8_go_1 75 [some (.inr (.inr (8, aa))), some (.inr (.inr (7, ab))), some (.inl xc), some (.inl xd), some (.inl xe), some (.inr (.inr (7, af))), some (.inl xg), none, none] [.inl 0] w
    else
      nc_Run m_X8_go_1 75 [some (.inr (.inr (8, aa))), some (.inr (.inr (7, ab))), some (.inl xc), some (.inl xd), some (.inl xe), some (.inr (.inr (7, af))), some (.inl xg), none, none] [.inl 1] w :=
  (nc_Run_un [46, 75] 13).trans rfl
set_option maxRecDepth 100000 in
theorem qr_X8_go_1_75 (aa : Nat) (ab : Nat) (xc : Int32) (xd : Int32) (xe : Int32) (af : Nat) (xg : Int32) (za : Int32) (w : nc_H) : nc_Run m_X8_go_1 75 [some (.inr (.inr (8, aa))), some (.inr (.inr (7, ab))), some (.inl xc), some (.inl xd), some (.inl xe), some (.inr (.inr (7, af))), some (.inl xg), none, none] [.inl za] w =
  if za ≠ 0 then
    if za = 0 then
      nc_bd xd 3 fun j1 =>
      nc_lt (nc_si w 615 aa j1 xg) fun w2 =>
      nc_bV (nc_Call m_X7_copyFrom [.inr (.inr (7, af)), .inr (.inr (7, ab))] w2) fun w3 =>
      if za ≠ 0 then
        nc_bI (nc_Call m_X7_milk [.inr (.inr (7, af)), .inl xc] w3) fun r5 w4 =>
        nc_bV (nc_Call m_X7_talk [.inr (.inr (7, af))] w4) fun w6 =>
        nc_bV (nc_Call m_X7_turn [.inr (.inr (7, af))] w6) fun w7 =>
        nc_bV (nc_Call m_X8_go_2 [.inr (.inr (8, aa)), .inr (.inr (7, af)), .inl xc, .inl (xd + 1), .inl (xe + r5)] w7) fun w8 =>
        nc_li (xg + 1) fun x9 =>
        nc_Run m_X8_go_1 46 [some (.inr (.inr (8, aa))), some (.inr (.inr (7, ab))), some (.inl xc), some (.inl xd), some (.inl xe), some (.inr (.inr (7, af))), some (.inl x9), none, none] [] w8
      else
        nc_bV (nc_Call m_X7_hear [.inr (.inr (7, af)), .inl xc, .inl xg] w3) fun w10 =>
        nc_bI (nc_Call m_X7_milk [.inr (.inr (7, af)), .inl xc] w10) fun r12 w11 =>
        nc_bV (nc_Call m_X7_talk [.inr (.inr (7, af))] w11) fun w13 =>
        nc_bV (nc_Call m_X7_turn [.inr (.inr (7, af))] w13) fun w14 =>
        nc_bV (nc_Call m_X8_go_2 [.inr (.inr (8, aa)), .inr (.inr (7, af)), .inl xc, .inl (xd + 1), .inl (xe + r12)] w14) fun w15 =>
        nc_li (xg + 1) fun x16 =>
        nc_Run m_X8_go_1 46 [some (.inr (.inr (8, aa))), some (.inr (.inr (7, ab))), some (.inl xc), some (.inl xd), some (.inl xe), some (.inr (.inr (7, af))), some (.inl x16), none, none] [] w15
    else
      nc_bd xd 3 fun j17 =>
      nc_lt (nc_si w 615 aa j17 (-1)) fun w18 =>
      nc_bV (nc_Call m_X7_copyFrom [.inr (.inr (7, af)), .inr (.inr (7, ab))] w18) fun w19 =>
      if za ≠ 0 then
        nc_bI (nc_Call m_X7_milk [.inr (.inr (7, af)), .inl xc] w19) fun r21 w20 =>
        nc_bV (nc_Call m_X7_talk [.inr (.inr (7, af))] w20) fun w22 =>
        nc_bV (nc_Call m_X7_turn [.inr (.inr (7, af))] w22) fun w23 =>
        nc_bV (nc_Call m_X8_go_2 [.inr (.inr (8, aa)), .inr (.inr (7, af)), .inl xc, .inl (xd + 1), .inl (xe + r21)] w23) fun w24 =>
        nc_li (xg + 1) fun x25 =>
        nc_Run m_X8_go_1 46 [some (.inr (.inr (8, aa))), some (.inr (.inr (7, ab))), some (.inl xc), some (.inl xd), some (.inl xe), some (.inr (.inr (7, af))), some (.inl x25), none, none] [] w24
      else
        nc_bV (nc_Call m_X7_hear [.inr (.inr (7, af)), .inl xc, .inl xg] w19) fun w26 =>
        nc_bI (nc_Call m_X7_milk [.inr (.inr (7, af)), .inl xc] w26) fun r28 w27 =>
        nc_bV (nc_Call m_X7_talk [.inr (.inr (7, af))] w27) fun w29 =>
        nc_bV (nc_Call m_X7_turn [.inr (.inr (7, af))] w29) fun w30 =>
        nc_bV (nc_Call m_X8_go_2 [.inr (.inr (8, aa)), .inr (.inr (7, af)), .inl xc, .inl (xd + 1), .inl (xe + r28)] w30) fun w31 =>
        nc_li (xg + 1) fun x32 =>
        nc_Run m_X8_go_1 46 [some (.inr (.inr (8, aa))), some (.inr (.inr (7, ab))), some (.inl xc), some (.inl xd), some (.inl xe), some (.inr (.inr (7, af))), some (.inl x32), none, none] [] w31
  else
    nc_bI (nc_Call m_X7_whyNotTold [.inr (.inr (7, ab)), .inl xc, .inl xg] w) fun r34 w33 =>
    if r34 ≠ 0 then
      nc_li (xg + 1) fun x35 =>
      nc_Run m_X8_go_1 46 [some (.inr (.inr (8, aa))), some (.inr (.inr (7, ab))), some (.inl xc), some (.inl xd), some (.inl xe), some (.inr (.inr (7, af))), some (.inl x35), none, none] [] w33
    else
      if za = 0 then
        nc_bd xd 3 fun j36 =>
        nc_lt (nc_si w33 615 aa j36 xg) fun w37 =>
        nc_bV (nc_Call m_X7_copyFrom [.inr (.inr (7, af)), .inr (.inr (7, ab))] w37) fun w38 =>
        if za ≠ 0 then
          nc_bI (nc_Call m_X7_milk [.inr (.inr (7, af)), .inl xc] w38) fun r40 w39 =>
          nc_bV (nc_Call m_X7_talk [.inr (.inr (7, af))] w39) fun w41 =>
          nc_bV (nc_Call m_X7_turn [.inr (.inr (7, af))] w41) fun w42 =>
          nc_bV (nc_Call m_X8_go_2 [.inr (.inr (8, aa)), .inr (.inr (7, af)), .inl xc, .inl (xd + 1), .inl (xe + r40)] w42) fun w43 =>
          nc_li (xg + 1) fun x44 =>
          nc_Run m_X8_go_1 46 [some (.inr (.inr (8, aa))), some (.inr (.inr (7, ab))), some (.inl xc), some (.inl xd), some (.inl xe), some (.inr (.inr (7, af))), some (.inl x44), none, none] [] w43
        else
          nc_bV (nc_Call m_X7_hear [.inr (.inr (7, af)), .inl xc, .inl xg] w38) fun w45 =>
          nc_bI (nc_Call m_X7_milk [.inr (.inr (7, af)), .inl xc] w45) fun r47 w46 =>
          nc_bV (nc_Call m_X7_talk [.inr (.inr (7, af))] w46) fun w48 =>
          nc_bV (nc_Call m_X7_turn [.inr (.inr (7, af))] w48) fun w49 =>
          nc_bV (nc_Call m_X8_go_2 [.inr (.inr (8, aa)), .inr (.inr (7, af)), .inl xc, .inl (xd + 1), .inl (xe + r47)] w49) fun w50 =>
          nc_li (xg + 1) fun x51 =>
          nc_Run m_X8_go_1 46 [some (.inr (.inr (8, aa))), some (.inr (.inr (7, ab))), some (.inl xc), some (.inl xd), some (.inl xe), some (.inr (.inr (7, af))), some (.inl x51), none, none] [] w50
      else
        nc_bd xd 3 fun j52 =>
        nc_lt (nc_si w33 615 aa j52 (-1)) fun w53 =>
        nc_bV (nc_Call m_X7_copyFrom [.inr (.inr (7, af)), .inr (.inr (7, ab))] w53) fun w54 =>
        if za ≠ 0 then
          nc_bI (nc_Call m_X7_milk [.inr (.inr (7, af)), .inl xc] w54) fun r56 w55 =>
          nc_bV (nc_Call m_X7_talk [.inr (.inr (7, af))] w55) fun w57 =>
          nc_bV (nc_Call m_X7_turn [.inr (.inr (7, af))] w57) fun w58 =>
          nc_bV (nc_Call m_X8_go_2 [.inr (.inr (8, aa)), .inr (.inr (7, af)), .inl xc, .inl (xd + 1), .inl (xe + r56)] w58) fun w59 =>
          nc_li (xg + 1) fun x60 =>
          nc_Run m_X8_go_1 46 [some (.inr (.inr (8, aa))), some (.inr (.inr (7, ab))), some (.inl xc), some (.inl xd), some (.inl xe), some (.inr (.inr (7, af))), some (.inl x60), none, none] [] w59
        else
          nc_bV (nc_Call m_X7_hear [.inr (.inr (7, af)), .inl xc, .inl xg] w54) fun w61 =>
          nc_bI (nc_Call m_X7_milk [.inr (.inr (7, af)), .inl xc] w61) fun r63 w62 =>
          nc_bV (nc_Call m_X7_talk [.inr (.inr (7, af))] w62) fun w64 =>
          nc_bV (nc_Call m_X7_turn [.inr (.inr (7, af))] w64) fun w65 =>
          nc_bV (nc_Call m_X8_go_2 [.inr (.inr (8, aa)), .inr (.inr (7, af)), .inl xc, .inl (xd + 1), .inl (xe + r63)] w65) fun w66 =>
          nc_li (xg + 1) fun x67 =>
          nc_Run m_X8_go_1 46 [some (.inr (.inr (8, aa))), some (.inr (.inr (7, ab))), some (.inl xc), some (.inl xd), some (.inl xe), some (.inr (.inr (7, af))), some (.inl x67), none, none] [] w66 :=
  (nc_Run_un [46, 75] 46).trans rfl
set_option maxRecDepth 100000 in
theorem qc_X8_go_0 (aa : Nat) (ab : Nat) (xc : Int32) (xd : Int32) (xe : Int32) (w : nc_H) : nc_Call m_X8_go_0 [.inr (.inr (8, aa)), .inr (.inr (7, ab)), .inl xc, .inl xd, .inl xe] w =
  if xd < 3 then
    if xd ≠ ((w.1 8 aa 5) - 1) then
      if xd ≠ 0 then
        nc_Run m_X8_go_0 46 [some (.inr (.inr (8, aa))), some (.inr (.inr (7, ab))), some (.inl xc), some (.inl xd), some (.inl xe), some (.inr (.inr (7, 11))), some (.inl 0), none, none] [] w
      else
        nc_Run m_X8_go_0 46 [some (.inr (.inr (8, aa))), some (.inr (.inr (7, ab))), some (.inl xc), some (.inl xd), some (.inl xe), some (.inr (.inr (7, 10))), some (.inl 0), none, none] [] w
    else
      nc_bV (nc_Call m_X8_goLast [.inr (.inr (8, aa)), .inr (.inr (7, ab)), .inl xc, .inl xd, .inl xe] w) fun w1 =>
      some (none, w1)
  else
    some (none, w) :=
  (nc_Call_eq _ _ _).trans ((if_pos (Nat.le_of_ble_eq_true rfl)).trans ((nc_Run_un [46, 75] 18).trans rfl))
set_option maxRecDepth 100000 in
theorem qr_X8_go_0_46 (aa : Nat) (ab : Nat) (xc : Int32) (xd : Int32) (xe : Int32) (af : Nat) (xg : Int32) (w : nc_H) : nc_Run m_X8_go_0 46 [some (.inr (.inr (8, aa))), some (.inr (.inr (7, ab))), some (.inl xc), some (.inl xd), some (.inl xe), some (.inr (.inr (7, af))), some (.inl xg), none, none] [] w =
  if (w.1 2 0 3) < xg then
    some (none, w)
  else
    if xg ≠ (w.1 2 0 3) then
      nc_Run m_X8_go_0 75 [some (.inr (.inr (8, aa))), some (.inr (.inr (7, ab))), some (.inl xc), some (.inl xd), some (.inl xe), some (.inr (.inr (7, af))), some (.inl xg), none, none] [.inl 0] w
    else
      nc_Run m_X8_go_0 75 [some (.inr (.inr (8, aa))), some (.inr (.inr (7, ab))), some (.inl xc), some (.inl xd), some (.inl xe), some (.inr (.inr (7, af))), some (.inl xg), none, none] [.inl 1] w :=
  (nc_Run_un [46, 75] 13).trans rfl
set_option maxRecDepth 100000 in
theorem qr_X8_go_0_75 (aa : Nat) (ab : Nat) (xc : Int32) (xd : Int32) (xe : Int32) (af : Nat) (xg : Int32) (za : Int32) (w : nc_H) : nc_Run m_X8_go_0 75 [some (.inr (.inr (8, aa))), some (.inr (.inr (7, ab))), some (.inl xc), some (.inl xd), some (.inl xe), some (.inr (.inr (7, af))), some (.inl xg), none, none] [.inl za] w =
  if za ≠ 0 then
    if za = 0 then
      nc_bd xd 3 fun j1 =>
      nc_lt (nc_si w 615 aa j1 xg) fun w2 =>
      nc_bV (nc_Call m_X7_copyFrom [.inr (.inr (7, af)), .inr (.inr (7, ab))] w2) fun w3 =>
      if za ≠ 0 then
        nc_bI (nc_Call m_X7_milk [.inr (.inr (7, af)), .inl xc] w3) fun r5 w4 =>
        nc_bV (nc_Call m_X7_talk [.inr (.inr (7, af))] w4) fun w6 =>
        nc_bV (nc_Call m_X7_turn [.inr (.inr (7, af))] w6) fun w7 =>
        nc_bV (nc_Call m_X8_go_1 [.inr (.inr (8, aa)), .inr (.inr (7, af)), .inl xc, .inl (xd + 1), .inl (xe + r5)] w7) fun w8 =>
        nc_li (xg + 1) fun x9 =>
        nc_Run m_X8_go_0 46 [some (.inr (.inr (8, aa))), some (.inr (.inr (7, ab))), some (.inl xc), some (.inl xd), some (.inl xe), some (.inr (.inr (7, af))), some (.inl x9), none, none] [] w8
      else
        nc_bV (nc_Call m_X7_hear [.inr (.inr (7, af)), .inl xc, .inl xg] w3) fun w10 =>
        nc_bI (nc_Call m_X7_milk [.inr (.inr (7, af)), .inl xc] w10) fun r12 w11 =>
        nc_bV (nc_Call m_X7_talk [.inr (.inr (7, af))] w11) fun w13 =>
        nc_bV (nc_Call m_X7_turn [.inr (.inr (7, af))] w13) fun w14 =>
        nc_bV (nc_Call m_X8_go_1 [.inr (.inr (8, aa)), .inr (.inr (7, af)), .inl xc, .inl (xd + 1), .inl (xe + r12)] w14) fun w15 =>
        nc_li (xg + 1) fun x16 =>
        nc_Run m_X8_go_0 46 [some (.inr (.inr (8, aa))), some (.inr (.inr (7, ab))), some (.inl xc), some (.inl xd), some (.inl xe), some (.inr (.inr (7, af))), some (.inl x16), none, none] [] w15
    else
      nc_bd xd 3 fun j17 =>
      nc_lt (nc_si w 615 aa j17 (-1)) fun w18 =>
      nc_bV (nc_Call m_X7_copyFrom [.inr (.inr (7, af)), .inr (.inr (7, ab))] w18) fun w19 =>
      if za ≠ 0 then
        nc_bI (nc_Call m_X7_milk [.inr (.inr (7, af)), .inl xc] w19) fun r21 w20 =>
        nc_bV (nc_Call m_X7_talk [.inr (.inr (7, af))] w20) fun w22 =>
        nc_bV (nc_Call m_X7_turn [.inr (.inr (7, af))] w22) fun w23 =>
        nc_bV (nc_Call m_X8_go_1 [.inr (.inr (8, aa)), .inr (.inr (7, af)), .inl xc, .inl (xd + 1), .inl (xe + r21)] w23) fun w24 =>
        nc_li (xg + 1) fun x25 =>
        nc_Run m_X8_go_0 46 [some (.inr (.inr (8, aa))), some (.inr (.inr (7, ab))), some (.inl xc), some (.inl xd), some (.inl xe), some (.inr (.inr (7, af))), some (.inl x25), none, none] [] w24
      else
        nc_bV (nc_Call m_X7_hear [.inr (.inr (7, af)), .inl xc, .inl xg] w19) fun w26 =>
        nc_bI (nc_Call m_X7_milk [.inr (.inr (7, af)), .inl xc] w26) fun r28 w27 =>
        nc_bV (nc_Call m_X7_talk [.inr (.inr (7, af))] w27) fun w29 =>
        nc_bV (nc_Call m_X7_turn [.inr (.inr (7, af))] w29) fun w30 =>
        nc_bV (nc_Call m_X8_go_1 [.inr (.inr (8, aa)), .inr (.inr (7, af)), .inl xc, .inl (xd + 1), .inl (xe + r28)] w30) fun w31 =>
        nc_li (xg + 1) fun x32 =>
        nc_Run m_X8_go_0 46 [some (.inr (.inr (8, aa))), some (.inr (.inr (7, ab))), some (.inl xc), some (.inl xd), some (.inl xe), some (.inr (.inr (7, af))), some (.inl x32), none, none] [] w31
  else
    nc_bI (nc_Call m_X7_whyNotTold [.inr (.inr (7, ab)), .inl xc, .inl xg] w) fun r34 w33 =>
    if r34 ≠ 0 then
      nc_li (xg + 1) fun x35 =>
      nc_Run m_X8_go_0 46 [some (.inr (.inr (8, aa))), some (.inr (.inr (7, ab))), some (.inl xc), some (.inl xd), some (.inl xe), some (.inr (.inr (7, af))), some (.inl x35), none, none] [] w33
    else
      if za = 0 then
        nc_bd xd 3 fun j36 =>
        nc_lt (nc_si w33 615 aa j36 xg) fun w37 =>
        nc_bV (nc_Call m_X7_copyFrom [.inr (.inr (7, af)), .inr (.inr (7, ab))] w37) fun w38 =>
        if za ≠ 0 then
          nc_bI (nc_Call m_X7_milk [.inr (.inr (7, af)), .inl xc] w38) fun r40 w39 =>
          nc_bV (nc_Call m_X7_talk [.inr (.inr (7, af))] w39) fun w41 =>
          nc_bV (nc_Call m_X7_turn [.inr (.inr (7, af))] w41) fun w42 =>
          nc_bV (nc_Call m_X8_go_1 [.inr (.inr (8, aa)), .inr (.inr (7, af)), .inl xc, .inl (xd + 1), .inl (xe + r40)] w42) fun w43 =>
          nc_li (xg + 1) fun x44 =>
          nc_Run m_X8_go_0 46 [some (.inr (.inr (8, aa))), some (.inr (.inr (7, ab))), some (.inl xc), some (.inl xd), some (.inl xe), some (.inr (.inr (7, af))), some (.inl x44), none, none] [] w43
        else
          nc_bV (nc_Call m_X7_hear [.inr (.inr (7, af)), .inl xc, .inl xg] w38) fun w45 =>
          nc_bI (nc_Call m_X7_milk [.inr (.inr (7, af)), .inl xc] w45) fun r47 w46 =>
          nc_bV (nc_Call m_X7_talk [.inr (.inr (7, af))] w46) fun w48 =>
          nc_bV (nc_Call m_X7_turn [.inr (.inr (7, af))] w48) fun w49 =>
          nc_bV (nc_Call m_X8_go_1 [.inr (.inr (8, aa)), .inr (.inr (7, af)), .inl xc, .inl (xd + 1), .inl (xe + r47)] w49) fun w50 =>
          nc_li (xg + 1) fun x51 =>
          nc_Run m_X8_go_0 46 [some (.inr (.inr (8, aa))), some (.inr (.inr (7, ab))), some (.inl xc), some (.inl xd), some (.inl xe), some (.inr (.inr (7, af))), some (.inl x51), none, none] [] w50
      else
        nc_bd xd 3 fun j52 =>
        nc_lt (nc_si w33 615 aa j52 (-1)) fun w53 =>
        nc_bV (nc_Call m_X7_copyFrom [.inr (.inr (7, af)), .inr (.inr (7, ab))] w53) fun w54 =>
        if za ≠ 0 then
          nc_bI (nc_Call m_X7_milk [.inr (.inr (7, af)), .inl xc] w54) fun r56 w55 =>
          nc_bV (nc_Call m_X7_talk [.inr (.inr (7, af))] w55) fun w57 =>
          nc_bV (nc_Call m_X7_turn [.inr (.inr (7, af))] w57) fun w58 =>
          nc_bV (nc_Call m_X8_go_1 [.inr (.inr (8, aa)), .inr (.inr (7, af)), .inl xc, .inl (xd + 1), .inl (xe + r56)] w58) fun w59 =>
          nc_li (xg + 1) fun x60 =>
          nc_Run m_X8_go_0 46 [some (.inr (.inr (8, aa))), some (.inr (.inr (7, ab))), some (.inl xc), some (.inl xd), some (.inl xe), some (.inr (.inr (7, af))), some (.inl x60), none, none] [] w59
        else
          nc_bV (nc_Call m_X7_hear [.inr (.inr (7, af)), .inl xc, .inl xg] w54) fun w61 =>
          nc_bI (nc_Call m_X7_milk [.inr (.inr (7, af)), .inl xc] w61) fun r63 w62 =>
          nc_bV (nc_Call m_X7_talk [.inr (.inr (7, af))] w62) fun w64 =>
          nc_bV (nc_Call m_X7_turn [.inr (.inr (7, af))] w64) fun w65 =>
          nc_bV (nc_Call m_X8_go_1 [.inr (.inr (8, aa)), .inr (.inr (7, af)), .inl xc, .inl (xd + 1), .inl (xe + r63)] w65) fun w66 =>
          nc_li (xg + 1) fun x67 =>
          nc_Run m_X8_go_0 46 [some (.inr (.inr (8, aa))), some (.inr (.inr (7, ab))), some (.inl xc), some (.inl xd), some (.inl xe), some (.inr (.inr (7, af))), some (.inl x67), none, none] [] w66 :=
  (nc_Run_un [46, 75] 46).trans rfl
set_option maxRecDepth 100000 in
theorem qc_X10_addRun (aa : Nat) (xb : Int32) (w : nc_H) : nc_Call m_X10_addRun [.inr (.inr (10, aa)), .inl xb] w =
  nc_Run m_X10_addRun 13 [some (.inr (.inr (10, aa))), some (.inl xb), some (.inl 0), some (.inl 0), some (.inl 0), some (.inr (.inl 0)), none, some (.inl xb)] [] w :=
  (nc_Call_eq _ _ _).trans ((if_pos (Nat.le_of_ble_eq_true rfl)).trans ((nc_Run_un [13] 11).trans rfl))
set_option maxRecDepth 100000 in
theorem qr_X10_addRun_13 (aa : Nat) (xb : Int32) (xc : Int32) (xd : Int32) (xe : Int32) (yf : Int64) (xh : Int32) (w : nc_H) : nc_Run m_X10_addRun 13 [some (.inr (.inr (10, aa))), some (.inl xb), some (.inl xc), some (.inl xd), some (.inl xe), some (.inr (.inl yf)), none, some (.inl xh)] [] w =
  if (w.1 10 aa 1) ≤ xh then
    if xd ≠ xc then
      if xd ≠ 0 then
        nc_bV (nc_Call m_X10_add [.inr (.inr (10, aa)), .inl xb, .inl 1, .inl xe, .inr (.inl 0)] w) fun w1 =>
        some (some (.inl xc), w1)
      else
        if (3 : Int32) < xc then
          nc_bV (nc_Call m_X10_add [.inr (.inr (10, aa)), .inl xb, .inl 1, .inl xe, .inr (.inl 0)] w) fun w2 =>
          some (some (.inl xc), w2)
        else
          nc_bV (nc_Call m_X10_add [.inr (.inr (10, aa)), .inl xb, .inl 4, .inl xe, .inr (.inl 0)] w) fun w3 =>
          some (some (.inl xc), w3)
    else
      if (7 : Int32) < xc then
        if xd ≠ 0 then
          nc_bV (nc_Call m_X10_add [.inr (.inr (10, aa)), .inl xb, .inl 1, .inl xe, .inr (.inl 0)] w) fun w4 =>
          some (some (.inl xc), w4)
        else
          if (3 : Int32) < xc then
            nc_bV (nc_Call m_X10_add [.inr (.inr (10, aa)), .inl xb, .inl 1, .inl xe, .inr (.inl 0)] w) fun w5 =>
            some (some (.inl xc), w5)
          else
            nc_bV (nc_Call m_X10_add [.inr (.inr (10, aa)), .inl xb, .inl 4, .inl xe, .inr (.inl 0)] w) fun w6 =>
            some (some (.inl xc), w6)
      else
        nc_bI (nc_Call m_X10_toldWord [.inr (.inr (10, aa)), .inr (.inl yf)] w) fun r8 w7 =>
        if r8 ≠ (-1) then
          nc_bV (nc_Call m_X10_add [.inr (.inr (10, aa)), .inl xb, .inl 2, .inl r8, .inr (.inl yf)] w7) fun w9 =>
          some (some (.inl xc), w9)
        else
          nc_bV (nc_Call m_X10_add [.inr (.inr (10, aa)), .inl xb, .inl 3, .inl r8, .inr (.inl yf)] w7) fun w10 =>
          some (some (.inl xc), w10)
  else
    nc_bI (nc_Call m_X10_at [.inr (.inr (10, aa)), .inl xh] w) fun r12 w11 =>
    nc_bI (nc_Call m_X10_isLetter [.inl r12] w11) fun r14 w13 =>
    if r14 ≠ 0 then
      nc_li (xc + 1) fun x15 =>
      nc_bI (nc_Call m_X10_at [.inr (.inr (10, aa)), .inl xh] w13) fun r17 w16 =>
      nc_bI (nc_Call m_X10_isLetter [.inl r17] w16) fun r19 w18 =>
      if r19 = 0 then
        nc_bI (nc_Call m_X10_at [.inr (.inr (10, aa)), .inl xh] w18) fun r21 w20 =>
        nc_li (((xe * 10) + r21) - 48) fun x22 =>
        nc_li (xh + 1) fun x23 =>
        nc_Run m_X10_addRun 13 [some (.inr (.inr (10, aa))), some (.inl xb), some (.inl x15), some (.inl xd), some (.inl x22), some (.inr (.inl yf)), none, some (.inl x23)] [] w20
      else
        nc_bI (nc_Call m_X10_at [.inr (.inr (10, aa)), .inl xh] w18) fun r25 w24 =>
        nc_bL (nc_Call m_X10_withLetter [.inr (.inl yf), .inl r25] w24) fun y27 w26 =>
        nc_li (xd + 1) fun x28 =>
        nc_li (xh + 1) fun x29 =>
        nc_Run m_X10_addRun 13 [some (.inr (.inr (10, aa))), some (.inl xb), some (.inl x15), some (.inl x28), some (.inl xe), some (.inr (.inl y27)), none, some (.inl x29)] [] w26
    else
      nc_bI (nc_Call m_X10_at [.inr (.inr (10, aa)), .inl xh] w13) fun r31 w30 =>
      nc_bI (nc_Call m_X10_isDigit [.inl r31] w30) fun r33 w32 =>
      if r33 = 0 then
        if xd ≠ xc then
          if xd ≠ 0 then
            nc_bV (nc_Call m_X10_add [.inr (.inr (10, aa)), .inl xb, .inl 1, .inl xe, .inr (.inl 0)] w32) fun w34 =>
            some (some (.inl xc), w34)
          else
            if (3 : Int32) < xc then
              nc_bV (nc_Call m_X10_add [.inr (.inr (10, aa)), .inl xb, .inl 1, .inl xe, .inr (.inl 0)] w32) fun w35 =>
              some (some (.inl xc), w35)
            else
              nc_bV (nc_Call m_X10_add [.inr (.inr (10, aa)), .inl xb, .inl 4, .inl xe, .inr (.inl 0)] w32) fun w36 =>
              some (some (.inl xc), w36)
        else
          if (7 : Int32) < xc then
            if xd ≠ 0 then
              nc_bV (nc_Call m_X10_add [.inr (.inr (10, aa)), .inl xb, .inl 1, .inl xe, .inr (.inl 0)] w32) fun w37 =>
              some (some (.inl xc), w37)
            else
              if (3 : Int32) < xc then
                nc_bV (nc_Call m_X10_add [.inr (.inr (10, aa)), .inl xb, .inl 1, .inl xe, .inr (.inl 0)] w32) fun w38 =>
                some (some (.inl xc), w38)
              else
                nc_bV (nc_Call m_X10_add [.inr (.inr (10, aa)), .inl xb, .inl 4, .inl xe, .inr (.inl 0)] w32) fun w39 =>
                some (some (.inl xc), w39)
          else
            nc_bI (nc_Call m_X10_toldWord [.inr (.inr (10, aa)), .inr (.inl yf)] w32) fun r41 w40 =>
            if r41 ≠ (-1) then
              nc_bV (nc_Call m_X10_add [.inr (.inr (10, aa)), .inl xb, .inl 2, .inl r41, .inr (.inl yf)] w40) fun w42 =>
              some (some (.inl xc), w42)
            else
              nc_bV (nc_Call m_X10_add [.inr (.inr (10, aa)), .inl xb, .inl 3, .inl r41, .inr (.inl yf)] w40) fun w43 =>
              some (some (.inl xc), w43)
      else
        nc_li (xc + 1) fun x44 =>
        nc_bI (nc_Call m_X10_at [.inr (.inr (10, aa)), .inl xh] w32) fun r46 w45 =>
        nc_bI (nc_Call m_X10_isLetter [.inl r46] w45) fun r48 w47 =>
        if r48 = 0 then
          nc_bI (nc_Call m_X10_at [.inr (.inr (10, aa)), .inl xh] w47) fun r50 w49 =>
          nc_li (((xe * 10) + r50) - 48) fun x51 =>
          nc_li (xh + 1) fun x52 =>
          nc_Run m_X10_addRun 13 [some (.inr (.inr (10, aa))), some (.inl xb), some (.inl x44), some (.inl xd), some (.inl x51), some (.inr (.inl yf)), none, some (.inl x52)] [] w49
        else
          nc_bI (nc_Call m_X10_at [.inr (.inr (10, aa)), .inl xh] w47) fun r54 w53 =>
          nc_bL (nc_Call m_X10_withLetter [.inr (.inl yf), .inl r54] w53) fun y56 w55 =>
          nc_li (xd + 1) fun x57 =>
          nc_li (xh + 1) fun x58 =>
          nc_Run m_X10_addRun 13 [some (.inr (.inr (10, aa))), some (.inl xb), some (.inl x44), some (.inl x57), some (.inl xe), some (.inr (.inl y56)), none, some (.inl x58)] [] w55 :=
  (nc_Run_un [13] 37).trans rfl
set_option maxRecDepth 100000 in
theorem qc_X10_start (aa : Nat) (xb : Int32) (w : nc_H) : nc_Call m_X10_start [.inr (.inr (10, aa)), .inl xb] w =
  nc_li (if xb < (w.1 10 aa 1) then xb else (w.1 10 aa 1)) fun x1 =>
  if (w.1 10 aa 1) ≤ xb then
    nc_lt (nc_si w 10 aa 9 0) fun w2 =>
    nc_lt (nc_si w2 10 aa 14 0) fun w3 =>
    nc_lt (nc_si w3 10 aa 15 0) fun w4 =>
    nc_lt (nc_si w4 10 aa 7 0) fun w5 =>
    nc_lt (nc_si w5 10 aa 8 0) fun w6 =>
    nc_Run m_X10_start 51 [some (.inr (.inr (10, aa))), none, some (.inl x1), some (.inl 0), some (.inl 0), none] [] w6
  else
    nc_lt (nc_si w 10 aa 9 1) fun w7 =>
    nc_lt (nc_si w7 10 aa 14 0) fun w8 =>
    nc_lt (nc_si w8 10 aa 15 0) fun w9 =>
    nc_lt (nc_si w9 10 aa 7 0) fun w10 =>
    nc_lt (nc_si w10 10 aa 8 0) fun w11 =>
    nc_Run m_X10_start 51 [some (.inr (.inr (10, aa))), none, some (.inl x1), some (.inl 0), some (.inl 0), none] [] w11 :=
  (nc_Call_eq _ _ _).trans ((if_pos (Nat.le_of_ble_eq_true rfl)).trans ((nc_Run_un [51] 30).trans rfl))
set_option maxRecDepth 100000 in
theorem qr_X10_start_51 (aa : Nat) (xc : Int32) (xd : Int32) (xe : Int32) (w : nc_H) : nc_Run m_X10_start 51 [some (.inr (.inr (10, aa))), none, some (.inl xc), some (.inl xd), some (.inl xe), none] [] w =
  if xc ≤ xe then
    nc_bV (nc_Call m_X10_add [.inr (.inr (10, aa)), .inl xc, .inl 0, .inl 0, .inr (.inl 0)] w) fun w1 =>
    some (none, w1)
  else
    nc_bI (nc_Call m_X10_at [.inr (.inr (10, aa)), .inl xe] w) fun r3 w2 =>
    if xe < xd then
      if xe < xd then
        nc_li (xe + 1) fun x4 =>
        nc_Run m_X10_start 51 [some (.inr (.inr (10, aa))), none, some (.inl xc), some (.inl xd), some (.inl x4), none] [] w2
      else
        if r3 = 32 then
          nc_li (xe + 1) fun x5 =>
          nc_Run m_X10_start 51 [some (.inr (.inr (10, aa))), none, some (.inl xc), some (.inl xd), some (.inl x5), none] [] w2
        else
          if r3 = 10 then
            nc_li (xe + 1) fun x6 =>
            nc_Run m_X10_start 51 [some (.inr (.inr (10, aa))), none, some (.inl xc), some (.inl xd), some (.inl x6), none] [] w2
          else
            if (nc_sig ((r3.toUInt32 % 65536).toInt32)) < 0 then
              nc_bV (nc_Call m_X10_add [.inr (.inr (10, aa)), .inl xe, .inl 1, .inl r3, .inr (.inl 0)] w2) fun w7 =>
              nc_li (xe + 1) fun x8 =>
              nc_Run m_X10_start 51 [some (.inr (.inr (10, aa))), none, some (.inl xc), some (.inl xd), some (.inl x8), none] [] w7
            else
              nc_bV (nc_Call m_X10_add [.inr (.inr (10, aa)), .inl xe, .inl 5, .inl r3, .inr (.inl 0)] w2) fun w9 =>
              nc_li (xe + 1) fun x10 =>
              nc_Run m_X10_start 51 [some (.inr (.inr (10, aa))), none, some (.inl xc), some (.inl xd), some (.inl x10), none] [] w9
    else
      nc_bI (nc_Call m_X10_isLetter [.inl r3] w2) fun r12 w11 =>
      if r12 ≠ 0 then
        nc_bI (nc_Call m_X10_addRun [.inr (.inr (10, aa)), .inl xe] w11) fun r14 w13 =>
        nc_li (xe + r14) fun x15 =>
        nc_li (xe + 1) fun x16 =>
        nc_Run m_X10_start 51 [some (.inr (.inr (10, aa))), none, some (.inl xc), some (.inl x15), some (.inl x16), none] [] w13
      else
        nc_bI (nc_Call m_X10_isDigit [.inl r3] w11) fun r18 w17 =>
        if r18 = 0 then
          if xe < xd then
            nc_li (xe + 1) fun x19 =>
            nc_Run m_X10_start 51 [some (.inr (.inr (10, aa))), none, some (.inl xc), some (.inl xd), some (.inl x19), none] [] w17
          else
            if r3 = 32 then
              nc_li (xe + 1) fun x20 =>
              nc_Run m_X10_start 51 [some (.inr (.inr (10, aa))), none, some (.inl xc), some (.inl xd), some (.inl x20), none] [] w17
            else
              if r3 = 10 then
                nc_li (xe + 1) fun x21 =>
                nc_Run m_X10_start 51 [some (.inr (.inr (10, aa))), none, some (.inl xc), some (.inl xd), some (.inl x21), none] [] w17
              else
                if (nc_sig ((r3.toUInt32 % 65536).toInt32)) < 0 then
                  nc_bV (nc_Call m_X10_add [.inr (.inr (10, aa)), .inl xe, .inl 1, .inl r3, .inr (.inl 0)] w17) fun w22 =>
                  nc_li (xe + 1) fun x23 =>
                  nc_Run m_X10_start 51 [some (.inr (.inr (10, aa))), none, some (.inl xc), some (.inl xd), some (.inl x23), none] [] w22
                else
                  nc_bV (nc_Call m_X10_add [.inr (.inr (10, aa)), .inl xe, .inl 5, .inl r3, .inr (.inl 0)] w17) fun w24 =>
                  nc_li (xe + 1) fun x25 =>
                  nc_Run m_X10_start 51 [some (.inr (.inr (10, aa))), none, some (.inl xc), some (.inl xd), some (.inl x25), none] [] w24
        else
          nc_bI (nc_Call m_X10_addRun [.inr (.inr (10, aa)), .inl xe] w17) fun r27 w26 =>
          nc_li (xe + r27) fun x28 =>
          nc_li (xe + 1) fun x29 =>
          nc_Run m_X10_start 51 [some (.inr (.inr (10, aa))), none, some (.inl xc), some (.inl x28), some (.inl x29), none] [] w26 :=
  (nc_Run_un [51] 40).trans rfl
set_option maxRecDepth 100000 in
theorem qc_X10_nextLine (aa : Nat) (w : nc_H) : nc_Call m_X10_nextLine [.inr (.inr (10, aa))] w =
  nc_bV (nc_Call m_X10_next [.inr (.inr (10, aa))] w) fun w1 =>
  if (w1.1 10 aa 11) = 0 then
    some (some (.inl 0), w1)
  else
    some (some (.inl 1), w1) :=
  (nc_Call_eq _ _ _).trans ((if_pos (Nat.le_of_ble_eq_true rfl)).trans ((nc_Run_un [] 8).trans rfl))
set_option maxRecDepth 100000 in
theorem qc_X0_readArg (aa : Nat) (ab : Nat) (xc : Int32) (w : nc_H) : nc_Call m_X0_readArg [.inr (.inr (10, aa)), .inr (.inr (2, ab)), .inl xc] w =
  if xc ≠ 11 then
    nc_bV (nc_Call m_X10_next [.inr (.inr (10, aa))] w) fun w1 =>
    nc_bI (nc_Call m_X2_named [.inr (.inr (2, ab)), .inr (.inr (10, aa)), .inl 12, .inl 10] w1) fun r3 w2 =>
    some (some (.inl r3), w2)
  else
    nc_bI (nc_Call m_X10_nextNumber [.inr (.inr (10, aa)), .inl 1, .inl 60] w) fun r5 w4 =>
    if r5 = 0 then
      some (some (.inl (-1)), w4)
    else
      some (some (.inl (w4.1 10 aa 12)), w4) :=
  (nc_Call_eq _ _ _).trans ((if_pos (Nat.le_of_ble_eq_true rfl)).trans ((nc_Run_un [] 12).trans rfl))
set_option maxRecDepth 100000 in
theorem qc_X10_closesLine (aa : Nat) (w : nc_H) : nc_Call m_X10_closesLine [.inr (.inr (10, aa))] w =
  nc_bV (nc_Call m_X10_next [.inr (.inr (10, aa))] w) fun w1 =>
  nc_bI (nc_Call m_X10_mustBeSign [.inr (.inr (10, aa)), .inl 59] w1) fun r3 w2 =>
  nc_z r3 <| some (some (.inl r3), w2) :=
  (nc_Call_eq _ _ _).trans ((if_pos (Nat.le_of_ble_eq_true rfl)).trans ((nc_Run_un [] 6).trans rfl))
set_option maxRecDepth 100000 in
theorem qc_X0_readLine (aa : Nat) (ab : Nat) (ac : Nat) (w : nc_H) : nc_Call m_X0_readLine [.inr (.inr (0, aa)), .inr (.inr (10, ab)), .inr (.inr (2, ac))] w =
  nc_bI (nc_Call m_X10_word [.inr (.inr (10, ab))] w) fun r2 w1 =>
  if r2 = 10 then
    nc_Run m_X0_readLine 21 [some (.inr (.inr (0, aa))), some (.inr (.inr (10, ab))), some (.inr (.inr (2, ac))), some (.inl r2), none, none, none] [] w1
  else
    if r2 = 11 then
      nc_Run m_X0_readLine 21 [some (.inr (.inr (0, aa))), some (.inr (.inr (10, ab))), some (.inr (.inr (2, ac))), some (.inl r2), none, none, none] [] w1
    else
      nc_bI (nc_Call m_X2_named [.inr (.inr (2, ac)), .inr (.inr (10, ab)), .inl 4, .inl 8] w1) fun r4 w3 =>
      if (0 : Int32) ≤ r4 then
        if (w3.1 0 aa 3) < 40 then
          nc_bV (nc_Call m_X10_next [.inr (.inr (10, ab))] w3) fun w5 =>
          nc_bI (nc_Call m_X10_word [.inr (.inr (10, ab))] w5) fun r7 w6 =>
          if r7 = 9 then
            nc_bI (nc_Call m_X0_readArg [.inr (.inr (10, ab)), .inr (.inr (2, ac)), .inl r7] w6) fun r9 w8 =>
            if r9 < 0 then
              some (some (.inl 0), w8)
            else
              nc_bI (nc_Call m_X10_closesLine [.inr (.inr (10, ab))] w8) fun r11 w10 =>
              if r11 ≠ 0 then
                nc_bd (w10.1 0 aa 3) 40 fun j12 =>
                nc_lt (nc_si w10 100 aa j12 r7) fun w13 =>
                nc_bd (w13.1 0 aa 3) 40 fun j14 =>
                nc_lt (nc_si w13 101 aa j14 r4) fun w15 =>
                nc_bd (w15.1 0 aa 3) 40 fun j16 =>
                nc_lt (nc_si w15 102 aa j16 r9) fun w17 =>
                nc_lt (nc_si w17 0 aa 3 ((w17.1 0 aa 3) + 1)) fun w18 =>
                some (some (.inl 1), w18)
              else
                some (some (.inl 0), w10)
          else
            nc_bI (nc_Call m_X10_fail [.inr (.inr (10, ab)), .inl 1] w6) fun r20 w19 =>
            nc_z r20 <| some (some (.inl r20), w19)
        else
          nc_bI (nc_Call m_X10_fail [.inr (.inr (10, ab)), .inl 4] w3) fun r22 w21 =>
          nc_z r22 <| some (some (.inl r22), w21)
      else
        some (some (.inl 0), w3) :=
  (nc_Call_eq _ _ _).trans ((if_pos (Nat.le_of_ble_eq_true rfl)).trans ((nc_Run_un [21] 73).trans rfl))
set_option maxRecDepth 100000 in
theorem qr_X0_readLine_21 (aa : Nat) (ab : Nat) (ac : Nat) (xd : Int32) (w : nc_H) : nc_Run m_X0_readLine 21 [some (.inr (.inr (0, aa))), some (.inr (.inr (10, ab))), some (.inr (.inr (2, ac))), some (.inl xd), none, none, none] [] w =
  if (w.1 0 aa 3) < 40 then
    nc_bI (nc_Call m_X0_readArg [.inr (.inr (10, ab)), .inr (.inr (2, ac)), .inl xd] w) fun r2 w1 =>
    if r2 < 0 then
      some (some (.inl 0), w1)
    else
      nc_bI (nc_Call m_X10_closesLine [.inr (.inr (10, ab))] w1) fun r4 w3 =>
      if r4 ≠ 0 then
        nc_bd (w3.1 0 aa 3) 40 fun j5 =>
        nc_lt (nc_si w3 100 aa j5 xd) fun w6 =>
        nc_bd (w6.1 0 aa 3) 40 fun j7 =>
        nc_lt (nc_si w6 101 aa j7 0) fun w8 =>
        nc_bd (w8.1 0 aa 3) 40 fun j9 =>
        nc_lt (nc_si w8 102 aa j9 r2) fun w10 =>
        nc_lt (nc_si w10 0 aa 3 ((w10.1 0 aa 3) + 1)) fun w11 =>
        some (some (.inl 1), w11)
      else
        some (some (.inl 0), w3)
  else
    nc_bI (nc_Call m_X10_fail [.inr (.inr (10, ab)), .inl 4] w) fun r13 w12 =>
    nc_z r13 <| some (some (.inl r13), w12) :=
  (nc_Run_un [21] 50).trans rfl
set_option maxRecDepth 100000 in
theorem qc_X10_mustEnd (aa : Nat) (w : nc_H) : nc_Call m_X10_mustEnd [.inr (.inr (10, aa))] w =
  if (w.1 10 aa 11) ≠ 0 then
    nc_bI (nc_Call m_X10_fail [.inr (.inr (10, aa)), .inl 1] w) fun r2 w1 =>
    if r2 = 0 then
      some (some (.inl 0), w1)
    else
      some (some (.inl 1), w1)
  else
    if (w.1 10 aa 9) = 0 then
      some (some (.inl 1), w)
    else
      nc_bI (nc_Call m_X10_fail [.inr (.inr (10, aa)), .inl 1] w) fun r4 w3 =>
      if r4 = 0 then
        some (some (.inl 0), w3)
      else
        some (some (.inl 1), w3) :=
  (nc_Call_eq _ _ _).trans ((if_pos (Nat.le_of_ble_eq_true rfl)).trans ((nc_Run_un [] 13).trans rfl))
set_option maxRecDepth 100000 in
theorem qc_X0_read (aa : Nat) (ab : Nat) (ac : Nat) (w : nc_H) : nc_Call m_X0_read [.inr (.inr (0, aa)), .inr (.inr (10, ab)), .inr (.inr (2, ac))] w =
  nc_lt (nc_si w 0 aa 3 0) fun w1 =>
  nc_bV (nc_Call m_X10_start [.inr (.inr (10, ab)), .inl 400] w1) fun w2 =>
  nc_Run m_X0_read 14 [some (.inr (.inr (0, aa))), some (.inr (.inr (10, ab))), some (.inr (.inr (2, ac))), some (.inl 0)] [] w2 :=
  (nc_Call_eq _ _ _).trans ((if_pos (Nat.le_of_ble_eq_true rfl)).trans ((nc_Run_un [14] 9).trans rfl))
set_option maxRecDepth 100000 in
theorem qr_X0_read_14 (aa : Nat) (ab : Nat) (ac : Nat) (xd : Int32) (w : nc_H) : nc_Run m_X0_read 14 [some (.inr (.inr (0, aa))), some (.inr (.inr (10, ab))), some (.inr (.inr (2, ac))), some (.inl xd)] [] w =
  if (400 : Int32) < xd then
    nc_bI (nc_Call m_X10_mustEnd [.inr (.inr (10, ab))] w) fun r2 w1 =>
    nc_z r2 <| some (some (.inl r2), w1)
  else
    nc_bI (nc_Call m_X10_nextLine [.inr (.inr (10, ab))] w) fun r4 w3 =>
    if r4 = 0 then
      nc_bI (nc_Call m_X10_mustEnd [.inr (.inr (10, ab))] w3) fun r6 w5 =>
      nc_z r6 <| some (some (.inl r6), w5)
    else
      nc_bI (nc_Call m_X0_readLine [.inr (.inr (0, aa)), .inr (.inr (10, ab)), .inr (.inr (2, ac))] w3) fun r8 w7 =>
      if r8 ≠ 0 then
        nc_li (xd + 1) fun x9 =>
        nc_Run m_X0_read 14 [some (.inr (.inr (0, aa))), some (.inr (.inr (10, ab))), some (.inr (.inr (2, ac))), some (.inl x9)] [] w7
      else
        some (some (.inl 0), w7) :=
  (nc_Run_un [14] 14).trans rfl
set_option maxRecDepth 100000 in
theorem qc_X7_fillPails (aa : Nat) (w : nc_H) : nc_Call m_X7_fillPails [.inr (.inr (7, aa))] w =
  nc_li (((w.1 7 aa 1) - (w.1 7 aa 1) / 30 * 30) * 4) fun x1 =>
  nc_Run m_X7_fillPails 12 [some (.inr (.inr (7, aa))), some (.inl x1), some (.inl 0), none, none] [] w :=
  (nc_Call_eq _ _ _).trans ((if_pos (Nat.le_of_ble_eq_true rfl)).trans ((nc_Run_un [12, 34] 10).trans rfl))
set_option maxRecDepth 100000 in
theorem qr_X7_fillPails_12 (aa : Nat) (xb : Int32) (xc : Int32) (w : nc_H) : nc_Run m_X7_fillPails 12 [some (.inr (.inr (7, aa))), some (.inl xb), some (.inl xc), none, none] [] w =
  if (4 : Int32) ≤ xc then
    nc_Run m_X7_fillPails 34 [some (.inr (.inr (7, aa))), some (.inl xb), some (.inl 0), none, none] [] w
  else
    nc_bd (xb + xc) 120 fun j1 =>
    nc_lt (nc_si w 562 aa j1 0) fun w2 =>
    nc_li (xc + 1) fun x3 =>
    nc_Run m_X7_fillPails 12 [some (.inr (.inr (7, aa))), some (.inl xb), some (.inl x3), none, none] [] w2 :=
  (nc_Run_un [12, 34] 13).trans rfl
set_option maxRecDepth 100000 in
theorem qr_X7_fillPails_34 (aa : Nat) (xb : Int32) (xc : Int32) (w : nc_H) : nc_Run m_X7_fillPails 34 [some (.inr (.inr (7, aa))), some (.inl xb), some (.inl xc), none, none] [] w =
  if (w.1 2 (nc_ld aa) 2) ≤ xc then
    some (none, w)
  else
    nc_bI (nc_Call m_X7_milk [.inr (.inr (7, aa)), .inl xc] w) fun r2 w1 =>
    nc_bd xc 8 fun j3 =>
    nc_li (w1.1 238 (nc_ld aa) j3) fun x4 =>
    nc_bd xc 8 fun j5 =>
    nc_bd xc 8 fun j6 =>
    nc_lt (nc_si w1 560 aa j6 ((w1.1 560 aa j5) + r2)) fun w7 =>
    nc_bd x4 4 fun j8 =>
    nc_bd x4 4 fun j9 =>
    nc_lt (nc_si w7 561 aa j9 ((w7.1 561 aa j8) + r2)) fun w10 =>
    nc_bd (xb + x4) 120 fun j11 =>
    nc_bd (xb + x4) 120 fun j12 =>
    nc_lt (nc_si w10 562 aa j12 ((w10.1 562 aa j11) + r2)) fun w13 =>
    nc_li (xc + 1) fun x14 =>
    nc_Run m_X7_fillPails 34 [some (.inr (.inr (7, aa))), some (.inl xb), some (.inl x14), none, none] [] w13 :=
  (nc_Run_un [12, 34] 44).trans rfl
set_option maxRecDepth 100000 in
theorem qc_X7_goDays (aa : Nat) (xb : Int32) (w : nc_H) : nc_Call m_X7_goDays [.inr (.inr (7, aa)), .inl xb] w =
  nc_li (w.1 7 aa 1) fun x1 =>
  nc_Run m_X7_goDays 7 [some (.inr (.inr (7, aa))), some (.inl xb), some (.inl x1), some (.inl 0)] [] w :=
  (nc_Call_eq _ _ _).trans ((if_pos (Nat.le_of_ble_eq_true rfl)).trans ((nc_Run_un [7] 6).trans rfl))
set_option maxRecDepth 100000 in
theorem qr_X7_goDays_7 (aa : Nat) (xb : Int32) (xc : Int32) (xd : Int32) (w : nc_H) : nc_Run m_X7_goDays 7 [some (.inr (.inr (7, aa))), some (.inl xb), some (.inl xc), some (.inl xd)] [] w =
  if xb ≤ xd then
    some (some (.inl ((w.1 7 aa 1) - xc)), w)
  else
    if (400 : Int32) ≤ (w.1 7 aa 1) then
      some (some (.inl ((w.1 7 aa 1) - xc)), w)
    else
      nc_bV (nc_Call m_X7_fillPails [.inr (.inr (7, aa))] w) fun w1 =>
      nc_bV (nc_Call m_X7_talk [.inr (.inr (7, aa))] w1) fun w2 =>
      nc_bV (nc_Call m_X7_turn [.inr (.inr (7, aa))] w2) fun w3 =>
      nc_li (xd + 1) fun x4 =>
      nc_Run m_X7_goDays 7 [some (.inr (.inr (7, aa))), some (.inl xb), some (.inl xc), some (.inl x4)] [] w3 :=
  (nc_Run_un [7] 16).trans rfl
