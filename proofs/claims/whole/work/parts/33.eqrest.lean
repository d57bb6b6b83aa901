set_option maxRecDepth 100000 in
theorem qr_X12_isSaid_88 (aa : Nat) (xb : Int32) (xc : Int32) (xd : Int32) (xe : Int32) (w : nc_H) : nc_Run m_X12_isSaid 88 [some (.inr (.inr (12, aa))), some (.inl xb), some (.inl xc), some (.inl xd), some (.inl xe)] [] w =
  nc_li (xc + Int32.ofInt (-1)) fun x1 =>
  nc_bd xe 513 fun j2 =>
  if (w.1 874 aa j2) ≠ 21 then
    nc_Run m_X12_isSaid 138 [some (.inr (.inr (12, aa))), some (.inl xb), some (.inl x1), some (.inl xd), some (.inl xe)] [.inl (x1 - 1), .inr (.inr (913, aa))] w
  else
    nc_Run m_X12_isSaid 110 [some (.inr (.inr (12, aa))), some (.inl xb), some (.inl x1), some (.inl xd), some (.inl xe)] [.inl (x1 - 1), .inr (.inr (913, aa))] w :=
  (nc_Run_un [4, 88, 110, 138, 163] 13).trans rfl
set_option maxRecDepth 100000 in
theorem qr_X12_isSaid_138 (aa : Nat) (xb : Int32) (xc : Int32) (xd : Int32) (xe : Int32) (za : Int32) (bb : Nat) (w : nc_H) : nc_Run m_X12_isSaid 138 [some (.inr (.inr (12, aa))), some (.inl xb), some (.inl xc), some (.inl xd), some (.inl xe)] [.inl za, .inr (.inr (913, bb))] w =
  nc_bd (xc - 1) 45 fun j1 =>
  if (w.1 913 aa j1) ≠ 0 then
    nc_Run m_X12_isSaid 163 [some (.inr (.inr (12, aa))), some (.inl xb), some (.inl xc), some (.inl xd), some (.inl xe)] [.inl 1, .inl za, .inr (.inr (913, bb))] w
  else
    nc_bd xc 45 fun j2 =>
    if (w.1 913 aa j2) = 0 then
      nc_Run m_X12_isSaid 163 [some (.inr (.inr (12, aa))), some (.inl xb), some (.inl xc), some (.inl xd), some (.inl xe)] [.inl 0, .inl za, .inr (.inr (913, bb))] w
    else
      nc_Run m_X12_isSaid 163 [some (.inr (.inr (12, aa))), some (.inl xb), some (.inl xc), some (.inl xd), some (.inl xe)] [.inl 1, .inl za, .inr (.inr (913, bb))] w :=
  (nc_Run_un [4, 88, 110, 138, 163] 15).trans rfl
set_option maxRecDepth 100000 in
theorem qr_X12_isSaid_110 (aa : Nat) (xb : Int32) (xc : Int32) (xd : Int32) (xe : Int32) (za : Int32) (bb : Nat) (w : nc_H) : nc_Run m_X12_isSaid 110 [some (.inr (.inr (12, aa))), some (.inl xb), some (.inl xc), some (.inl xd), some (.inl xe)] [.inl za, .inr (.inr (913, bb))] w =
  nc_bd (xc - 1) 45 fun j1 =>
  if (w.1 913 aa j1) = 0 then
    nc_Run m_X12_isSaid 163 [some (.inr (.inr (12, aa))), some (.inl xb), some (.inl xc), some (.inl xd), some (.inl xe)] [.inl 0, .inl za, .inr (.inr (913, bb))] w
  else
    nc_bd xc 45 fun j2 =>
    if (w.1 913 aa j2) = 0 then
      nc_Run m_X12_isSaid 163 [some (.inr (.inr (12, aa))), some (.inl xb), some (.inl xc), some (.inl xd), some (.inl xe)] [.inl 0, .inl za, .inr (.inr (913, bb))] w
    else
      nc_Run m_X12_isSaid 163 [some (.inr (.inr (12, aa))), some (.inl xb), some (.inl xc), some (.inl xd), some (.inl xe)] [.inl 1, .inl za, .inr (.inr (913, bb))] w :=
  (nc_Run_un [4, 88, 110, 138, 163] 15).trans rfl
set_option maxRecDepth 100000 in
theorem qr_X12_isSaid_163 (aa : Nat) (xb : Int32) (xc : Int32) (xd : Int32) (xe : Int32) (za : Int32) (zb : Int32) (bc : Nat) (w : nc_H) : nc_Run m_X12_isSaid 163 [some (.inr (.inr (12, aa))), some (.inl xb), some (.inl xc), some (.inl xd), some (.inl xe)] [.inl za, .inl zb, .inr (.inr (913, bc))] w =
  nc_bd zb 45 fun j1 =>
  nc_z za <|
  nc_lt (nc_si w 913 bc j1 za) fun w2 =>
  nc_li (xd + 1) fun x3 =>
  nc_Run m_X12_isSaid 4 [some (.inr (.inr (12, aa))), some (.inl xb), some (.inl xc), some (.inl x3), none] [] w2 :=
  (nc_Run_un [4, 88, 110, 138, 163] 5).trans rfl
