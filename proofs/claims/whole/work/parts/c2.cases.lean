/-! THE PLAIN CASES. -/
theorem lw_in {i L : Nat} {k : Nat} (h : i + k < L) (hL : L ≤ 3072) : vp_in (nI i + nI k) L := by
  rw [nI_add]
  exact vp_in_nI h (by omega)
set_option maxRecDepth 100000 in
set_option maxHeartbeats 4000000 in
theorem lw_k0 (l : Launch) {p : Program} {e : Env} {s : State} {m : MethodId} {below : List Frame} {meth : Method} {c : Code} {b L : Nat} {xs : Nat → Int32} {D : va_G} {cA : Nat → ClassId} {ad : Nat → Nat → Nat} (hL : L ≤ 3072) (C : lw_C p s m meth c b L xs D cA ad) {q3 : Nat} {g : Nat → Int64} {w : nc_H} {H : Heap} {locs : List Loc} {cells slots : Nat} {ls : Array Slot} {Q : State → Prop} {i : Nat} (hi : i + 6 ≤ L) (hI : Inv w) (hcs : cells ≤ 601024 ∧ slots ≤ 7293034) (hl : lv_has ls 7 [(4, .int (nI i)), (3, .ref q3), (2, .ref (ad 12 0)), (1, .ref (ad 11 0)), (0, .ref b)]) (hT : lw_S s D cA ad q3 g w H locs) (kk : ∀ (w2 : nc_H) (H1 : Heap) (locs1 : List Loc), Inv w2 → lw_S s D cA ad q3 g w2 H1 locs1 → W p l e room_1 s m #[Value.ref b] below meth c H1 locs1 cells slots Q (F0 m 1316 ls [])) : W p l e room_1 s m #[Value.ref b] below meth c H locs cells slots Q (F0 m 208 ls []) := by
  have C0 := C
  obtain ⟨⟨hx, hb, hr, hml, hown, hts, hX, hbl, hlocks, hgv⟩, hK, hStr⟩ := C0
  have hbA : ¬ lw_A s b := Nat.not_le.mpr hbl
  have h1 : vp_in (nI i + 1) L := lw_in (k := 1) (by omega) hL
  have h2 : vp_in (nI i + 2) L := lw_in (k := 2) (by omega) hL
  have h3 : vp_in (nI i + 3) L := lw_in (k := 3) (by omega) hL
  have h4 : vp_in (nI i + 4) L := lw_in (k := 4) (by omega) hL
  have h5 : vp_in (nI i + 5) L := lw_in (k := 5) (by omega) hL
  obtain ⟨r, w1, w2, e1, e2, hI2⟩ := op_feed hI (xs (nI i + 1).toNatClampNeg) (xs (nI i + 2).toNatClampNeg) (xs (nI i + 3).toNatClampNeg) (xs (nI i + 4).toNatClampNeg) (xs (nI i + 5).toNatClampNeg)
  refine lv_aload_n hx hb (show decode code 208 = .ok (.aload_n 1, 1) by decide +kernel) rfl (lv_at hl 3 rfl) ?_
  refine lv_aload_n hx hb (show decode code 209 = .ok (.aload_n 0, 1) by decide +kernel) rfl (lv_at hl 4 rfl) ?_
  refine lv_iload hx hb (show decode code 210 = .ok (.iload 4, 2) by decide +kernel) (lv_at hl 0 rfl) ?_
  refine lv_iconst (v := 1) hx hb (show decode code 212 = .ok (.iconst 1, 1) by decide +kernel) (by decide) ?_
  refine lv_iadd hx hb (show decode code 213 = .ok (.iadd, 1) by decide +kernel) ?_
  refine va_sld hx hb hX hbl hbA hT.2.2 h1 (show decode code 214 = .ok (.iaload, 1) by decide +kernel) ?_
  refine lv_aload_n hx hb (show decode code 215 = .ok (.aload_n 0, 1) by decide +kernel) rfl (lv_at hl 4 rfl) ?_
  refine lv_iload hx hb (show decode code 216 = .ok (.iload 4, 2) by decide +kernel) (lv_at hl 0 rfl) ?_
  refine lv_iconst (v := 2) hx hb (show decode code 218 = .ok (.iconst 2, 1) by decide +kernel) (by decide) ?_
  refine lv_iadd hx hb (show decode code 219 = .ok (.iadd, 1) by decide +kernel) ?_
  refine va_sld hx hb hX hbl hbA hT.2.2 h2 (show decode code 220 = .ok (.iaload, 1) by decide +kernel) ?_
  refine lv_aload_n hx hb (show decode code 221 = .ok (.aload_n 0, 1) by decide +kernel) rfl (lv_at hl 4 rfl) ?_
  refine lv_iload hx hb (show decode code 222 = .ok (.iload 4, 2) by decide +kernel) (lv_at hl 0 rfl) ?_
  refine lv_iconst (v := 3) hx hb (show decode code 224 = .ok (.iconst 3, 1) by decide +kernel) (by decide) ?_
  refine lv_iadd hx hb (show decode code 225 = .ok (.iadd, 1) by decide +kernel) ?_
  refine va_sld hx hb hX hbl hbA hT.2.2 h3 (show decode code 226 = .ok (.iaload, 1) by decide +kernel) ?_
  refine lv_aload_n hx hb (show decode code 227 = .ok (.aload_n 0, 1) by decide +kernel) rfl (lv_at hl 4 rfl) ?_
  refine lv_iload hx hb (show decode code 228 = .ok (.iload 4, 2) by decide +kernel) (lv_at hl 0 rfl) ?_
  refine lv_iconst (v := 4) hx hb (show decode code 230 = .ok (.iconst 4, 1) by decide +kernel) (by decide) ?_
  refine lv_iadd hx hb (show decode code 231 = .ok (.iadd, 1) by decide +kernel) ?_
  refine va_sld hx hb hX hbl hbA hT.2.2 h4 (show decode code 232 = .ok (.iaload, 1) by decide +kernel) ?_
  refine lv_aload_n hx hb (show decode code 233 = .ok (.aload_n 0, 1) by decide +kernel) rfl (lv_at hl 4 rfl) ?_
  refine lv_iload hx hb (show decode code 234 = .ok (.iload 4, 2) by decide +kernel) (lv_at hl 0 rfl) ?_
  refine lv_iconst (v := 5) hx hb (show decode code 236 = .ok (.iconst 5, 1) by decide +kernel) (by decide) ?_
  refine lv_iadd hx hb (show decode code 237 = .ok (.iadd, 1) by decide +kernel) ?_
  refine va_sld hx hb hX hbl hbA hT.2.2 h5 (show decode code 238 = .ok (.iaload, 1) by decide +kernel) ?_
  refine lw_call l C (o := (11, 0)) (is := [(xs (nI i + 1).toNatClampNeg), (xs (nI i + 2).toNatClampNeg), (xs (nI i + 3).toNatClampNeg), (xs (nI i + 4).toNatClampNeg), (xs (nI i + 5).toNatClampNeg)]) (rest := []) e1 (by decide) (nc_at_in (p := (3, 129)) rfl rfl) rfl rfl rfl rfl (show decode code 239 = .ok (.invokevirtual 22, 3) by decide +kernel) hl.1 rfl (Nat.le_of_ble_eq_true rfl) hcs hT (fun H locs hT => ?_)
  refine lv_aload_n hx hb (show decode code 242 = .ok (.aload_n 2, 1) by decide +kernel) rfl (lv_at hl 2 rfl) ?_
  refine lv_aload_n hx hb (show decode code 243 = .ok (.aload_n 0, 1) by decide +kernel) rfl (lv_at hl 4 rfl) ?_
  refine lv_iload hx hb (show decode code 244 = .ok (.iload 4, 2) by decide +kernel) (lv_at hl 0 rfl) ?_
  refine lv_iconst (v := 1) hx hb (show decode code 246 = .ok (.iconst 1, 1) by decide +kernel) (by decide) ?_
  refine lv_iadd hx hb (show decode code 247 = .ok (.iadd, 1) by decide +kernel) ?_
  refine va_sld hx hb hX hbl hbA hT.2.2 h1 (show decode code 248 = .ok (.iaload, 1) by decide +kernel) ?_
  refine lv_aload_n hx hb (show decode code 249 = .ok (.aload_n 0, 1) by decide +kernel) rfl (lv_at hl 4 rfl) ?_
  refine lv_iload hx hb (show decode code 250 = .ok (.iload 4, 2) by decide +kernel) (lv_at hl 0 rfl) ?_
  refine lv_iconst (v := 2) hx hb (show decode code 252 = .ok (.iconst 2, 1) by decide +kernel) (by decide) ?_
  refine lv_iadd hx hb (show decode code 253 = .ok (.iadd, 1) by decide +kernel) ?_
  refine va_sld hx hb hX hbl hbA hT.2.2 h2 (show decode code 254 = .ok (.iaload, 1) by decide +kernel) ?_
  refine lv_aload_n hx hb (show decode code 255 = .ok (.aload_n 0, 1) by decide +kernel) rfl (lv_at hl 4 rfl) ?_
  refine lv_iload hx hb (show decode code 256 = .ok (.iload 4, 2) by decide +kernel) (lv_at hl 0 rfl) ?_
  refine lv_iconst (v := 3) hx hb (show decode code 258 = .ok (.iconst 3, 1) by decide +kernel) (by decide) ?_
  refine lv_iadd hx hb (show decode code 259 = .ok (.iadd, 1) by decide +kernel) ?_
  refine va_sld hx hb hX hbl hbA hT.2.2 h3 (show decode code 260 = .ok (.iaload, 1) by decide +kernel) ?_
  refine lv_aload_n hx hb (show decode code 261 = .ok (.aload_n 0, 1) by decide +kernel) rfl (lv_at hl 4 rfl) ?_
  refine lv_iload hx hb (show decode code 262 = .ok (.iload 4, 2) by decide +kernel) (lv_at hl 0 rfl) ?_
  refine lv_iconst (v := 4) hx hb (show decode code 264 = .ok (.iconst 4, 1) by decide +kernel) (by decide) ?_
  refine lv_iadd hx hb (show decode code 265 = .ok (.iadd, 1) by decide +kernel) ?_
  refine va_sld hx hb hX hbl hbA hT.2.2 h4 (show decode code 266 = .ok (.iaload, 1) by decide +kernel) ?_
  refine lv_aload_n hx hb (show decode code 267 = .ok (.aload_n 0, 1) by decide +kernel) rfl (lv_at hl 4 rfl) ?_
  refine lv_iload hx hb (show decode code 268 = .ok (.iload 4, 2) by decide +kernel) (lv_at hl 0 rfl) ?_
  refine lv_iconst (v := 5) hx hb (show decode code 270 = .ok (.iconst 5, 1) by decide +kernel) (by decide) ?_
  refine lv_iadd hx hb (show decode code 271 = .ok (.iadd, 1) by decide +kernel) ?_
  refine va_sld hx hb hX hbl hbA hT.2.2 h5 (show decode code 272 = .ok (.iaload, 1) by decide +kernel) ?_
  refine lw_call l C (o := (12, 0)) (is := [(xs (nI i + 1).toNatClampNeg), (xs (nI i + 2).toNatClampNeg), (xs (nI i + 3).toNatClampNeg), (xs (nI i + 4).toNatClampNeg), (xs (nI i + 5).toNatClampNeg)]) (rest := [.int r]) e2 (by decide) (nc_at_in (p := (6, 198)) rfl rfl) rfl rfl rfl rfl (show decode code 273 = .ok (.invokevirtual 26, 3) by decide +kernel) hl.1 rfl (Nat.le_of_ble_eq_true rfl) hcs hT (fun H locs hT => ?_)
  refine lv_icmp_eq (tgt := 1316) hx hb (show decode code 276 = .ok (.if_icmp .eq 1040, 3) by decide +kernel) (by decide) (fun _ => kk _ _ _ hI2 hT) (fun q9 => absurd rfl q9)
set_option maxRecDepth 100000 in
set_option maxHeartbeats 4000000 in
theorem lw_k1 (l : Launch) {p : Program} {e : Env} {s : State} {m : MethodId} {below : List Frame} {meth : Method} {c : Code} {b L : Nat} {xs : Nat → Int32} {D : va_G} {cA : Nat → ClassId} {ad : Nat → Nat → Nat} (hL : L ≤ 3072) (C : lw_C p s m meth c b L xs D cA ad) {q3 : Nat} {g : Nat → Int64} {w : nc_H} {H : Heap} {locs : List Loc} {cells slots : Nat} {ls : Array Slot} {Q : State → Prop} {i : Nat} (hi : i + 6 ≤ L) (hI : Inv w) (hcs : cells ≤ 601024 ∧ slots ≤ 7293034) (hl : lv_has ls 7 [(4, .int (nI i)), (3, .ref q3), (2, .ref (ad 12 0)), (1, .ref (ad 11 0)), (0, .ref b)]) (hT : lw_S s D cA ad q3 g w H locs) (kk : ∀ (w2 : nc_H) (H1 : Heap) (locs1 : List Loc), Inv w2 → lw_S s D cA ad q3 g w2 H1 locs1 → W p l e room_1 s m #[Value.ref b] below meth c H1 locs1 cells slots Q (F0 m 1316 ls [])) : W p l e room_1 s m #[Value.ref b] below meth c H locs cells slots Q (F0 m 281 ls []) := by
  have C0 := C
  obtain ⟨⟨hx, hb, hr, hml, hown, hts, hX, hbl, hlocks, hgv⟩, hK, hStr⟩ := C0
  have hbA : ¬ lw_A s b := Nat.not_le.mpr hbl
  have h1 : vp_in (nI i + 1) L := lw_in (k := 1) (by omega) hL
  obtain ⟨r, w1, w2, e1, e2, hI2⟩ := op_end hI (xs (nI i + 1).toNatClampNeg)
  refine lv_aload_n hx hb (show decode code 281 = .ok (.aload_n 1, 1) by decide +kernel) rfl (lv_at hl 3 rfl) ?_
  refine lv_aload_n hx hb (show decode code 282 = .ok (.aload_n 0, 1) by decide +kernel) rfl (lv_at hl 4 rfl) ?_
  refine lv_iload hx hb (show decode code 283 = .ok (.iload 4, 2) by decide +kernel) (lv_at hl 0 rfl) ?_
  refine lv_iconst (v := 1) hx hb (show decode code 285 = .ok (.iconst 1, 1) by decide +kernel) (by decide) ?_
  refine lv_iadd hx hb (show decode code 286 = .ok (.iadd, 1) by decide +kernel) ?_
  refine va_sld hx hb hX hbl hbA hT.2.2 h1 (show decode code 287 = .ok (.iaload, 1) by decide +kernel) ?_
  refine lw_call l C (o := (11, 0)) (is := [(xs (nI i + 1).toNatClampNeg)]) (rest := []) e1 (by decide) (nc_at_in (p := (3, 137)) rfl rfl) rfl rfl rfl rfl (show decode code 288 = .ok (.invokevirtual 27, 3) by decide +kernel) hl.1 rfl (Nat.le_of_ble_eq_true rfl) hcs hT (fun H locs hT => ?_)
  refine lv_aload_n hx hb (show decode code 291 = .ok (.aload_n 2, 1) by decide +kernel) rfl (lv_at hl 2 rfl) ?_
  refine lv_aload_n hx hb (show decode code 292 = .ok (.aload_n 0, 1) by decide +kernel) rfl (lv_at hl 4 rfl) ?_
  refine lv_iload hx hb (show decode code 293 = .ok (.iload 4, 2) by decide +kernel) (lv_at hl 0 rfl) ?_
  refine lv_iconst (v := 1) hx hb (show decode code 295 = .ok (.iconst 1, 1) by decide +kernel) (by decide) ?_
  refine lv_iadd hx hb (show decode code 296 = .ok (.iadd, 1) by decide +kernel) ?_
  refine va_sld hx hb hX hbl hbA hT.2.2 h1 (show decode code 297 = .ok (.iaload, 1) by decide +kernel) ?_
  refine lw_call l C (o := (12, 0)) (is := [(xs (nI i + 1).toNatClampNeg)]) (rest := [.int r]) e2 (by decide) (nc_at_in (p := (6, 207)) rfl rfl) rfl rfl rfl rfl (show decode code 298 = .ok (.invokevirtual 31, 3) by decide +kernel) hl.1 rfl (Nat.le_of_ble_eq_true rfl) hcs hT (fun H locs hT => ?_)
  refine lv_icmp_eq (tgt := 1316) hx hb (show decode code 301 = .ok (.if_icmp .eq 1015, 3) by decide +kernel) (by decide) (fun _ => kk _ _ _ hI2 hT) (fun q9 => absurd rfl q9)
set_option maxRecDepth 100000 in
set_option maxHeartbeats 4000000 in
theorem lw_k2 (l : Launch) {p : Program} {e : Env} {s : State} {m : MethodId} {below : List Frame} {meth : Method} {c : Code} {b L : Nat} {xs : Nat → Int32} {D : va_G} {cA : Nat → ClassId} {ad : Nat → Nat → Nat} (hL : L ≤ 3072) (C : lw_C p s m meth c b L xs D cA ad) {q3 : Nat} {g : Nat → Int64} {w : nc_H} {H : Heap} {locs : List Loc} {cells slots : Nat} {ls : Array Slot} {Q : State → Prop} {i : Nat} (hi : i + 6 ≤ L) (hI : Inv w) (hcs : cells ≤ 601024 ∧ slots ≤ 7293034) (hl : lv_has ls 7 [(4, .int (nI i)), (3, .ref q3), (2, .ref (ad 12 0)), (1, .ref (ad 11 0)), (0, .ref b)]) (hT : lw_S s D cA ad q3 g w H locs) (kk : ∀ (w2 : nc_H) (H1 : Heap) (locs1 : List Loc), Inv w2 → lw_S s D cA ad q3 g w2 H1 locs1 → W p l e room_1 s m #[Value.ref b] below meth c H1 locs1 cells slots Q (F0 m 1316 ls [])) : W p l e room_1 s m #[Value.ref b] below meth c H locs cells slots Q (F0 m 306 ls []) := by
  have C0 := C
  obtain ⟨⟨hx, hb, hr, hml, hown, hts, hX, hbl, hlocks, hgv⟩, hK, hStr⟩ := C0
  have hbA : ¬ lw_A s b := Nat.not_le.mpr hbl
  obtain ⟨r, w1, w2, e1, e2, hI2⟩ := op_dairy hI 
  refine lv_aload_n hx hb (show decode code 306 = .ok (.aload_n 1, 1) by decide +kernel) rfl (lv_at hl 3 rfl) ?_
  refine lw_call l C (o := (11, 0)) (is := []) (rest := []) e1 (by decide) (nc_at_in (p := (3, 141)) rfl rfl) rfl rfl rfl rfl (show decode code 307 = .ok (.invokevirtual 32, 3) by decide +kernel) hl.1 rfl (Nat.le_of_ble_eq_true rfl) hcs hT (fun H locs hT => ?_)
  refine lv_aload_n hx hb (show decode code 310 = .ok (.aload_n 2, 1) by decide +kernel) rfl (lv_at hl 2 rfl) ?_
  refine lw_call l C (o := (12, 0)) (is := []) (rest := [.int r]) e2 (by decide) (nc_at_in (p := (7, 149)) rfl rfl) rfl rfl rfl rfl (show decode code 311 = .ok (.invokevirtual 36, 3) by decide +kernel) hl.1 rfl (Nat.le_of_ble_eq_true rfl) hcs hT (fun H locs hT => ?_)
  refine lv_icmp_eq (tgt := 1316) hx hb (show decode code 314 = .ok (.if_icmp .eq 1002, 3) by decide +kernel) (by decide) (fun _ => kk _ _ _ hI2 hT) (fun q9 => absurd rfl q9)
set_option maxRecDepth 100000 in
set_option maxHeartbeats 4000000 in
theorem lw_k3 (l : Launch) {p : Program} {e : Env} {s : State} {m : MethodId} {below : List Frame} {meth : Method} {c : Code} {b L : Nat} {xs : Nat → Int32} {D : va_G} {cA : Nat → ClassId} {ad : Nat → Nat → Nat} (hL : L ≤ 3072) (C : lw_C p s m meth c b L xs D cA ad) {q3 : Nat} {g : Nat → Int64} {w : nc_H} {H : Heap} {locs : List Loc} {cells slots : Nat} {ls : Array Slot} {Q : State → Prop} {i : Nat} (hi : i + 6 ≤ L) (hI : Inv w) (hcs : cells ≤ 601024 ∧ slots ≤ 7293034) (hl : lv_has ls 7 [(4, .int (nI i)), (3, .ref q3), (2, .ref (ad 12 0)), (1, .ref (ad 11 0)), (0, .ref b)]) (hT : lw_S s D cA ad q3 g w H locs) (kk : ∀ (w2 : nc_H) (H1 : Heap) (locs1 : List Loc), Inv w2 → lw_S s D cA ad q3 g w2 H1 locs1 → W p l e room_1 s m #[Value.ref b] below meth c H1 locs1 cells slots Q (F0 m 1316 ls [])) : W p l e room_1 s m #[Value.ref b] below meth c H locs cells slots Q (F0 m 319 ls []) := by
  have C0 := C
  obtain ⟨⟨hx, hb, hr, hml, hown, hts, hX, hbl, hlocks, hgv⟩, hK, hStr⟩ := C0
  have hbA : ¬ lw_A s b := Nat.not_le.mpr hbl
  obtain ⟨r, w1, w2, e1, e2, hI2⟩ := op_fault hI 
  refine lv_aload_n hx hb (show decode code 319 = .ok (.aload_n 1, 1) by decide +kernel) rfl (lv_at hl 3 rfl) ?_
  refine lw_call l C (o := (11, 0)) (is := []) (rest := []) e1 (by decide) (nc_at_in (p := (4, 108)) rfl rfl) rfl rfl rfl rfl (show decode code 320 = .ok (.invokevirtual 37, 3) by decide +kernel) hl.1 rfl (Nat.le_of_ble_eq_true rfl) hcs hT (fun H locs hT => ?_)
  refine lv_aload_n hx hb (show decode code 323 = .ok (.aload_n 2, 1) by decide +kernel) rfl (lv_at hl 2 rfl) ?_
  refine lw_call l C (o := (12, 0)) (is := []) (rest := [.int r]) e2 (by decide) (nc_at_in (p := (7, 234)) rfl rfl) rfl rfl rfl rfl (show decode code 324 = .ok (.invokevirtual 40, 3) by decide +kernel) hl.1 rfl (Nat.le_of_ble_eq_true rfl) hcs hT (fun H locs hT => ?_)
  refine lv_icmp_eq (tgt := 1316) hx hb (show decode code 327 = .ok (.if_icmp .eq 989, 3) by decide +kernel) (by decide) (fun _ => kk _ _ _ hI2 hT) (fun q9 => absurd rfl q9)
set_option maxRecDepth 100000 in
set_option maxHeartbeats 4000000 in
theorem lw_k5 (l : Launch) {p : Program} {e : Env} {s : State} {m : MethodId} {below : List Frame} {meth : Method} {c : Code} {b L : Nat} {xs : Nat → Int32} {D : va_G} {cA : Nat → ClassId} {ad : Nat → Nat → Nat} (hL : L ≤ 3072) (C : lw_C p s m meth c b L xs D cA ad) {q3 : Nat} {g : Nat → Int64} {w : nc_H} {H : Heap} {locs : List Loc} {cells slots : Nat} {ls : Array Slot} {Q : State → Prop} {i : Nat} (hi : i + 6 ≤ L) (hI : Inv w) (hcs : cells ≤ 601024 ∧ slots ≤ 7293034) (hl : lv_has ls 7 [(4, .int (nI i)), (3, .ref q3), (2, .ref (ad 12 0)), (1, .ref (ad 11 0)), (0, .ref b)]) (hT : lw_S s D cA ad q3 g w H locs) (kk : ∀ (w2 : nc_H) (H1 : Heap) (locs1 : List Loc), Inv w2 → lw_S s D cA ad q3 g w2 H1 locs1 → W p l e room_1 s m #[Value.ref b] below meth c H1 locs1 cells slots Q (F0 m 1316 ls [])) : W p l e room_1 s m #[Value.ref b] below meth c H locs cells slots Q (F0 m 400 ls []) := by
  have C0 := C
  obtain ⟨⟨hx, hb, hr, hml, hown, hts, hX, hbl, hlocks, hgv⟩, hK, hStr⟩ := C0
  have hbA : ¬ lw_A s b := Nat.not_le.mpr hbl
  have h1 : vp_in (nI i + 1) L := lw_in (k := 1) (by omega) hL
  have h2 : vp_in (nI i + 2) L := lw_in (k := 2) (by omega) hL
  obtain ⟨r, w1, w2, e1, e2, hI2⟩ := op_news hI (xs (nI i + 1).toNatClampNeg) (xs (nI i + 2).toNatClampNeg)
  refine lv_aload_n hx hb (show decode code 400 = .ok (.aload_n 1, 1) by decide +kernel) rfl (lv_at hl 3 rfl) ?_
  refine lv_aload_n hx hb (show decode code 401 = .ok (.aload_n 0, 1) by decide +kernel) rfl (lv_at hl 4 rfl) ?_
  refine lv_iload hx hb (show decode code 402 = .ok (.iload 4, 2) by decide +kernel) (lv_at hl 0 rfl) ?_
  refine lv_iconst (v := 1) hx hb (show decode code 404 = .ok (.iconst 1, 1) by decide +kernel) (by decide) ?_
  refine lv_iadd hx hb (show decode code 405 = .ok (.iadd, 1) by decide +kernel) ?_
  refine va_sld hx hb hX hbl hbA hT.2.2 h1 (show decode code 406 = .ok (.iaload, 1) by decide +kernel) ?_
  refine lv_aload_n hx hb (show decode code 407 = .ok (.aload_n 0, 1) by decide +kernel) rfl (lv_at hl 4 rfl) ?_
  refine lv_iload hx hb (show decode code 408 = .ok (.iload 4, 2) by decide +kernel) (lv_at hl 0 rfl) ?_
  refine lv_iconst (v := 2) hx hb (show decode code 410 = .ok (.iconst 2, 1) by decide +kernel) (by decide) ?_
  refine lv_iadd hx hb (show decode code 411 = .ok (.iadd, 1) by decide +kernel) ?_
  refine va_sld hx hb hX hbl hbA hT.2.2 h2 (show decode code 412 = .ok (.iaload, 1) by decide +kernel) ?_
  refine lw_call l C (o := (11, 0)) (is := [(xs (nI i + 1).toNatClampNeg), (xs (nI i + 2).toNatClampNeg)]) (rest := []) e1 (by decide) (nc_at_in (p := (4, 112)) rfl rfl) rfl rfl rfl rfl (show decode code 413 = .ok (.invokevirtual 50, 3) by decide +kernel) hl.1 rfl (Nat.le_of_ble_eq_true rfl) hcs hT (fun H locs hT => ?_)
  refine lv_aload_n hx hb (show decode code 416 = .ok (.aload_n 2, 1) by decide +kernel) rfl (lv_at hl 2 rfl) ?_
  refine lv_aload_n hx hb (show decode code 417 = .ok (.aload_n 0, 1) by decide +kernel) rfl (lv_at hl 4 rfl) ?_
  refine lv_iload hx hb (show decode code 418 = .ok (.iload 4, 2) by decide +kernel) (lv_at hl 0 rfl) ?_
  refine lv_iconst (v := 1) hx hb (show decode code 420 = .ok (.iconst 1, 1) by decide +kernel) (by decide) ?_
  refine lv_iadd hx hb (show decode code 421 = .ok (.iadd, 1) by decide +kernel) ?_
  refine va_sld hx hb hX hbl hbA hT.2.2 h1 (show decode code 422 = .ok (.iaload, 1) by decide +kernel) ?_
  refine lv_aload_n hx hb (show decode code 423 = .ok (.aload_n 0, 1) by decide +kernel) rfl (lv_at hl 4 rfl) ?_
  refine lv_iload hx hb (show decode code 424 = .ok (.iload 4, 2) by decide +kernel) (lv_at hl 0 rfl) ?_
  refine lv_iconst (v := 2) hx hb (show decode code 426 = .ok (.iconst 2, 1) by decide +kernel) (by decide) ?_
  refine lv_iadd hx hb (show decode code 427 = .ok (.iadd, 1) by decide +kernel) ?_
  refine va_sld hx hb hX hbl hbA hT.2.2 h2 (show decode code 428 = .ok (.iaload, 1) by decide +kernel) ?_
  refine lw_call l C (o := (12, 0)) (is := [(xs (nI i + 1).toNatClampNeg), (xs (nI i + 2).toNatClampNeg)]) (rest := [.int r]) e2 (by decide) (nc_at_in (p := (8, 52)) rfl rfl) rfl rfl rfl rfl (show decode code 429 = .ok (.invokevirtual 53, 3) by decide +kernel) hl.1 rfl (Nat.le_of_ble_eq_true rfl) hcs hT (fun H locs hT => ?_)
  refine lv_icmp_eq (tgt := 1316) hx hb (show decode code 432 = .ok (.if_icmp .eq 884, 3) by decide +kernel) (by decide) (fun _ => kk _ _ _ hI2 hT) (fun q9 => absurd rfl q9)
set_option maxRecDepth 100000 in
set_option maxHeartbeats 4000000 in
theorem lw_k7 (l : Launch) {p : Program} {e : Env} {s : State} {m : MethodId} {below : List Frame} {meth : Method} {c : Code} {b L : Nat} {xs : Nat → Int32} {D : va_G} {cA : Nat → ClassId} {ad : Nat → Nat → Nat} (hL : L ≤ 3072) (C : lw_C p s m meth c b L xs D cA ad) {q3 : Nat} {g : Nat → Int64} {w : nc_H} {H : Heap} {locs : List Loc} {cells slots : Nat} {ls : Array Slot} {Q : State → Prop} {i : Nat} (hi : i + 6 ≤ L) (hI : Inv w) (hcs : cells ≤ 601024 ∧ slots ≤ 7293034) (hl : lv_has ls 7 [(4, .int (nI i)), (3, .ref q3), (2, .ref (ad 12 0)), (1, .ref (ad 11 0)), (0, .ref b)]) (hT : lw_S s D cA ad q3 g w H locs) (kk : ∀ (w2 : nc_H) (H1 : Heap) (locs1 : List Loc), Inv w2 → lw_S s D cA ad q3 g w2 H1 locs1 → W p l e room_1 s m #[Value.ref b] below meth c H1 locs1 cells slots Q (F0 m 1316 ls [])) : W p l e room_1 s m #[Value.ref b] below meth c H locs cells slots Q (F0 m 505 ls []) := by
  have C0 := C
  obtain ⟨⟨hx, hb, hr, hml, hown, hts, hX, hbl, hlocks, hgv⟩, hK, hStr⟩ := C0
  have hbA : ¬ lw_A s b := Nat.not_le.mpr hbl
  have h1 : vp_in (nI i + 1) L := lw_in (k := 1) (by omega) hL
  obtain ⟨r, w1, w2, e1, e2, hI2⟩ := op_now hI (xs (nI i + 1).toNatClampNeg)
  refine lv_aload_n hx hb (show decode code 505 = .ok (.aload_n 1, 1) by decide +kernel) rfl (lv_at hl 3 rfl) ?_
  refine lv_aload_n hx hb (show decode code 506 = .ok (.aload_n 0, 1) by decide +kernel) rfl (lv_at hl 4 rfl) ?_
  refine lv_iload hx hb (show decode code 507 = .ok (.iload 4, 2) by decide +kernel) (lv_at hl 0 rfl) ?_
  refine lv_iconst (v := 1) hx hb (show decode code 509 = .ok (.iconst 1, 1) by decide +kernel) (by decide) ?_
  refine lv_iadd hx hb (show decode code 510 = .ok (.iadd, 1) by decide +kernel) ?_
  refine va_sld hx hb hX hbl hbA hT.2.2 h1 (show decode code 511 = .ok (.iaload, 1) by decide +kernel) ?_
  refine lw_call l C (o := (11, 0)) (is := [(xs (nI i + 1).toNatClampNeg)]) (rest := []) e1 (by decide) (nc_at_in (p := (4, 128)) rfl rfl) rfl rfl rfl rfl (show decode code 512 = .ok (.invokevirtual 57, 3) by decide +kernel) hl.1 rfl (Nat.le_of_ble_eq_true rfl) hcs hT (fun H locs hT => ?_)
  refine lv_aload_n hx hb (show decode code 515 = .ok (.aload_n 2, 1) by decide +kernel) rfl (lv_at hl 2 rfl) ?_
  refine lv_aload_n hx hb (show decode code 516 = .ok (.aload_n 0, 1) by decide +kernel) rfl (lv_at hl 4 rfl) ?_
  refine lv_iload hx hb (show decode code 517 = .ok (.iload 4, 2) by decide +kernel) (lv_at hl 0 rfl) ?_
  refine lv_iconst (v := 1) hx hb (show decode code 519 = .ok (.iconst 1, 1) by decide +kernel) (by decide) ?_
  refine lv_iadd hx hb (show decode code 520 = .ok (.iadd, 1) by decide +kernel) ?_
  refine va_sld hx hb hX hbl hbA hT.2.2 h1 (show decode code 521 = .ok (.iaload, 1) by decide +kernel) ?_
  refine lw_call l C (o := (12, 0)) (is := [(xs (nI i + 1).toNatClampNeg)]) (rest := [.int r]) e2 (by decide) (nc_at_in (p := (8, 76)) rfl rfl) rfl rfl rfl rfl (show decode code 522 = .ok (.invokevirtual 61, 3) by decide +kernel) hl.1 rfl (Nat.le_of_ble_eq_true rfl) hcs hT (fun H locs hT => ?_)
  refine lv_icmp_eq (tgt := 1316) hx hb (show decode code 525 = .ok (.if_icmp .eq 791, 3) by decide +kernel) (by decide) (fun _ => kk _ _ _ hI2 hT) (fun q9 => absurd rfl q9)
set_option maxRecDepth 100000 in
set_option maxHeartbeats 4000000 in
theorem lw_k8 (l : Launch) {p : Program} {e : Env} {s : State} {m : MethodId} {below : List Frame} {meth : Method} {c : Code} {b L : Nat} {xs : Nat → Int32} {D : va_G} {cA : Nat → ClassId} {ad : Nat → Nat → Nat} (hL : L ≤ 3072) (C : lw_C p s m meth c b L xs D cA ad) {q3 : Nat} {g : Nat → Int64} {w : nc_H} {H : Heap} {locs : List Loc} {cells slots : Nat} {ls : Array Slot} {Q : State → Prop} {i : Nat} (hi : i + 6 ≤ L) (hI : Inv w) (hcs : cells ≤ 601024 ∧ slots ≤ 7293034) (hl : lv_has ls 7 [(4, .int (nI i)), (3, .ref q3), (2, .ref (ad 12 0)), (1, .ref (ad 11 0)), (0, .ref b)]) (hT : lw_S s D cA ad q3 g w H locs) (kk : ∀ (w2 : nc_H) (H1 : Heap) (locs1 : List Loc), Inv w2 → lw_S s D cA ad q3 g w2 H1 locs1 → W p l e room_1 s m #[Value.ref b] below meth c H1 locs1 cells slots Q (F0 m 1316 ls [])) : W p l e room_1 s m #[Value.ref b] below meth c H locs cells slots Q (F0 m 530 ls []) := by
  have C0 := C
  obtain ⟨⟨hx, hb, hr, hml, hown, hts, hX, hbl, hlocks, hgv⟩, hK, hStr⟩ := C0
  have hbA : ¬ lw_A s b := Nat.not_le.mpr hbl
  have h1 : vp_in (nI i + 1) L := lw_in (k := 1) (by omega) hL
  have h2 : vp_in (nI i + 2) L := lw_in (k := 2) (by omega) hL
  obtain ⟨r, w1, w2, e1, e2, hI2⟩ := op_tell hI (xs (nI i + 1).toNatClampNeg) (xs (nI i + 2).toNatClampNeg)
  refine lv_aload_n hx hb (show decode code 530 = .ok (.aload_n 1, 1) by decide +kernel) rfl (lv_at hl 3 rfl) ?_
  refine lv_aload_n hx hb (show decode code 531 = .ok (.aload_n 0, 1) by decide +kernel) rfl (lv_at hl 4 rfl) ?_
  refine lv_iload hx hb (show decode code 532 = .ok (.iload 4, 2) by decide +kernel) (lv_at hl 0 rfl) ?_
  refine lv_iconst (v := 1) hx hb (show decode code 534 = .ok (.iconst 1, 1) by decide +kernel) (by decide) ?_
  refine lv_iadd hx hb (show decode code 535 = .ok (.iadd, 1) by decide +kernel) ?_
  refine va_sld hx hb hX hbl hbA hT.2.2 h1 (show decode code 536 = .ok (.iaload, 1) by decide +kernel) ?_
  refine lv_aload_n hx hb (show decode code 537 = .ok (.aload_n 0, 1) by decide +kernel) rfl (lv_at hl 4 rfl) ?_
  refine lv_iload hx hb (show decode code 538 = .ok (.iload 4, 2) by decide +kernel) (lv_at hl 0 rfl) ?_
  refine lv_iconst (v := 2) hx hb (show decode code 540 = .ok (.iconst 2, 1) by decide +kernel) (by decide) ?_
  refine lv_iadd hx hb (show decode code 541 = .ok (.iadd, 1) by decide +kernel) ?_
  refine va_sld hx hb hX hbl hbA hT.2.2 h2 (show decode code 542 = .ok (.iaload, 1) by decide +kernel) ?_
  refine lw_call l C (o := (11, 0)) (is := [(xs (nI i + 1).toNatClampNeg), (xs (nI i + 2).toNatClampNeg)]) (rest := []) e1 (by decide) (nc_at_in (p := (4, 140)) rfl rfl) rfl rfl rfl rfl (show decode code 543 = .ok (.invokevirtual 62, 3) by decide +kernel) hl.1 rfl (Nat.le_of_ble_eq_true rfl) hcs hT (fun H locs hT => ?_)
  refine lv_aload_n hx hb (show decode code 546 = .ok (.aload_n 2, 1) by decide +kernel) rfl (lv_at hl 2 rfl) ?_
  refine lv_aload_n hx hb (show decode code 547 = .ok (.aload_n 0, 1) by decide +kernel) rfl (lv_at hl 4 rfl) ?_
  refine lv_iload hx hb (show decode code 548 = .ok (.iload 4, 2) by decide +kernel) (lv_at hl 0 rfl) ?_
  refine lv_iconst (v := 1) hx hb (show decode code 550 = .ok (.iconst 1, 1) by decide +kernel) (by decide) ?_
  refine lv_iadd hx hb (show decode code 551 = .ok (.iadd, 1) by decide +kernel) ?_
  refine va_sld hx hb hX hbl hbA hT.2.2 h1 (show decode code 552 = .ok (.iaload, 1) by decide +kernel) ?_
  refine lv_aload_n hx hb (show decode code 553 = .ok (.aload_n 0, 1) by decide +kernel) rfl (lv_at hl 4 rfl) ?_
  refine lv_iload hx hb (show decode code 554 = .ok (.iload 4, 2) by decide +kernel) (lv_at hl 0 rfl) ?_
  refine lv_iconst (v := 2) hx hb (show decode code 556 = .ok (.iconst 2, 1) by decide +kernel) (by decide) ?_
  refine lv_iadd hx hb (show decode code 557 = .ok (.iadd, 1) by decide +kernel) ?_
  refine va_sld hx hb hX hbl hbA hT.2.2 h2 (show decode code 558 = .ok (.iaload, 1) by decide +kernel) ?_
  refine lw_call l C (o := (12, 0)) (is := [(xs (nI i + 1).toNatClampNeg), (xs (nI i + 2).toNatClampNeg)]) (rest := [.int r]) e2 (by decide) (nc_at_in (p := (8, 88)) rfl rfl) rfl rfl rfl rfl (show decode code 559 = .ok (.invokevirtual 65, 3) by decide +kernel) hl.1 rfl (Nat.le_of_ble_eq_true rfl) hcs hT (fun H locs hT => ?_)
  refine lv_icmp_eq (tgt := 1316) hx hb (show decode code 562 = .ok (.if_icmp .eq 754, 3) by decide +kernel) (by decide) (fun _ => kk _ _ _ hI2 hT) (fun q9 => absurd rfl q9)
set_option maxRecDepth 100000 in
set_option maxHeartbeats 4000000 in
theorem lw_k9 (l : Launch) {p : Program} {e : Env} {s : State} {m : MethodId} {below : List Frame} {meth : Method} {c : Code} {b L : Nat} {xs : Nat → Int32} {D : va_G} {cA : Nat → ClassId} {ad : Nat → Nat → Nat} (hL : L ≤ 3072) (C : lw_C p s m meth c b L xs D cA ad) {q3 : Nat} {g : Nat → Int64} {w : nc_H} {H : Heap} {locs : List Loc} {cells slots : Nat} {ls : Array Slot} {Q : State → Prop} {i : Nat} (hi : i + 6 ≤ L) (hI : Inv w) (hcs : cells ≤ 601024 ∧ slots ≤ 7293034) (hl : lv_has ls 7 [(4, .int (nI i)), (3, .ref q3), (2, .ref (ad 12 0)), (1, .ref (ad 11 0)), (0, .ref b)]) (hT : lw_S s D cA ad q3 g w H locs) (kk : ∀ (w2 : nc_H) (H1 : Heap) (locs1 : List Loc), Inv w2 → lw_S s D cA ad q3 g w2 H1 locs1 → W p l e room_1 s m #[Value.ref b] below meth c H1 locs1 cells slots Q (F0 m 1316 ls [])) : W p l e room_1 s m #[Value.ref b] below meth c H locs cells slots Q (F0 m 567 ls []) := by
  have C0 := C
  obtain ⟨⟨hx, hb, hr, hml, hown, hts, hX, hbl, hlocks, hgv⟩, hK, hStr⟩ := C0
  have hbA : ¬ lw_A s b := Nat.not_le.mpr hbl
  have h1 : vp_in (nI i + 1) L := lw_in (k := 1) (by omega) hL
  obtain ⟨r, w1, w2, e1, e2, hI2⟩ := op_find hI (xs (nI i + 1).toNatClampNeg)
  refine lv_aload_n hx hb (show decode code 567 = .ok (.aload_n 1, 1) by decide +kernel) rfl (lv_at hl 3 rfl) ?_
  refine lv_aload_n hx hb (show decode code 568 = .ok (.aload_n 0, 1) by decide +kernel) rfl (lv_at hl 4 rfl) ?_
  refine lv_iload hx hb (show decode code 569 = .ok (.iload 4, 2) by decide +kernel) (lv_at hl 0 rfl) ?_
  refine lv_iconst (v := 1) hx hb (show decode code 571 = .ok (.iconst 1, 1) by decide +kernel) (by decide) ?_
  refine lv_iadd hx hb (show decode code 572 = .ok (.iadd, 1) by decide +kernel) ?_
  refine va_sld hx hb hX hbl hbA hT.2.2 h1 (show decode code 573 = .ok (.iaload, 1) by decide +kernel) ?_
  refine lw_call l C (o := (11, 0)) (is := [(xs (nI i + 1).toNatClampNeg)]) (rest := []) e1 (by decide) (nc_at_in (p := (4, 184)) rfl rfl) rfl rfl rfl rfl (show decode code 574 = .ok (.invokevirtual 66, 3) by decide +kernel) hl.1 rfl (Nat.le_of_ble_eq_true rfl) hcs hT (fun H locs hT => ?_)
  refine lv_aload_n hx hb (show decode code 577 = .ok (.aload_n 2, 1) by decide +kernel) rfl (lv_at hl 2 rfl) ?_
  refine lv_aload_n hx hb (show decode code 578 = .ok (.aload_n 0, 1) by decide +kernel) rfl (lv_at hl 4 rfl) ?_
  refine lv_iload hx hb (show decode code 579 = .ok (.iload 4, 2) by decide +kernel) (lv_at hl 0 rfl) ?_
  refine lv_iconst (v := 1) hx hb (show decode code 581 = .ok (.iconst 1, 1) by decide +kernel) (by decide) ?_
  refine lv_iadd hx hb (show decode code 582 = .ok (.iadd, 1) by decide +kernel) ?_
  refine va_sld hx hb hX hbl hbA hT.2.2 h1 (show decode code 583 = .ok (.iaload, 1) by decide +kernel) ?_
  refine lw_call l C (o := (12, 0)) (is := [(xs (nI i + 1).toNatClampNeg)]) (rest := [.int r]) e2 (by decide) (nc_at_in (p := (8, 107)) rfl rfl) rfl rfl rfl rfl (show decode code 584 = .ok (.invokevirtual 69, 3) by decide +kernel) hl.1 rfl (Nat.le_of_ble_eq_true rfl) hcs hT (fun H locs hT => ?_)
  refine lv_icmp_eq (tgt := 1316) hx hb (show decode code 587 = .ok (.if_icmp .eq 729, 3) by decide +kernel) (by decide) (fun _ => kk _ _ _ hI2 hT) (fun q9 => absurd rfl q9)
set_option maxRecDepth 100000 in
set_option maxHeartbeats 4000000 in
theorem lw_k10 (l : Launch) {p : Program} {e : Env} {s : State} {m : MethodId} {below : List Frame} {meth : Method} {c : Code} {b L : Nat} {xs : Nat → Int32} {D : va_G} {cA : Nat → ClassId} {ad : Nat → Nat → Nat} (hL : L ≤ 3072) (C : lw_C p s m meth c b L xs D cA ad) {q3 : Nat} {g : Nat → Int64} {w : nc_H} {H : Heap} {locs : List Loc} {cells slots : Nat} {ls : Array Slot} {Q : State → Prop} {i : Nat} (hi : i + 6 ≤ L) (hI : Inv w) (hcs : cells ≤ 601024 ∧ slots ≤ 7293034) (hl : lv_has ls 7 [(4, .int (nI i)), (3, .ref q3), (2, .ref (ad 12 0)), (1, .ref (ad 11 0)), (0, .ref b)]) (hT : lw_S s D cA ad q3 g w H locs) (kk : ∀ (w2 : nc_H) (H1 : Heap) (locs1 : List Loc), Inv w2 → lw_S s D cA ad q3 g w2 H1 locs1 → W p l e room_1 s m #[Value.ref b] below meth c H1 locs1 cells slots Q (F0 m 1316 ls [])) : W p l e room_1 s m #[Value.ref b] below meth c H locs cells slots Q (F0 m 592 ls []) := by
  have C0 := C
  obtain ⟨⟨hx, hb, hr, hml, hown, hts, hX, hbl, hlocks, hgv⟩, hK, hStr⟩ := C0
  have hbA : ¬ lw_A s b := Nat.not_le.mpr hbl
  have h1 : vp_in (nI i + 1) L := lw_in (k := 1) (by omega) hL
  obtain ⟨r, w1, w2, e1, e2, hI2⟩ := op_days hI (xs (nI i + 1).toNatClampNeg)
  refine lv_aload_n hx hb (show decode code 592 = .ok (.aload_n 1, 1) by decide +kernel) rfl (lv_at hl 3 rfl) ?_
  refine lv_aload_n hx hb (show decode code 593 = .ok (.aload_n 0, 1) by decide +kernel) rfl (lv_at hl 4 rfl) ?_
  refine lv_iload hx hb (show decode code 594 = .ok (.iload 4, 2) by decide +kernel) (lv_at hl 0 rfl) ?_
  refine lv_iconst (v := 1) hx hb (show decode code 596 = .ok (.iconst 1, 1) by decide +kernel) (by decide) ?_
  refine lv_iadd hx hb (show decode code 597 = .ok (.iadd, 1) by decide +kernel) ?_
  refine va_sld hx hb hX hbl hbA hT.2.2 h1 (show decode code 598 = .ok (.iaload, 1) by decide +kernel) ?_
  refine lw_call l C (o := (11, 0)) (is := [(xs (nI i + 1).toNatClampNeg)]) (rest := []) e1 (by decide) (nc_at_in (p := (4, 205)) rfl rfl) rfl rfl rfl rfl (show decode code 599 = .ok (.invokevirtual 70, 3) by decide +kernel) hl.1 rfl (Nat.le_of_ble_eq_true rfl) hcs hT (fun H locs hT => ?_)
  refine lv_aload_n hx hb (show decode code 602 = .ok (.aload_n 2, 1) by decide +kernel) rfl (lv_at hl 2 rfl) ?_
  refine lv_aload_n hx hb (show decode code 603 = .ok (.aload_n 0, 1) by decide +kernel) rfl (lv_at hl 4 rfl) ?_
  refine lv_iload hx hb (show decode code 604 = .ok (.iload 4, 2) by decide +kernel) (lv_at hl 0 rfl) ?_
  refine lv_iconst (v := 1) hx hb (show decode code 606 = .ok (.iconst 1, 1) by decide +kernel) (by decide) ?_
  refine lv_iadd hx hb (show decode code 607 = .ok (.iadd, 1) by decide +kernel) ?_
  refine va_sld hx hb hX hbl hbA hT.2.2 h1 (show decode code 608 = .ok (.iaload, 1) by decide +kernel) ?_
  refine lw_call l C (o := (12, 0)) (is := [(xs (nI i + 1).toNatClampNeg)]) (rest := [.int r]) e2 (by decide) (nc_at_in (p := (8, 123)) rfl rfl) rfl rfl rfl rfl (show decode code 609 = .ok (.invokevirtual 73, 3) by decide +kernel) hl.1 rfl (Nat.le_of_ble_eq_true rfl) hcs hT (fun H locs hT => ?_)
  refine lv_icmp_eq (tgt := 1316) hx hb (show decode code 612 = .ok (.if_icmp .eq 704, 3) by decide +kernel) (by decide) (fun _ => kk _ _ _ hI2 hT) (fun q9 => absurd rfl q9)
set_option maxRecDepth 100000 in
set_option maxHeartbeats 4000000 in
theorem lw_k11 (l : Launch) {p : Program} {e : Env} {s : State} {m : MethodId} {below : List Frame} {meth : Method} {c : Code} {b L : Nat} {xs : Nat → Int32} {D : va_G} {cA : Nat → ClassId} {ad : Nat → Nat → Nat} (hL : L ≤ 3072) (C : lw_C p s m meth c b L xs D cA ad) {q3 : Nat} {g : Nat → Int64} {w : nc_H} {H : Heap} {locs : List Loc} {cells slots : Nat} {ls : Array Slot} {Q : State → Prop} {i : Nat} (hi : i + 6 ≤ L) (hI : Inv w) (hcs : cells ≤ 601024 ∧ slots ≤ 7293034) (hl : lv_has ls 7 [(4, .int (nI i)), (3, .ref q3), (2, .ref (ad 12 0)), (1, .ref (ad 11 0)), (0, .ref b)]) (hT : lw_S s D cA ad q3 g w H locs) (kk : ∀ (w2 : nc_H) (H1 : Heap) (locs1 : List Loc), Inv w2 → lw_S s D cA ad q3 g w2 H1 locs1 → W p l e room_1 s m #[Value.ref b] below meth c H1 locs1 cells slots Q (F0 m 1316 ls [])) : W p l e room_1 s m #[Value.ref b] below meth c H locs cells slots Q (F0 m 617 ls []) := by
  have C0 := C
  obtain ⟨⟨hx, hb, hr, hml, hown, hts, hX, hbl, hlocks, hgv⟩, hK, hStr⟩ := C0
  have hbA : ¬ lw_A s b := Nat.not_le.mpr hbl
  obtain ⟨r, w1, w2, e1, e2, hI2⟩ := op_undo hI 
  refine lv_aload_n hx hb (show decode code 617 = .ok (.aload_n 1, 1) by decide +kernel) rfl (lv_at hl 3 rfl) ?_
  refine lw_call l C (o := (11, 0)) (is := []) (rest := []) e1 (by decide) (nc_at_in (p := (5, 15)) rfl rfl) rfl rfl rfl rfl (show decode code 618 = .ok (.invokevirtual 74, 3) by decide +kernel) hl.1 rfl (Nat.le_of_ble_eq_true rfl) hcs hT (fun H locs hT => ?_)
  refine lv_aload_n hx hb (show decode code 621 = .ok (.aload_n 2, 1) by decide +kernel) rfl (lv_at hl 2 rfl) ?_
  refine lw_call l C (o := (12, 0)) (is := []) (rest := [.int r]) e2 (by decide) (nc_at_in (p := (8, 139)) rfl rfl) rfl rfl rfl rfl (show decode code 622 = .ok (.invokevirtual 77, 3) by decide +kernel) hl.1 rfl (Nat.le_of_ble_eq_true rfl) hcs hT (fun H locs hT => ?_)
  refine lv_icmp_eq (tgt := 1316) hx hb (show decode code 625 = .ok (.if_icmp .eq 691, 3) by decide +kernel) (by decide) (fun _ => kk _ _ _ hI2 hT) (fun q9 => absurd rfl q9)
set_option maxRecDepth 100000 in
set_option maxHeartbeats 4000000 in
theorem lw_k12 (l : Launch) {p : Program} {e : Env} {s : State} {m : MethodId} {below : List Frame} {meth : Method} {c : Code} {b L : Nat} {xs : Nat → Int32} {D : va_G} {cA : Nat → ClassId} {ad : Nat → Nat → Nat} (hL : L ≤ 3072) (C : lw_C p s m meth c b L xs D cA ad) {q3 : Nat} {g : Nat → Int64} {w : nc_H} {H : Heap} {locs : List Loc} {cells slots : Nat} {ls : Array Slot} {Q : State → Prop} {i : Nat} (hi : i + 6 ≤ L) (hI : Inv w) (hcs : cells ≤ 601024 ∧ slots ≤ 7293034) (hl : lv_has ls 7 [(4, .int (nI i)), (3, .ref q3), (2, .ref (ad 12 0)), (1, .ref (ad 11 0)), (0, .ref b)]) (hT : lw_S s D cA ad q3 g w H locs) (kk : ∀ (w2 : nc_H) (H1 : Heap) (locs1 : List Loc), Inv w2 → lw_S s D cA ad q3 g w2 H1 locs1 → W p l e room_1 s m #[Value.ref b] below meth c H1 locs1 cells slots Q (F0 m 1316 ls [])) : W p l e room_1 s m #[Value.ref b] below meth c H locs cells slots Q (F0 m 630 ls []) := by
  have C0 := C
  obtain ⟨⟨hx, hb, hr, hml, hown, hts, hX, hbl, hlocks, hgv⟩, hK, hStr⟩ := C0
  have hbA : ¬ lw_A s b := Nat.not_le.mpr hbl
  have h1 : vp_in (nI i + 1) L := lw_in (k := 1) (by omega) hL
  have h2 : vp_in (nI i + 2) L := lw_in (k := 2) (by omega) hL
  obtain ⟨r, w1, w2, e1, e2, hI2⟩ := op_why hI (xs (nI i + 1).toNatClampNeg) (xs (nI i + 2).toNatClampNeg)
  refine lv_aload_n hx hb (show decode code 630 = .ok (.aload_n 1, 1) by decide +kernel) rfl (lv_at hl 3 rfl) ?_
  refine lv_aload_n hx hb (show decode code 631 = .ok (.aload_n 0, 1) by decide +kernel) rfl (lv_at hl 4 rfl) ?_
  refine lv_iload hx hb (show decode code 632 = .ok (.iload 4, 2) by decide +kernel) (lv_at hl 0 rfl) ?_
  refine lv_iconst (v := 1) hx hb (show decode code 634 = .ok (.iconst 1, 1) by decide +kernel) (by decide) ?_
  refine lv_iadd hx hb (show decode code 635 = .ok (.iadd, 1) by decide +kernel) ?_
  refine va_sld hx hb hX hbl hbA hT.2.2 h1 (show decode code 636 = .ok (.iaload, 1) by decide +kernel) ?_
  refine lv_aload_n hx hb (show decode code 637 = .ok (.aload_n 0, 1) by decide +kernel) rfl (lv_at hl 4 rfl) ?_
  refine lv_iload hx hb (show decode code 638 = .ok (.iload 4, 2) by decide +kernel) (lv_at hl 0 rfl) ?_
  refine lv_iconst (v := 2) hx hb (show decode code 640 = .ok (.iconst 2, 1) by decide +kernel) (by decide) ?_
  refine lv_iadd hx hb (show decode code 641 = .ok (.iadd, 1) by decide +kernel) ?_
  refine va_sld hx hb hX hbl hbA hT.2.2 h2 (show decode code 642 = .ok (.iaload, 1) by decide +kernel) ?_
  refine lw_call l C (o := (11, 0)) (is := [(xs (nI i + 1).toNatClampNeg), (xs (nI i + 2).toNatClampNeg)]) (rest := []) e1 (by decide) (nc_at_in (p := (5, 23)) rfl rfl) rfl rfl rfl rfl (show decode code 643 = .ok (.invokevirtual 78, 3) by decide +kernel) hl.1 rfl (Nat.le_of_ble_eq_true rfl) hcs hT (fun H locs hT => ?_)
  refine lv_aload_n hx hb (show decode code 646 = .ok (.aload_n 2, 1) by decide +kernel) rfl (lv_at hl 2 rfl) ?_
  refine lv_aload_n hx hb (show decode code 647 = .ok (.aload_n 0, 1) by decide +kernel) rfl (lv_at hl 4 rfl) ?_
  refine lv_iload hx hb (show decode code 648 = .ok (.iload 4, 2) by decide +kernel) (lv_at hl 0 rfl) ?_
  refine lv_iconst (v := 1) hx hb (show decode code 650 = .ok (.iconst 1, 1) by decide +kernel) (by decide) ?_
  refine lv_iadd hx hb (show decode code 651 = .ok (.iadd, 1) by decide +kernel) ?_
  refine va_sld hx hb hX hbl hbA hT.2.2 h1 (show decode code 652 = .ok (.iaload, 1) by decide +kernel) ?_
  refine lv_aload_n hx hb (show decode code 653 = .ok (.aload_n 0, 1) by decide +kernel) rfl (lv_at hl 4 rfl) ?_
  refine lv_iload hx hb (show decode code 654 = .ok (.iload 4, 2) by decide +kernel) (lv_at hl 0 rfl) ?_
  refine lv_iconst (v := 2) hx hb (show decode code 656 = .ok (.iconst 2, 1) by decide +kernel) (by decide) ?_
  refine lv_iadd hx hb (show decode code 657 = .ok (.iadd, 1) by decide +kernel) ?_
  refine va_sld hx hb hX hbl hbA hT.2.2 h2 (show decode code 658 = .ok (.iaload, 1) by decide +kernel) ?_
  refine lw_call l C (o := (12, 0)) (is := [(xs (nI i + 1).toNatClampNeg), (xs (nI i + 2).toNatClampNeg)]) (rest := [.int r]) e2 (by decide) (nc_at_in (p := (8, 143)) rfl rfl) rfl rfl rfl rfl (show decode code 659 = .ok (.invokevirtual 81, 3) by decide +kernel) hl.1 rfl (Nat.le_of_ble_eq_true rfl) hcs hT (fun H locs hT => ?_)
  refine lv_icmp_eq (tgt := 1316) hx hb (show decode code 662 = .ok (.if_icmp .eq 654, 3) by decide +kernel) (by decide) (fun _ => kk _ _ _ hI2 hT) (fun q9 => absurd rfl q9)
set_option maxRecDepth 100000 in
set_option maxHeartbeats 4000000 in
theorem lw_k13 (l : Launch) {p : Program} {e : Env} {s : State} {m : MethodId} {below : List Frame} {meth : Method} {c : Code} {b L : Nat} {xs : Nat → Int32} {D : va_G} {cA : Nat → ClassId} {ad : Nat → Nat → Nat} (hL : L ≤ 3072) (C : lw_C p s m meth c b L xs D cA ad) {q3 : Nat} {g : Nat → Int64} {w : nc_H} {H : Heap} {locs : List Loc} {cells slots : Nat} {ls : Array Slot} {Q : State → Prop} {i : Nat} (hi : i + 6 ≤ L) (hI : Inv w) (hcs : cells ≤ 601024 ∧ slots ≤ 7293034) (hl : lv_has ls 7 [(4, .int (nI i)), (3, .ref q3), (2, .ref (ad 12 0)), (1, .ref (ad 11 0)), (0, .ref b)]) (hT : lw_S s D cA ad q3 g w H locs) (kk : ∀ (w2 : nc_H) (H1 : Heap) (locs1 : List Loc), Inv w2 → lw_S s D cA ad q3 g w2 H1 locs1 → W p l e room_1 s m #[Value.ref b] below meth c H1 locs1 cells slots Q (F0 m 1316 ls [])) : W p l e room_1 s m #[Value.ref b] below meth c H locs cells slots Q (F0 m 667 ls []) := by
  have C0 := C
  obtain ⟨⟨hx, hb, hr, hml, hown, hts, hX, hbl, hlocks, hgv⟩, hK, hStr⟩ := C0
  have hbA : ¬ lw_A s b := Nat.not_le.mpr hbl
  have h1 : vp_in (nI i + 1) L := lw_in (k := 1) (by omega) hL
  obtain ⟨r, w1, w2, e1, e2, hI2⟩ := op_best hI (xs (nI i + 1).toNatClampNeg)
  refine lv_aload_n hx hb (show decode code 667 = .ok (.aload_n 1, 1) by decide +kernel) rfl (lv_at hl 3 rfl) ?_
  refine lv_aload_n hx hb (show decode code 668 = .ok (.aload_n 0, 1) by decide +kernel) rfl (lv_at hl 4 rfl) ?_
  refine lv_iload hx hb (show decode code 669 = .ok (.iload 4, 2) by decide +kernel) (lv_at hl 0 rfl) ?_
  refine lv_iconst (v := 1) hx hb (show decode code 671 = .ok (.iconst 1, 1) by decide +kernel) (by decide) ?_
  refine lv_iadd hx hb (show decode code 672 = .ok (.iadd, 1) by decide +kernel) ?_
  refine va_sld hx hb hX hbl hbA hT.2.2 h1 (show decode code 673 = .ok (.iaload, 1) by decide +kernel) ?_
  refine lw_call l C (o := (11, 0)) (is := [(xs (nI i + 1).toNatClampNeg)]) (rest := []) e1 (by decide) (nc_at_in (p := (5, 24)) rfl rfl) rfl rfl rfl rfl (show decode code 674 = .ok (.invokevirtual 82, 3) by decide +kernel) hl.1 rfl (Nat.le_of_ble_eq_true rfl) hcs hT (fun H locs hT => ?_)
  refine lv_aload_n hx hb (show decode code 677 = .ok (.aload_n 2, 1) by decide +kernel) rfl (lv_at hl 2 rfl) ?_
  refine lv_aload_n hx hb (show decode code 678 = .ok (.aload_n 0, 1) by decide +kernel) rfl (lv_at hl 4 rfl) ?_
  refine lv_iload hx hb (show decode code 679 = .ok (.iload 4, 2) by decide +kernel) (lv_at hl 0 rfl) ?_
  refine lv_iconst (v := 1) hx hb (show decode code 681 = .ok (.iconst 1, 1) by decide +kernel) (by decide) ?_
  refine lv_iadd hx hb (show decode code 682 = .ok (.iadd, 1) by decide +kernel) ?_
  refine va_sld hx hb hX hbl hbA hT.2.2 h1 (show decode code 683 = .ok (.iaload, 1) by decide +kernel) ?_
  refine lw_call l C (o := (12, 0)) (is := [(xs (nI i + 1).toNatClampNeg)]) (rest := [.int r]) e2 (by decide) (nc_at_in (p := (8, 147)) rfl rfl) rfl rfl rfl rfl (show decode code 684 = .ok (.invokevirtual 85, 3) by decide +kernel) hl.1 rfl (Nat.le_of_ble_eq_true rfl) hcs hT (fun H locs hT => ?_)
  refine lv_icmp_eq (tgt := 1316) hx hb (show decode code 687 = .ok (.if_icmp .eq 629, 3) by decide +kernel) (by decide) (fun _ => kk _ _ _ hI2 hT) (fun q9 => absurd rfl q9)
set_option maxRecDepth 100000 in
set_option maxHeartbeats 4000000 in
theorem lw_k14 (l : Launch) {p : Program} {e : Env} {s : State} {m : MethodId} {below : List Frame} {meth : Method} {c : Code} {b L : Nat} {xs : Nat → Int32} {D : va_G} {cA : Nat → ClassId} {ad : Nat → Nat → Nat} (hL : L ≤ 3072) (C : lw_C p s m meth c b L xs D cA ad) {q3 : Nat} {g : Nat → Int64} {w : nc_H} {H : Heap} {locs : List Loc} {cells slots : Nat} {ls : Array Slot} {Q : State → Prop} {i : Nat} (hi : i + 6 ≤ L) (hI : Inv w) (hcs : cells ≤ 601024 ∧ slots ≤ 7293034) (hl : lv_has ls 7 [(4, .int (nI i)), (3, .ref q3), (2, .ref (ad 12 0)), (1, .ref (ad 11 0)), (0, .ref b)]) (hT : lw_S s D cA ad q3 g w H locs) (kk : ∀ (w2 : nc_H) (H1 : Heap) (locs1 : List Loc), Inv w2 → lw_S s D cA ad q3 g w2 H1 locs1 → W p l e room_1 s m #[Value.ref b] below meth c H1 locs1 cells slots Q (F0 m 1316 ls [])) : W p l e room_1 s m #[Value.ref b] below meth c H locs cells slots Q (F0 m 692 ls []) := by
  have C0 := C
  obtain ⟨⟨hx, hb, hr, hml, hown, hts, hX, hbl, hlocks, hgv⟩, hK, hStr⟩ := C0
  have hbA : ¬ lw_A s b := Nat.not_le.mpr hbl
  have h1 : vp_in (nI i + 1) L := lw_in (k := 1) (by omega) hL
  have h2 : vp_in (nI i + 2) L := lw_in (k := 2) (by omega) hL
  obtain ⟨r, w1, w2, e1, e2, hI2⟩ := op_least hI (xs (nI i + 1).toNatClampNeg) (xs (nI i + 2).toNatClampNeg)
  refine lv_aload_n hx hb (show decode code 692 = .ok (.aload_n 1, 1) by decide +kernel) rfl (lv_at hl 3 rfl) ?_
  refine lv_aload_n hx hb (show decode code 693 = .ok (.aload_n 0, 1) by decide +kernel) rfl (lv_at hl 4 rfl) ?_
  refine lv_iload hx hb (show decode code 694 = .ok (.iload 4, 2) by decide +kernel) (lv_at hl 0 rfl) ?_
  refine lv_iconst (v := 1) hx hb (show decode code 696 = .ok (.iconst 1, 1) by decide +kernel) (by decide) ?_
  refine lv_iadd hx hb (show decode code 697 = .ok (.iadd, 1) by decide +kernel) ?_
  refine va_sld hx hb hX hbl hbA hT.2.2 h1 (show decode code 698 = .ok (.iaload, 1) by decide +kernel) ?_
  refine lv_aload_n hx hb (show decode code 699 = .ok (.aload_n 0, 1) by decide +kernel) rfl (lv_at hl 4 rfl) ?_
  refine lv_iload hx hb (show decode code 700 = .ok (.iload 4, 2) by decide +kernel) (lv_at hl 0 rfl) ?_
  refine lv_iconst (v := 2) hx hb (show decode code 702 = .ok (.iconst 2, 1) by decide +kernel) (by decide) ?_
  refine lv_iadd hx hb (show decode code 703 = .ok (.iadd, 1) by decide +kernel) ?_
  refine va_sld hx hb hX hbl hbA hT.2.2 h2 (show decode code 704 = .ok (.iaload, 1) by decide +kernel) ?_
  refine lw_call l C (o := (11, 0)) (is := [(xs (nI i + 1).toNatClampNeg), (xs (nI i + 2).toNatClampNeg)]) (rest := []) e1 (by decide) (nc_at_in (p := (5, 62)) rfl rfl) rfl rfl rfl rfl (show decode code 705 = .ok (.invokevirtual 86, 3) by decide +kernel) hl.1 rfl (Nat.le_of_ble_eq_true rfl) hcs hT (fun H locs hT => ?_)
  refine lv_aload_n hx hb (show decode code 708 = .ok (.aload_n 2, 1) by decide +kernel) rfl (lv_at hl 2 rfl) ?_
  refine lv_aload_n hx hb (show decode code 709 = .ok (.aload_n 0, 1) by decide +kernel) rfl (lv_at hl 4 rfl) ?_
  refine lv_iload hx hb (show decode code 710 = .ok (.iload 4, 2) by decide +kernel) (lv_at hl 0 rfl) ?_
  refine lv_iconst (v := 1) hx hb (show decode code 712 = .ok (.iconst 1, 1) by decide +kernel) (by decide) ?_
  refine lv_iadd hx hb (show decode code 713 = .ok (.iadd, 1) by decide +kernel) ?_
  refine va_sld hx hb hX hbl hbA hT.2.2 h1 (show decode code 714 = .ok (.iaload, 1) by decide +kernel) ?_
  refine lv_aload_n hx hb (show decode code 715 = .ok (.aload_n 0, 1) by decide +kernel) rfl (lv_at hl 4 rfl) ?_
  refine lv_iload hx hb (show decode code 716 = .ok (.iload 4, 2) by decide +kernel) (lv_at hl 0 rfl) ?_
  refine lv_iconst (v := 2) hx hb (show decode code 718 = .ok (.iconst 2, 1) by decide +kernel) (by decide) ?_
  refine lv_iadd hx hb (show decode code 719 = .ok (.iadd, 1) by decide +kernel) ?_
  refine va_sld hx hb hX hbl hbA hT.2.2 h2 (show decode code 720 = .ok (.iaload, 1) by decide +kernel) ?_
  refine lw_call l C (o := (12, 0)) (is := [(xs (nI i + 1).toNatClampNeg), (xs (nI i + 2).toNatClampNeg)]) (rest := [.int r]) e2 (by decide) (nc_at_in (p := (8, 167)) rfl rfl) rfl rfl rfl rfl (show decode code 721 = .ok (.invokevirtual 89, 3) by decide +kernel) hl.1 rfl (Nat.le_of_ble_eq_true rfl) hcs hT (fun H locs hT => ?_)
  refine lv_icmp_eq (tgt := 1316) hx hb (show decode code 724 = .ok (.if_icmp .eq 592, 3) by decide +kernel) (by decide) (fun _ => kk _ _ _ hI2 hT) (fun q9 => absurd rfl q9)
set_option maxRecDepth 100000 in
set_option maxHeartbeats 4000000 in
theorem lw_k15 (l : Launch) {p : Program} {e : Env} {s : State} {m : MethodId} {below : List Frame} {meth : Method} {c : Code} {b L : Nat} {xs : Nat → Int32} {D : va_G} {cA : Nat → ClassId} {ad : Nat → Nat → Nat} (hL : L ≤ 3072) (C : lw_C p s m meth c b L xs D cA ad) {q3 : Nat} {g : Nat → Int64} {w : nc_H} {H : Heap} {locs : List Loc} {cells slots : Nat} {ls : Array Slot} {Q : State → Prop} {i : Nat} (hi : i + 6 ≤ L) (hI : Inv w) (hcs : cells ≤ 601024 ∧ slots ≤ 7293034) (hl : lv_has ls 7 [(4, .int (nI i)), (3, .ref q3), (2, .ref (ad 12 0)), (1, .ref (ad 11 0)), (0, .ref b)]) (hT : lw_S s D cA ad q3 g w H locs) (kk : ∀ (w2 : nc_H) (H1 : Heap) (locs1 : List Loc), Inv w2 → lw_S s D cA ad q3 g w2 H1 locs1 → W p l e room_1 s m #[Value.ref b] below meth c H1 locs1 cells slots Q (F0 m 1316 ls [])) : W p l e room_1 s m #[Value.ref b] below meth c H locs cells slots Q (F0 m 729 ls []) := by
  have C0 := C
  obtain ⟨⟨hx, hb, hr, hml, hown, hts, hX, hbl, hlocks, hgv⟩, hK, hStr⟩ := C0
  have hbA : ¬ lw_A s b := Nat.not_le.mpr hbl
  obtain ⟨r, w1, w2, e1, e2, hI2⟩ := op_told hI 
  refine lv_aload_n hx hb (show decode code 729 = .ok (.aload_n 1, 1) by decide +kernel) rfl (lv_at hl 3 rfl) ?_
  refine lw_call l C (o := (11, 0)) (is := []) (rest := []) e1 (by decide) (nc_at_in (p := (5, 74)) rfl rfl) rfl rfl rfl rfl (show decode code 730 = .ok (.invokevirtual 90, 3) by decide +kernel) hl.1 rfl (Nat.le_of_ble_eq_true rfl) hcs hT (fun H locs hT => ?_)
  refine lv_aload_n hx hb (show decode code 733 = .ok (.aload_n 2, 1) by decide +kernel) rfl (lv_at hl 2 rfl) ?_
  refine lw_call l C (o := (12, 0)) (is := []) (rest := [.int r]) e2 (by decide) (nc_at_in (p := (8, 171)) rfl rfl) rfl rfl rfl rfl (show decode code 734 = .ok (.invokevirtual 93, 3) by decide +kernel) hl.1 rfl (Nat.le_of_ble_eq_true rfl) hcs hT (fun H locs hT => ?_)
  refine lv_icmp_eq (tgt := 1316) hx hb (show decode code 737 = .ok (.if_icmp .eq 579, 3) by decide +kernel) (by decide) (fun _ => kk _ _ _ hI2 hT) (fun q9 => absurd rfl q9)
set_option maxRecDepth 100000 in
set_option maxHeartbeats 4000000 in
theorem lw_k16 (l : Launch) {p : Program} {e : Env} {s : State} {m : MethodId} {below : List Frame} {meth : Method} {c : Code} {b L : Nat} {xs : Nat → Int32} {D : va_G} {cA : Nat → ClassId} {ad : Nat → Nat → Nat} (hL : L ≤ 3072) (C : lw_C p s m meth c b L xs D cA ad) {q3 : Nat} {g : Nat → Int64} {w : nc_H} {H : Heap} {locs : List Loc} {cells slots : Nat} {ls : Array Slot} {Q : State → Prop} {i : Nat} (hi : i + 6 ≤ L) (hI : Inv w) (hcs : cells ≤ 601024 ∧ slots ≤ 7293034) (hl : lv_has ls 7 [(4, .int (nI i)), (3, .ref q3), (2, .ref (ad 12 0)), (1, .ref (ad 11 0)), (0, .ref b)]) (hT : lw_S s D cA ad q3 g w H locs) (kk : ∀ (w2 : nc_H) (H1 : Heap) (locs1 : List Loc), Inv w2 → lw_S s D cA ad q3 g w2 H1 locs1 → W p l e room_1 s m #[Value.ref b] below meth c H1 locs1 cells slots Q (F0 m 1316 ls [])) : W p l e room_1 s m #[Value.ref b] below meth c H locs cells slots Q (F0 m 742 ls []) := by
  have C0 := C
  obtain ⟨⟨hx, hb, hr, hml, hown, hts, hX, hbl, hlocks, hgv⟩, hK, hStr⟩ := C0
  have hbA : ¬ lw_A s b := Nat.not_le.mpr hbl
  have h1 : vp_in (nI i + 1) L := lw_in (k := 1) (by omega) hL
  obtain ⟨r, w1, w2, e1, e2, hI2⟩ := op_honest hI (xs (nI i + 1).toNatClampNeg)
  refine lv_aload_n hx hb (show decode code 742 = .ok (.aload_n 1, 1) by decide +kernel) rfl (lv_at hl 3 rfl) ?_
  refine lv_aload_n hx hb (show decode code 743 = .ok (.aload_n 0, 1) by decide +kernel) rfl (lv_at hl 4 rfl) ?_
  refine lv_iload hx hb (show decode code 744 = .ok (.iload 4, 2) by decide +kernel) (lv_at hl 0 rfl) ?_
  refine lv_iconst (v := 1) hx hb (show decode code 746 = .ok (.iconst 1, 1) by decide +kernel) (by decide) ?_
  refine lv_iadd hx hb (show decode code 747 = .ok (.iadd, 1) by decide +kernel) ?_
  refine va_sld hx hb hX hbl hbA hT.2.2 h1 (show decode code 748 = .ok (.iaload, 1) by decide +kernel) ?_
  refine lw_call l C (o := (11, 0)) (is := [(xs (nI i + 1).toNatClampNeg)]) (rest := []) e1 (by decide) (nc_at_in (p := (5, 78)) rfl rfl) rfl rfl rfl rfl (show decode code 749 = .ok (.invokevirtual 94, 3) by decide +kernel) hl.1 rfl (Nat.le_of_ble_eq_true rfl) hcs hT (fun H locs hT => ?_)
  refine lv_aload_n hx hb (show decode code 752 = .ok (.aload_n 2, 1) by decide +kernel) rfl (lv_at hl 2 rfl) ?_
  refine lv_aload_n hx hb (show decode code 753 = .ok (.aload_n 0, 1) by decide +kernel) rfl (lv_at hl 4 rfl) ?_
  refine lv_iload hx hb (show decode code 754 = .ok (.iload 4, 2) by decide +kernel) (lv_at hl 0 rfl) ?_
  refine lv_iconst (v := 1) hx hb (show decode code 756 = .ok (.iconst 1, 1) by decide +kernel) (by decide) ?_
  refine lv_iadd hx hb (show decode code 757 = .ok (.iadd, 1) by decide +kernel) ?_
  refine va_sld hx hb hX hbl hbA hT.2.2 h1 (show decode code 758 = .ok (.iaload, 1) by decide +kernel) ?_
  refine lw_call l C (o := (12, 0)) (is := [(xs (nI i + 1).toNatClampNeg)]) (rest := [.int r]) e2 (by decide) (nc_at_in (p := (8, 175)) rfl rfl) rfl rfl rfl rfl (show decode code 759 = .ok (.invokevirtual 97, 3) by decide +kernel) hl.1 rfl (Nat.le_of_ble_eq_true rfl) hcs hT (fun H locs hT => ?_)
  refine lv_icmp_eq (tgt := 1316) hx hb (show decode code 762 = .ok (.if_icmp .eq 554, 3) by decide +kernel) (by decide) (fun _ => kk _ _ _ hI2 hT) (fun q9 => absurd rfl q9)
set_option maxRecDepth 100000 in
set_option maxHeartbeats 4000000 in
theorem lw_k17 (l : Launch) {p : Program} {e : Env} {s : State} {m : MethodId} {below : List Frame} {meth : Method} {c : Code} {b L : Nat} {xs : Nat → Int32} {D : va_G} {cA : Nat → ClassId} {ad : Nat → Nat → Nat} (hL : L ≤ 3072) (C : lw_C p s m meth c b L xs D cA ad) {q3 : Nat} {g : Nat → Int64} {w : nc_H} {H : Heap} {locs : List Loc} {cells slots : Nat} {ls : Array Slot} {Q : State → Prop} {i : Nat} (hi : i + 6 ≤ L) (hI : Inv w) (hcs : cells ≤ 601024 ∧ slots ≤ 7293034) (hl : lv_has ls 7 [(4, .int (nI i)), (3, .ref q3), (2, .ref (ad 12 0)), (1, .ref (ad 11 0)), (0, .ref b)]) (hT : lw_S s D cA ad q3 g w H locs) (kk : ∀ (w2 : nc_H) (H1 : Heap) (locs1 : List Loc), Inv w2 → lw_S s D cA ad q3 g w2 H1 locs1 → W p l e room_1 s m #[Value.ref b] below meth c H1 locs1 cells slots Q (F0 m 1316 ls [])) : W p l e room_1 s m #[Value.ref b] below meth c H locs cells slots Q (F0 m 767 ls []) := by
  have C0 := C
  obtain ⟨⟨hx, hb, hr, hml, hown, hts, hX, hbl, hlocks, hgv⟩, hK, hStr⟩ := C0
  have hbA : ¬ lw_A s b := Nat.not_le.mpr hbl
  have h1 : vp_in (nI i + 1) L := lw_in (k := 1) (by omega) hL
  have h2 : vp_in (nI i + 2) L := lw_in (k := 2) (by omega) hL
  obtain ⟨r, w1, w2, e1, e2, hI2⟩ := op_plan hI (xs (nI i + 1).toNatClampNeg) (xs (nI i + 2).toNatClampNeg)
  refine lv_aload_n hx hb (show decode code 767 = .ok (.aload_n 1, 1) by decide +kernel) rfl (lv_at hl 3 rfl) ?_
  refine lv_aload_n hx hb (show decode code 768 = .ok (.aload_n 0, 1) by decide +kernel) rfl (lv_at hl 4 rfl) ?_
  refine lv_iload hx hb (show decode code 769 = .ok (.iload 4, 2) by decide +kernel) (lv_at hl 0 rfl) ?_
  refine lv_iconst (v := 1) hx hb (show decode code 771 = .ok (.iconst 1, 1) by decide +kernel) (by decide) ?_
  refine lv_iadd hx hb (show decode code 772 = .ok (.iadd, 1) by decide +kernel) ?_
  refine va_sld hx hb hX hbl hbA hT.2.2 h1 (show decode code 773 = .ok (.iaload, 1) by decide +kernel) ?_
  refine lv_aload_n hx hb (show decode code 774 = .ok (.aload_n 0, 1) by decide +kernel) rfl (lv_at hl 4 rfl) ?_
  refine lv_iload hx hb (show decode code 775 = .ok (.iload 4, 2) by decide +kernel) (lv_at hl 0 rfl) ?_
  refine lv_iconst (v := 2) hx hb (show decode code 777 = .ok (.iconst 2, 1) by decide +kernel) (by decide) ?_
  refine lv_iadd hx hb (show decode code 778 = .ok (.iadd, 1) by decide +kernel) ?_
  refine va_sld hx hb hX hbl hbA hT.2.2 h2 (show decode code 779 = .ok (.iaload, 1) by decide +kernel) ?_
  refine lw_call l C (o := (11, 0)) (is := [(xs (nI i + 1).toNatClampNeg), (xs (nI i + 2).toNatClampNeg)]) (rest := []) e1 (by decide) (nc_at_in (p := (5, 86)) rfl rfl) rfl rfl rfl rfl (show decode code 780 = .ok (.invokevirtual 98, 3) by decide +kernel) hl.1 rfl (Nat.le_of_ble_eq_true rfl) hcs hT (fun H locs hT => ?_)
  refine lv_aload_n hx hb (show decode code 783 = .ok (.aload_n 2, 1) by decide +kernel) rfl (lv_at hl 2 rfl) ?_
  refine lv_aload_n hx hb (show decode code 784 = .ok (.aload_n 0, 1) by decide +kernel) rfl (lv_at hl 4 rfl) ?_
  refine lv_iload hx hb (show decode code 785 = .ok (.iload 4, 2) by decide +kernel) (lv_at hl 0 rfl) ?_
  refine lv_iconst (v := 1) hx hb (show decode code 787 = .ok (.iconst 1, 1) by decide +kernel) (by decide) ?_
  refine lv_iadd hx hb (show decode code 788 = .ok (.iadd, 1) by decide +kernel) ?_
  refine va_sld hx hb hX hbl hbA hT.2.2 h1 (show decode code 789 = .ok (.iaload, 1) by decide +kernel) ?_
  refine lv_aload_n hx hb (show decode code 790 = .ok (.aload_n 0, 1) by decide +kernel) rfl (lv_at hl 4 rfl) ?_
  refine lv_iload hx hb (show decode code 791 = .ok (.iload 4, 2) by decide +kernel) (lv_at hl 0 rfl) ?_
  refine lv_iconst (v := 2) hx hb (show decode code 793 = .ok (.iconst 2, 1) by decide +kernel) (by decide) ?_
  refine lv_iadd hx hb (show decode code 794 = .ok (.iadd, 1) by decide +kernel) ?_
  refine va_sld hx hb hX hbl hbA hT.2.2 h2 (show decode code 795 = .ok (.iaload, 1) by decide +kernel) ?_
  refine lw_call l C (o := (12, 0)) (is := [(xs (nI i + 1).toNatClampNeg), (xs (nI i + 2).toNatClampNeg)]) (rest := [.int r]) e2 (by decide) (nc_at_in (p := (8, 179)) rfl rfl) rfl rfl rfl rfl (show decode code 796 = .ok (.invokevirtual 101, 3) by decide +kernel) hl.1 rfl (Nat.le_of_ble_eq_true rfl) hcs hT (fun H locs hT => ?_)
  refine lv_icmp_eq (tgt := 1316) hx hb (show decode code 799 = .ok (.if_icmp .eq 517, 3) by decide +kernel) (by decide) (fun _ => kk _ _ _ hI2 hT) (fun q9 => absurd rfl q9)
set_option maxRecDepth 100000 in
set_option maxHeartbeats 4000000 in
theorem lw_k18 (l : Launch) {p : Program} {e : Env} {s : State} {m : MethodId} {below : List Frame} {meth : Method} {c : Code} {b L : Nat} {xs : Nat → Int32} {D : va_G} {cA : Nat → ClassId} {ad : Nat → Nat → Nat} (hL : L ≤ 3072) (C : lw_C p s m meth c b L xs D cA ad) {q3 : Nat} {g : Nat → Int64} {w : nc_H} {H : Heap} {locs : List Loc} {cells slots : Nat} {ls : Array Slot} {Q : State → Prop} {i : Nat} (hi : i + 6 ≤ L) (hI : Inv w) (hcs : cells ≤ 601024 ∧ slots ≤ 7293034) (hl : lv_has ls 7 [(4, .int (nI i)), (3, .ref q3), (2, .ref (ad 12 0)), (1, .ref (ad 11 0)), (0, .ref b)]) (hT : lw_S s D cA ad q3 g w H locs) (kk : ∀ (w2 : nc_H) (H1 : Heap) (locs1 : List Loc), Inv w2 → lw_S s D cA ad q3 g w2 H1 locs1 → W p l e room_1 s m #[Value.ref b] below meth c H1 locs1 cells slots Q (F0 m 1316 ls [])) : W p l e room_1 s m #[Value.ref b] below meth c H locs cells slots Q (F0 m 804 ls []) := by
  have C0 := C
  obtain ⟨⟨hx, hb, hr, hml, hown, hts, hX, hbl, hlocks, hgv⟩, hK, hStr⟩ := C0
  have hbA : ¬ lw_A s b := Nat.not_le.mpr hbl
  have h1 : vp_in (nI i + 1) L := lw_in (k := 1) (by omega) hL
  obtain ⟨r, w1, w2, e1, e2, hI2⟩ := op_planAt hI (xs (nI i + 1).toNatClampNeg)
  refine lv_aload_n hx hb (show decode code 804 = .ok (.aload_n 1, 1) by decide +kernel) rfl (lv_at hl 3 rfl) ?_
  refine lv_aload_n hx hb (show decode code 805 = .ok (.aload_n 0, 1) by decide +kernel) rfl (lv_at hl 4 rfl) ?_
  refine lv_iload hx hb (show decode code 806 = .ok (.iload 4, 2) by decide +kernel) (lv_at hl 0 rfl) ?_
  refine lv_iconst (v := 1) hx hb (show decode code 808 = .ok (.iconst 1, 1) by decide +kernel) (by decide) ?_
  refine lv_iadd hx hb (show decode code 809 = .ok (.iadd, 1) by decide +kernel) ?_
  refine va_sld hx hb hX hbl hbA hT.2.2 h1 (show decode code 810 = .ok (.iaload, 1) by decide +kernel) ?_
  refine lw_call l C (o := (11, 0)) (is := [(xs (nI i + 1).toNatClampNeg)]) (rest := []) e1 (by decide) (nc_at_in (p := (5, 119)) rfl rfl) rfl rfl rfl rfl (show decode code 811 = .ok (.invokevirtual 102, 3) by decide +kernel) hl.1 rfl (Nat.le_of_ble_eq_true rfl) hcs hT (fun H locs hT => ?_)
  refine lv_aload_n hx hb (show decode code 814 = .ok (.aload_n 2, 1) by decide +kernel) rfl (lv_at hl 2 rfl) ?_
  refine lv_aload_n hx hb (show decode code 815 = .ok (.aload_n 0, 1) by decide +kernel) rfl (lv_at hl 4 rfl) ?_
  refine lv_iload hx hb (show decode code 816 = .ok (.iload 4, 2) by decide +kernel) (lv_at hl 0 rfl) ?_
  refine lv_iconst (v := 1) hx hb (show decode code 818 = .ok (.iconst 1, 1) by decide +kernel) (by decide) ?_
  refine lv_iadd hx hb (show decode code 819 = .ok (.iadd, 1) by decide +kernel) ?_
  refine va_sld hx hb hX hbl hbA hT.2.2 h1 (show decode code 820 = .ok (.iaload, 1) by decide +kernel) ?_
  refine lw_call l C (o := (12, 0)) (is := [(xs (nI i + 1).toNatClampNeg)]) (rest := [.int r]) e2 (by decide) (nc_at_in (p := (8, 199)) rfl rfl) rfl rfl rfl rfl (show decode code 821 = .ok (.invokevirtual 105, 3) by decide +kernel) hl.1 rfl (Nat.le_of_ble_eq_true rfl) hcs hT (fun H locs hT => ?_)
  refine lv_icmp_eq (tgt := 1316) hx hb (show decode code 824 = .ok (.if_icmp .eq 492, 3) by decide +kernel) (by decide) (fun _ => kk _ _ _ hI2 hT) (fun q9 => absurd rfl q9)
set_option maxRecDepth 100000 in
set_option maxHeartbeats 4000000 in
theorem lw_k19 (l : Launch) {p : Program} {e : Env} {s : State} {m : MethodId} {below : List Frame} {meth : Method} {c : Code} {b L : Nat} {xs : Nat → Int32} {D : va_G} {cA : Nat → ClassId} {ad : Nat → Nat → Nat} (hL : L ≤ 3072) (C : lw_C p s m meth c b L xs D cA ad) {q3 : Nat} {g : Nat → Int64} {w : nc_H} {H : Heap} {locs : List Loc} {cells slots : Nat} {ls : Array Slot} {Q : State → Prop} {i : Nat} (hi : i + 6 ≤ L) (hI : Inv w) (hcs : cells ≤ 601024 ∧ slots ≤ 7293034) (hl : lv_has ls 7 [(4, .int (nI i)), (3, .ref q3), (2, .ref (ad 12 0)), (1, .ref (ad 11 0)), (0, .ref b)]) (hT : lw_S s D cA ad q3 g w H locs) (kk : ∀ (w2 : nc_H) (H1 : Heap) (locs1 : List Loc), Inv w2 → lw_S s D cA ad q3 g w2 H1 locs1 → W p l e room_1 s m #[Value.ref b] below meth c H1 locs1 cells slots Q (F0 m 1316 ls [])) : W p l e room_1 s m #[Value.ref b] below meth c H locs cells slots Q (F0 m 829 ls []) := by
  have C0 := C
  obtain ⟨⟨hx, hb, hr, hml, hown, hts, hX, hbl, hlocks, hgv⟩, hK, hStr⟩ := C0
  have hbA : ¬ lw_A s b := Nat.not_le.mpr hbl
  have h1 : vp_in (nI i + 1) L := lw_in (k := 1) (by omega) hL
  obtain ⟨r, w1, w2, e1, e2, hI2⟩ := op_allKnow hI (xs (nI i + 1).toNatClampNeg)
  refine lv_aload_n hx hb (show decode code 829 = .ok (.aload_n 1, 1) by decide +kernel) rfl (lv_at hl 3 rfl) ?_
  refine lv_aload_n hx hb (show decode code 830 = .ok (.aload_n 0, 1) by decide +kernel) rfl (lv_at hl 4 rfl) ?_
  refine lv_iload hx hb (show decode code 831 = .ok (.iload 4, 2) by decide +kernel) (lv_at hl 0 rfl) ?_
  refine lv_iconst (v := 1) hx hb (show decode code 833 = .ok (.iconst 1, 1) by decide +kernel) (by decide) ?_
  refine lv_iadd hx hb (show decode code 834 = .ok (.iadd, 1) by decide +kernel) ?_
  refine va_sld hx hb hX hbl hbA hT.2.2 h1 (show decode code 835 = .ok (.iaload, 1) by decide +kernel) ?_
  refine lw_call l C (o := (11, 0)) (is := [(xs (nI i + 1).toNatClampNeg)]) (rest := []) e1 (by decide) (nc_at_in (p := (5, 123)) rfl rfl) rfl rfl rfl rfl (show decode code 836 = .ok (.invokevirtual 106, 3) by decide +kernel) hl.1 rfl (Nat.le_of_ble_eq_true rfl) hcs hT (fun H locs hT => ?_)
  refine lv_aload_n hx hb (show decode code 839 = .ok (.aload_n 2, 1) by decide +kernel) rfl (lv_at hl 2 rfl) ?_
  refine lv_aload_n hx hb (show decode code 840 = .ok (.aload_n 0, 1) by decide +kernel) rfl (lv_at hl 4 rfl) ?_
  refine lv_iload hx hb (show decode code 841 = .ok (.iload 4, 2) by decide +kernel) (lv_at hl 0 rfl) ?_
  refine lv_iconst (v := 1) hx hb (show decode code 843 = .ok (.iconst 1, 1) by decide +kernel) (by decide) ?_
  refine lv_iadd hx hb (show decode code 844 = .ok (.iadd, 1) by decide +kernel) ?_
  refine va_sld hx hb hX hbl hbA hT.2.2 h1 (show decode code 845 = .ok (.iaload, 1) by decide +kernel) ?_
  refine lw_call l C (o := (12, 0)) (is := [(xs (nI i + 1).toNatClampNeg)]) (rest := [.int r]) e2 (by decide) (nc_at_in (p := (8, 203)) rfl rfl) rfl rfl rfl rfl (show decode code 846 = .ok (.invokevirtual 109, 3) by decide +kernel) hl.1 rfl (Nat.le_of_ble_eq_true rfl) hcs hT (fun H locs hT => ?_)
  refine lv_icmp_eq (tgt := 1316) hx hb (show decode code 849 = .ok (.if_icmp .eq 467, 3) by decide +kernel) (by decide) (fun _ => kk _ _ _ hI2 hT) (fun q9 => absurd rfl q9)
set_option maxRecDepth 100000 in
set_option maxHeartbeats 4000000 in
theorem lw_k20 (l : Launch) {p : Program} {e : Env} {s : State} {m : MethodId} {below : List Frame} {meth : Method} {c : Code} {b L : Nat} {xs : Nat → Int32} {D : va_G} {cA : Nat → ClassId} {ad : Nat → Nat → Nat} (hL : L ≤ 3072) (C : lw_C p s m meth c b L xs D cA ad) {q3 : Nat} {g : Nat → Int64} {w : nc_H} {H : Heap} {locs : List Loc} {cells slots : Nat} {ls : Array Slot} {Q : State → Prop} {i : Nat} (hi : i + 6 ≤ L) (hI : Inv w) (hcs : cells ≤ 601024 ∧ slots ≤ 7293034) (hl : lv_has ls 7 [(4, .int (nI i)), (3, .ref q3), (2, .ref (ad 12 0)), (1, .ref (ad 11 0)), (0, .ref b)]) (hT : lw_S s D cA ad q3 g w H locs) (kk : ∀ (w2 : nc_H) (H1 : Heap) (locs1 : List Loc), Inv w2 → lw_S s D cA ad q3 g w2 H1 locs1 → W p l e room_1 s m #[Value.ref b] below meth c H1 locs1 cells slots Q (F0 m 1316 ls [])) : W p l e room_1 s m #[Value.ref b] below meth c H locs cells slots Q (F0 m 854 ls []) := by
  have C0 := C
  obtain ⟨⟨hx, hb, hr, hml, hown, hts, hX, hbl, hlocks, hgv⟩, hK, hStr⟩ := C0
  have hbA : ¬ lw_A s b := Nat.not_le.mpr hbl
  have h1 : vp_in (nI i + 1) L := lw_in (k := 1) (by omega) hL
  have h2 : vp_in (nI i + 2) L := lw_in (k := 2) (by omega) hL
  obtain ⟨r, w1, w2, e1, e2, hI2⟩ := op_part hI (xs (nI i + 1).toNatClampNeg) (xs (nI i + 2).toNatClampNeg)
  refine lv_aload_n hx hb (show decode code 854 = .ok (.aload_n 1, 1) by decide +kernel) rfl (lv_at hl 3 rfl) ?_
  refine lv_aload_n hx hb (show decode code 855 = .ok (.aload_n 0, 1) by decide +kernel) rfl (lv_at hl 4 rfl) ?_
  refine lv_iload hx hb (show decode code 856 = .ok (.iload 4, 2) by decide +kernel) (lv_at hl 0 rfl) ?_
  refine lv_iconst (v := 1) hx hb (show decode code 858 = .ok (.iconst 1, 1) by decide +kernel) (by decide) ?_
  refine lv_iadd hx hb (show decode code 859 = .ok (.iadd, 1) by decide +kernel) ?_
  refine va_sld hx hb hX hbl hbA hT.2.2 h1 (show decode code 860 = .ok (.iaload, 1) by decide +kernel) ?_
  refine lv_aload_n hx hb (show decode code 861 = .ok (.aload_n 0, 1) by decide +kernel) rfl (lv_at hl 4 rfl) ?_
  refine lv_iload hx hb (show decode code 862 = .ok (.iload 4, 2) by decide +kernel) (lv_at hl 0 rfl) ?_
  refine lv_iconst (v := 2) hx hb (show decode code 864 = .ok (.iconst 2, 1) by decide +kernel) (by decide) ?_
  refine lv_iadd hx hb (show decode code 865 = .ok (.iadd, 1) by decide +kernel) ?_
  refine va_sld hx hb hX hbl hbA hT.2.2 h2 (show decode code 866 = .ok (.iaload, 1) by decide +kernel) ?_
  refine lw_call l C (o := (11, 0)) (is := [(xs (nI i + 1).toNatClampNeg), (xs (nI i + 2).toNatClampNeg)]) (rest := []) e1 (by decide) (nc_at_in (p := (5, 134)) rfl rfl) rfl rfl rfl rfl (show decode code 867 = .ok (.invokevirtual 110, 3) by decide +kernel) hl.1 rfl (Nat.le_of_ble_eq_true rfl) hcs hT (fun H locs hT => ?_)
  refine lv_aload_n hx hb (show decode code 870 = .ok (.aload_n 2, 1) by decide +kernel) rfl (lv_at hl 2 rfl) ?_
  refine lv_aload_n hx hb (show decode code 871 = .ok (.aload_n 0, 1) by decide +kernel) rfl (lv_at hl 4 rfl) ?_
  refine lv_iload hx hb (show decode code 872 = .ok (.iload 4, 2) by decide +kernel) (lv_at hl 0 rfl) ?_
  refine lv_iconst (v := 1) hx hb (show decode code 874 = .ok (.iconst 1, 1) by decide +kernel) (by decide) ?_
  refine lv_iadd hx hb (show decode code 875 = .ok (.iadd, 1) by decide +kernel) ?_
  refine va_sld hx hb hX hbl hbA hT.2.2 h1 (show decode code 876 = .ok (.iaload, 1) by decide +kernel) ?_
  refine lv_aload_n hx hb (show decode code 877 = .ok (.aload_n 0, 1) by decide +kernel) rfl (lv_at hl 4 rfl) ?_
  refine lv_iload hx hb (show decode code 878 = .ok (.iload 4, 2) by decide +kernel) (lv_at hl 0 rfl) ?_
  refine lv_iconst (v := 2) hx hb (show decode code 880 = .ok (.iconst 2, 1) by decide +kernel) (by decide) ?_
  refine lv_iadd hx hb (show decode code 881 = .ok (.iadd, 1) by decide +kernel) ?_
  refine va_sld hx hb hX hbl hbA hT.2.2 h2 (show decode code 882 = .ok (.iaload, 1) by decide +kernel) ?_
  refine lw_call l C (o := (12, 0)) (is := [(xs (nI i + 1).toNatClampNeg), (xs (nI i + 2).toNatClampNeg)]) (rest := [.int r]) e2 (by decide) (nc_at_in (p := (8, 207)) rfl rfl) rfl rfl rfl rfl (show decode code 883 = .ok (.invokevirtual 113, 3) by decide +kernel) hl.1 rfl (Nat.le_of_ble_eq_true rfl) hcs hT (fun H locs hT => ?_)
  refine lv_icmp_eq (tgt := 1316) hx hb (show decode code 886 = .ok (.if_icmp .eq 430, 3) by decide +kernel) (by decide) (fun _ => kk _ _ _ hI2 hT) (fun q9 => absurd rfl q9)
set_option maxRecDepth 100000 in
set_option maxHeartbeats 4000000 in
theorem lw_k21 (l : Launch) {p : Program} {e : Env} {s : State} {m : MethodId} {below : List Frame} {meth : Method} {c : Code} {b L : Nat} {xs : Nat → Int32} {D : va_G} {cA : Nat → ClassId} {ad : Nat → Nat → Nat} (hL : L ≤ 3072) (C : lw_C p s m meth c b L xs D cA ad) {q3 : Nat} {g : Nat → Int64} {w : nc_H} {H : Heap} {locs : List Loc} {cells slots : Nat} {ls : Array Slot} {Q : State → Prop} {i : Nat} (hi : i + 6 ≤ L) (hI : Inv w) (hcs : cells ≤ 601024 ∧ slots ≤ 7293034) (hl : lv_has ls 7 [(4, .int (nI i)), (3, .ref q3), (2, .ref (ad 12 0)), (1, .ref (ad 11 0)), (0, .ref b)]) (hT : lw_S s D cA ad q3 g w H locs) (kk : ∀ (w2 : nc_H) (H1 : Heap) (locs1 : List Loc), Inv w2 → lw_S s D cA ad q3 g w2 H1 locs1 → W p l e room_1 s m #[Value.ref b] below meth c H1 locs1 cells slots Q (F0 m 1316 ls [])) : W p l e room_1 s m #[Value.ref b] below meth c H locs cells slots Q (F0 m 891 ls []) := by
  have C0 := C
  obtain ⟨⟨hx, hb, hr, hml, hown, hts, hX, hbl, hlocks, hgv⟩, hK, hStr⟩ := C0
  have hbA : ¬ lw_A s b := Nat.not_le.mpr hbl
  obtain ⟨r, w1, w2, e1, e2, hI2⟩ := op_parted hI 
  refine lv_aload_n hx hb (show decode code 891 = .ok (.aload_n 1, 1) by decide +kernel) rfl (lv_at hl 3 rfl) ?_
  refine lw_call l C (o := (11, 0)) (is := []) (rest := []) e1 (by decide) (nc_at_in (p := (5, 152)) rfl rfl) rfl rfl rfl rfl (show decode code 892 = .ok (.invokevirtual 114, 3) by decide +kernel) hl.1 rfl (Nat.le_of_ble_eq_true rfl) hcs hT (fun H locs hT => ?_)
  refine lv_aload_n hx hb (show decode code 895 = .ok (.aload_n 2, 1) by decide +kernel) rfl (lv_at hl 2 rfl) ?_
  refine lw_call l C (o := (12, 0)) (is := []) (rest := [.int r]) e2 (by decide) (nc_at_in (p := (8, 215)) rfl rfl) rfl rfl rfl rfl (show decode code 896 = .ok (.invokevirtual 117, 3) by decide +kernel) hl.1 rfl (Nat.le_of_ble_eq_true rfl) hcs hT (fun H locs hT => ?_)
  refine lv_icmp_eq (tgt := 1316) hx hb (show decode code 899 = .ok (.if_icmp .eq 417, 3) by decide +kernel) (by decide) (fun _ => kk _ _ _ hI2 hT) (fun q9 => absurd rfl q9)
set_option maxRecDepth 100000 in
set_option maxHeartbeats 4000000 in
theorem lw_k22 (l : Launch) {p : Program} {e : Env} {s : State} {m : MethodId} {below : List Frame} {meth : Method} {c : Code} {b L : Nat} {xs : Nat → Int32} {D : va_G} {cA : Nat → ClassId} {ad : Nat → Nat → Nat} (hL : L ≤ 3072) (C : lw_C p s m meth c b L xs D cA ad) {q3 : Nat} {g : Nat → Int64} {w : nc_H} {H : Heap} {locs : List Loc} {cells slots : Nat} {ls : Array Slot} {Q : State → Prop} {i : Nat} (hi : i + 6 ≤ L) (hI : Inv w) (hcs : cells ≤ 601024 ∧ slots ≤ 7293034) (hl : lv_has ls 7 [(4, .int (nI i)), (3, .ref q3), (2, .ref (ad 12 0)), (1, .ref (ad 11 0)), (0, .ref b)]) (hT : lw_S s D cA ad q3 g w H locs) (kk : ∀ (w2 : nc_H) (H1 : Heap) (locs1 : List Loc), Inv w2 → lw_S s D cA ad q3 g w2 H1 locs1 → W p l e room_1 s m #[Value.ref b] below meth c H1 locs1 cells slots Q (F0 m 1316 ls [])) : W p l e room_1 s m #[Value.ref b] below meth c H locs cells slots Q (F0 m 904 ls []) := by
  have C0 := C
  obtain ⟨⟨hx, hb, hr, hml, hown, hts, hX, hbl, hlocks, hgv⟩, hK, hStr⟩ := C0
  have hbA : ¬ lw_A s b := Nat.not_le.mpr hbl
  have h1 : vp_in (nI i + 1) L := lw_in (k := 1) (by omega) hL
  obtain ⟨r, w1, w2, e1, e2, hI2⟩ := op_tasted hI (xs (nI i + 1).toNatClampNeg)
  refine lv_aload_n hx hb (show decode code 904 = .ok (.aload_n 1, 1) by decide +kernel) rfl (lv_at hl 3 rfl) ?_
  refine lv_aload_n hx hb (show decode code 905 = .ok (.aload_n 0, 1) by decide +kernel) rfl (lv_at hl 4 rfl) ?_
  refine lv_iload hx hb (show decode code 906 = .ok (.iload 4, 2) by decide +kernel) (lv_at hl 0 rfl) ?_
  refine lv_iconst (v := 1) hx hb (show decode code 908 = .ok (.iconst 1, 1) by decide +kernel) (by decide) ?_
  refine lv_iadd hx hb (show decode code 909 = .ok (.iadd, 1) by decide +kernel) ?_
  refine va_sld hx hb hX hbl hbA hT.2.2 h1 (show decode code 910 = .ok (.iaload, 1) by decide +kernel) ?_
  refine lw_call l C (o := (11, 0)) (is := [(xs (nI i + 1).toNatClampNeg)]) (rest := []) e1 (by decide) (nc_at_in (p := (5, 156)) rfl rfl) rfl rfl rfl rfl (show decode code 911 = .ok (.invokevirtual 118, 3) by decide +kernel) hl.1 rfl (Nat.le_of_ble_eq_true rfl) hcs hT (fun H locs hT => ?_)
  refine lv_aload_n hx hb (show decode code 914 = .ok (.aload_n 2, 1) by decide +kernel) rfl (lv_at hl 2 rfl) ?_
  refine lv_aload_n hx hb (show decode code 915 = .ok (.aload_n 0, 1) by decide +kernel) rfl (lv_at hl 4 rfl) ?_
  refine lv_iload hx hb (show decode code 916 = .ok (.iload 4, 2) by decide +kernel) (lv_at hl 0 rfl) ?_
  refine lv_iconst (v := 1) hx hb (show decode code 918 = .ok (.iconst 1, 1) by decide +kernel) (by decide) ?_
  refine lv_iadd hx hb (show decode code 919 = .ok (.iadd, 1) by decide +kernel) ?_
  refine va_sld hx hb hX hbl hbA hT.2.2 h1 (show decode code 920 = .ok (.iaload, 1) by decide +kernel) ?_
  refine lw_call l C (o := (12, 0)) (is := [(xs (nI i + 1).toNatClampNeg)]) (rest := [.int r]) e2 (by decide) (nc_at_in (p := (8, 219)) rfl rfl) rfl rfl rfl rfl (show decode code 921 = .ok (.invokevirtual 121, 3) by decide +kernel) hl.1 rfl (Nat.le_of_ble_eq_true rfl) hcs hT (fun H locs hT => ?_)
  refine lv_icmp_eq (tgt := 1316) hx hb (show decode code 924 = .ok (.if_icmp .eq 392, 3) by decide +kernel) (by decide) (fun _ => kk _ _ _ hI2 hT) (fun q9 => absurd rfl q9)
set_option maxRecDepth 100000 in
set_option maxHeartbeats 4000000 in
theorem lw_k23 (l : Launch) {p : Program} {e : Env} {s : State} {m : MethodId} {below : List Frame} {meth : Method} {c : Code} {b L : Nat} {xs : Nat → Int32} {D : va_G} {cA : Nat → ClassId} {ad : Nat → Nat → Nat} (hL : L ≤ 3072) (C : lw_C p s m meth c b L xs D cA ad) {q3 : Nat} {g : Nat → Int64} {w : nc_H} {H : Heap} {locs : List Loc} {cells slots : Nat} {ls : Array Slot} {Q : State → Prop} {i : Nat} (hi : i + 6 ≤ L) (hI : Inv w) (hcs : cells ≤ 601024 ∧ slots ≤ 7293034) (hl : lv_has ls 7 [(4, .int (nI i)), (3, .ref q3), (2, .ref (ad 12 0)), (1, .ref (ad 11 0)), (0, .ref b)]) (hT : lw_S s D cA ad q3 g w H locs) (kk : ∀ (w2 : nc_H) (H1 : Heap) (locs1 : List Loc), Inv w2 → lw_S s D cA ad q3 g w2 H1 locs1 → W p l e room_1 s m #[Value.ref b] below meth c H1 locs1 cells slots Q (F0 m 1316 ls [])) : W p l e room_1 s m #[Value.ref b] below meth c H locs cells slots Q (F0 m 929 ls []) := by
  have C0 := C
  obtain ⟨⟨hx, hb, hr, hml, hown, hts, hX, hbl, hlocks, hgv⟩, hK, hStr⟩ := C0
  have hbA : ¬ lw_A s b := Nat.not_le.mpr hbl
  obtain ⟨r, w1, w2, e1, e2, hI2⟩ := op_surely hI 
  refine lv_aload_n hx hb (show decode code 929 = .ok (.aload_n 1, 1) by decide +kernel) rfl (lv_at hl 3 rfl) ?_
  refine lw_call l C (o := (11, 0)) (is := []) (rest := []) e1 (by decide) (nc_at_in (p := (5, 177)) rfl rfl) rfl rfl rfl rfl (show decode code 930 = .ok (.invokevirtual 122, 3) by decide +kernel) hl.1 rfl (Nat.le_of_ble_eq_true rfl) hcs hT (fun H locs hT => ?_)
  refine lv_aload_n hx hb (show decode code 933 = .ok (.aload_n 2, 1) by decide +kernel) rfl (lv_at hl 2 rfl) ?_
  refine lw_call l C (o := (12, 0)) (is := []) (rest := [.int r]) e2 (by decide) (nc_at_in (p := (8, 230)) rfl rfl) rfl rfl rfl rfl (show decode code 934 = .ok (.invokevirtual 125, 3) by decide +kernel) hl.1 rfl (Nat.le_of_ble_eq_true rfl) hcs hT (fun H locs hT => ?_)
  refine lv_icmp_eq (tgt := 1316) hx hb (show decode code 937 = .ok (.if_icmp .eq 379, 3) by decide +kernel) (by decide) (fun _ => kk _ _ _ hI2 hT) (fun q9 => absurd rfl q9)
set_option maxRecDepth 100000 in
set_option maxHeartbeats 4000000 in
theorem lw_k24 (l : Launch) {p : Program} {e : Env} {s : State} {m : MethodId} {below : List Frame} {meth : Method} {c : Code} {b L : Nat} {xs : Nat → Int32} {D : va_G} {cA : Nat → ClassId} {ad : Nat → Nat → Nat} (hL : L ≤ 3072) (C : lw_C p s m meth c b L xs D cA ad) {q3 : Nat} {g : Nat → Int64} {w : nc_H} {H : Heap} {locs : List Loc} {cells slots : Nat} {ls : Array Slot} {Q : State → Prop} {i : Nat} (hi : i + 6 ≤ L) (hI : Inv w) (hcs : cells ≤ 601024 ∧ slots ≤ 7293034) (hl : lv_has ls 7 [(4, .int (nI i)), (3, .ref q3), (2, .ref (ad 12 0)), (1, .ref (ad 11 0)), (0, .ref b)]) (hT : lw_S s D cA ad q3 g w H locs) (kk : ∀ (w2 : nc_H) (H1 : Heap) (locs1 : List Loc), Inv w2 → lw_S s D cA ad q3 g w2 H1 locs1 → W p l e room_1 s m #[Value.ref b] below meth c H1 locs1 cells slots Q (F0 m 1316 ls [])) : W p l e room_1 s m #[Value.ref b] below meth c H locs cells slots Q (F0 m 942 ls []) := by
  have C0 := C
  obtain ⟨⟨hx, hb, hr, hml, hown, hts, hX, hbl, hlocks, hgv⟩, hK, hStr⟩ := C0
  have hbA : ¬ lw_A s b := Nat.not_le.mpr hbl
  obtain ⟨r, w1, w2, e1, e2, hI2⟩ := op_ask hI 
  refine lv_aload_n hx hb (show decode code 942 = .ok (.aload_n 1, 1) by decide +kernel) rfl (lv_at hl 3 rfl) ?_
  refine lw_call l C (o := (11, 0)) (is := []) (rest := []) e1 (by decide) (nc_at_in (p := (5, 181)) rfl rfl) rfl rfl rfl rfl (show decode code 943 = .ok (.invokevirtual 126, 3) by decide +kernel) hl.1 rfl (Nat.le_of_ble_eq_true rfl) hcs hT (fun H locs hT => ?_)
  refine lv_aload_n hx hb (show decode code 946 = .ok (.aload_n 2, 1) by decide +kernel) rfl (lv_at hl 2 rfl) ?_
  refine lw_call l C (o := (12, 0)) (is := []) (rest := [.int r]) e2 (by decide) (nc_at_in (p := (8, 234)) rfl rfl) rfl rfl rfl rfl (show decode code 947 = .ok (.invokevirtual 129, 3) by decide +kernel) hl.1 rfl (Nat.le_of_ble_eq_true rfl) hcs hT (fun H locs hT => ?_)
  refine lv_icmp_eq (tgt := 1316) hx hb (show decode code 950 = .ok (.if_icmp .eq 366, 3) by decide +kernel) (by decide) (fun _ => kk _ _ _ hI2 hT) (fun q9 => absurd rfl q9)
set_option maxRecDepth 100000 in
set_option maxHeartbeats 4000000 in
theorem lw_k25 (l : Launch) {p : Program} {e : Env} {s : State} {m : MethodId} {below : List Frame} {meth : Method} {c : Code} {b L : Nat} {xs : Nat → Int32} {D : va_G} {cA : Nat → ClassId} {ad : Nat → Nat → Nat} (hL : L ≤ 3072) (C : lw_C p s m meth c b L xs D cA ad) {q3 : Nat} {g : Nat → Int64} {w : nc_H} {H : Heap} {locs : List Loc} {cells slots : Nat} {ls : Array Slot} {Q : State → Prop} {i : Nat} (hi : i + 6 ≤ L) (hI : Inv w) (hcs : cells ≤ 601024 ∧ slots ≤ 7293034) (hl : lv_has ls 7 [(4, .int (nI i)), (3, .ref q3), (2, .ref (ad 12 0)), (1, .ref (ad 11 0)), (0, .ref b)]) (hT : lw_S s D cA ad q3 g w H locs) (kk : ∀ (w2 : nc_H) (H1 : Heap) (locs1 : List Loc), Inv w2 → lw_S s D cA ad q3 g w2 H1 locs1 → W p l e room_1 s m #[Value.ref b] below meth c H1 locs1 cells slots Q (F0 m 1316 ls [])) : W p l e room_1 s m #[Value.ref b] below meth c H locs cells slots Q (F0 m 955 ls []) := by
  have C0 := C
  obtain ⟨⟨hx, hb, hr, hml, hown, hts, hX, hbl, hlocks, hgv⟩, hK, hStr⟩ := C0
  have hbA : ¬ lw_A s b := Nat.not_le.mpr hbl
  have h1 : vp_in (nI i + 1) L := lw_in (k := 1) (by omega) hL
  obtain ⟨r, w1, w2, e1, e2, hI2⟩ := op_dries hI (xs (nI i + 1).toNatClampNeg)
  refine lv_aload_n hx hb (show decode code 955 = .ok (.aload_n 1, 1) by decide +kernel) rfl (lv_at hl 3 rfl) ?_
  refine lv_aload_n hx hb (show decode code 956 = .ok (.aload_n 0, 1) by decide +kernel) rfl (lv_at hl 4 rfl) ?_
  refine lv_iload hx hb (show decode code 957 = .ok (.iload 4, 2) by decide +kernel) (lv_at hl 0 rfl) ?_
  refine lv_iconst (v := 1) hx hb (show decode code 959 = .ok (.iconst 1, 1) by decide +kernel) (by decide) ?_
  refine lv_iadd hx hb (show decode code 960 = .ok (.iadd, 1) by decide +kernel) ?_
  refine va_sld hx hb hX hbl hbA hT.2.2 h1 (show decode code 961 = .ok (.iaload, 1) by decide +kernel) ?_
  refine lw_call l C (o := (11, 0)) (is := [(xs (nI i + 1).toNatClampNeg)]) (rest := []) e1 (by decide) (nc_at_in (p := (5, 185)) rfl rfl) rfl rfl rfl rfl (show decode code 962 = .ok (.invokevirtual 130, 3) by decide +kernel) hl.1 rfl (Nat.le_of_ble_eq_true rfl) hcs hT (fun H locs hT => ?_)
  refine lv_aload_n hx hb (show decode code 965 = .ok (.aload_n 2, 1) by decide +kernel) rfl (lv_at hl 2 rfl) ?_
  refine lv_aload_n hx hb (show decode code 966 = .ok (.aload_n 0, 1) by decide +kernel) rfl (lv_at hl 4 rfl) ?_
  refine lv_iload hx hb (show decode code 967 = .ok (.iload 4, 2) by decide +kernel) (lv_at hl 0 rfl) ?_
  refine lv_iconst (v := 1) hx hb (show decode code 969 = .ok (.iconst 1, 1) by decide +kernel) (by decide) ?_
  refine lv_iadd hx hb (show decode code 970 = .ok (.iadd, 1) by decide +kernel) ?_
  refine va_sld hx hb hX hbl hbA hT.2.2 h1 (show decode code 971 = .ok (.iaload, 1) by decide +kernel) ?_
  refine lw_call l C (o := (12, 0)) (is := [(xs (nI i + 1).toNatClampNeg)]) (rest := [.int r]) e2 (by decide) (nc_at_in (p := (8, 238)) rfl rfl) rfl rfl rfl rfl (show decode code 972 = .ok (.invokevirtual 133, 3) by decide +kernel) hl.1 rfl (Nat.le_of_ble_eq_true rfl) hcs hT (fun H locs hT => ?_)
  refine lv_icmp_eq (tgt := 1316) hx hb (show decode code 975 = .ok (.if_icmp .eq 341, 3) by decide +kernel) (by decide) (fun _ => kk _ _ _ hI2 hT) (fun q9 => absurd rfl q9)
set_option maxRecDepth 100000 in
set_option maxHeartbeats 4000000 in
theorem lw_k26 (l : Launch) {p : Program} {e : Env} {s : State} {m : MethodId} {below : List Frame} {meth : Method} {c : Code} {b L : Nat} {xs : Nat → Int32} {D : va_G} {cA : Nat → ClassId} {ad : Nat → Nat → Nat} (hL : L ≤ 3072) (C : lw_C p s m meth c b L xs D cA ad) {q3 : Nat} {g : Nat → Int64} {w : nc_H} {H : Heap} {locs : List Loc} {cells slots : Nat} {ls : Array Slot} {Q : State → Prop} {i : Nat} (hi : i + 6 ≤ L) (hI : Inv w) (hcs : cells ≤ 601024 ∧ slots ≤ 7293034) (hl : lv_has ls 7 [(4, .int (nI i)), (3, .ref q3), (2, .ref (ad 12 0)), (1, .ref (ad 11 0)), (0, .ref b)]) (hT : lw_S s D cA ad q3 g w H locs) (kk : ∀ (w2 : nc_H) (H1 : Heap) (locs1 : List Loc), Inv w2 → lw_S s D cA ad q3 g w2 H1 locs1 → W p l e room_1 s m #[Value.ref b] below meth c H1 locs1 cells slots Q (F0 m 1316 ls [])) : W p l e room_1 s m #[Value.ref b] below meth c H locs cells slots Q (F0 m 980 ls []) := by
  have C0 := C
  obtain ⟨⟨hx, hb, hr, hml, hown, hts, hX, hbl, hlocks, hgv⟩, hK, hStr⟩ := C0
  have hbA : ¬ lw_A s b := Nat.not_le.mpr hbl
  have h1 : vp_in (nI i + 1) L := lw_in (k := 1) (by omega) hL
  obtain ⟨r, w1, w2, e1, e2, hI2⟩ := op_week hI (xs (nI i + 1).toNatClampNeg)
  refine lv_aload_n hx hb (show decode code 980 = .ok (.aload_n 1, 1) by decide +kernel) rfl (lv_at hl 3 rfl) ?_
  refine lv_aload_n hx hb (show decode code 981 = .ok (.aload_n 0, 1) by decide +kernel) rfl (lv_at hl 4 rfl) ?_
  refine lv_iload hx hb (show decode code 982 = .ok (.iload 4, 2) by decide +kernel) (lv_at hl 0 rfl) ?_
  refine lv_iconst (v := 1) hx hb (show decode code 984 = .ok (.iconst 1, 1) by decide +kernel) (by decide) ?_
  refine lv_iadd hx hb (show decode code 985 = .ok (.iadd, 1) by decide +kernel) ?_
  refine va_sld hx hb hX hbl hbA hT.2.2 h1 (show decode code 986 = .ok (.iaload, 1) by decide +kernel) ?_
  refine lw_call l C (o := (11, 0)) (is := [(xs (nI i + 1).toNatClampNeg)]) (rest := []) e1 (by decide) (nc_at_in (p := (5, 190)) rfl rfl) rfl rfl rfl rfl (show decode code 987 = .ok (.invokevirtual 134, 3) by decide +kernel) hl.1 rfl (Nat.le_of_ble_eq_true rfl) hcs hT (fun H locs hT => ?_)
  refine lv_aload_n hx hb (show decode code 990 = .ok (.aload_n 2, 1) by decide +kernel) rfl (lv_at hl 2 rfl) ?_
  refine lv_aload_n hx hb (show decode code 991 = .ok (.aload_n 0, 1) by decide +kernel) rfl (lv_at hl 4 rfl) ?_
  refine lv_iload hx hb (show decode code 992 = .ok (.iload 4, 2) by decide +kernel) (lv_at hl 0 rfl) ?_
  refine lv_iconst (v := 1) hx hb (show decode code 994 = .ok (.iconst 1, 1) by decide +kernel) (by decide) ?_
  refine lv_iadd hx hb (show decode code 995 = .ok (.iadd, 1) by decide +kernel) ?_
  refine va_sld hx hb hX hbl hbA hT.2.2 h1 (show decode code 996 = .ok (.iaload, 1) by decide +kernel) ?_
  refine lw_call l C (o := (12, 0)) (is := [(xs (nI i + 1).toNatClampNeg)]) (rest := [.int r]) e2 (by decide) (nc_at_in (p := (9, 2)) rfl rfl) rfl rfl rfl rfl (show decode code 997 = .ok (.invokevirtual 137, 3) by decide +kernel) hl.1 rfl (Nat.le_of_ble_eq_true rfl) hcs hT (fun H locs hT => ?_)
  refine lv_icmp_eq (tgt := 1316) hx hb (show decode code 1000 = .ok (.if_icmp .eq 316, 3) by decide +kernel) (by decide) (fun _ => kk _ _ _ hI2 hT) (fun q9 => absurd rfl q9)
set_option maxRecDepth 100000 in
set_option maxHeartbeats 4000000 in
theorem lw_k27 (l : Launch) {p : Program} {e : Env} {s : State} {m : MethodId} {below : List Frame} {meth : Method} {c : Code} {b L : Nat} {xs : Nat → Int32} {D : va_G} {cA : Nat → ClassId} {ad : Nat → Nat → Nat} (hL : L ≤ 3072) (C : lw_C p s m meth c b L xs D cA ad) {q3 : Nat} {g : Nat → Int64} {w : nc_H} {H : Heap} {locs : List Loc} {cells slots : Nat} {ls : Array Slot} {Q : State → Prop} {i : Nat} (hi : i + 6 ≤ L) (hI : Inv w) (hcs : cells ≤ 601024 ∧ slots ≤ 7293034) (hl : lv_has ls 7 [(4, .int (nI i)), (3, .ref q3), (2, .ref (ad 12 0)), (1, .ref (ad 11 0)), (0, .ref b)]) (hT : lw_S s D cA ad q3 g w H locs) (kk : ∀ (w2 : nc_H) (H1 : Heap) (locs1 : List Loc), Inv w2 → lw_S s D cA ad q3 g w2 H1 locs1 → W p l e room_1 s m #[Value.ref b] below meth c H1 locs1 cells slots Q (F0 m 1316 ls [])) : W p l e room_1 s m #[Value.ref b] below meth c H locs cells slots Q (F0 m 1005 ls []) := by
  have C0 := C
  obtain ⟨⟨hx, hb, hr, hml, hown, hts, hX, hbl, hlocks, hgv⟩, hK, hStr⟩ := C0
  have hbA : ¬ lw_A s b := Nat.not_le.mpr hbl
  have h1 : vp_in (nI i + 1) L := lw_in (k := 1) (by omega) hL
  have h2 : vp_in (nI i + 2) L := lw_in (k := 2) (by omega) hL
  obtain ⟨r, w1, w2, e1, e2, hI2⟩ := op_pails hI (xs (nI i + 1).toNatClampNeg) (xs (nI i + 2).toNatClampNeg)
  refine lv_aload_n hx hb (show decode code 1005 = .ok (.aload_n 1, 1) by decide +kernel) rfl (lv_at hl 3 rfl) ?_
  refine lv_aload_n hx hb (show decode code 1006 = .ok (.aload_n 0, 1) by decide +kernel) rfl (lv_at hl 4 rfl) ?_
  refine lv_iload hx hb (show decode code 1007 = .ok (.iload 4, 2) by decide +kernel) (lv_at hl 0 rfl) ?_
  refine lv_iconst (v := 1) hx hb (show decode code 1009 = .ok (.iconst 1, 1) by decide +kernel) (by decide) ?_
  refine lv_iadd hx hb (show decode code 1010 = .ok (.iadd, 1) by decide +kernel) ?_
  refine va_sld hx hb hX hbl hbA hT.2.2 h1 (show decode code 1011 = .ok (.iaload, 1) by decide +kernel) ?_
  refine lv_aload_n hx hb (show decode code 1012 = .ok (.aload_n 0, 1) by decide +kernel) rfl (lv_at hl 4 rfl) ?_
  refine lv_iload hx hb (show decode code 1013 = .ok (.iload 4, 2) by decide +kernel) (lv_at hl 0 rfl) ?_
  refine lv_iconst (v := 2) hx hb (show decode code 1015 = .ok (.iconst 2, 1) by decide +kernel) (by decide) ?_
  refine lv_iadd hx hb (show decode code 1016 = .ok (.iadd, 1) by decide +kernel) ?_
  refine va_sld hx hb hX hbl hbA hT.2.2 h2 (show decode code 1017 = .ok (.iaload, 1) by decide +kernel) ?_
  refine lw_call l C (o := (11, 0)) (is := [(xs (nI i + 1).toNatClampNeg), (xs (nI i + 2).toNatClampNeg)]) (rest := []) e1 (by decide) (nc_at_in (p := (5, 203)) rfl rfl) rfl rfl rfl rfl (show decode code 1018 = .ok (.invokevirtual 138, 3) by decide +kernel) hl.1 rfl (Nat.le_of_ble_eq_true rfl) hcs hT (fun H locs hT => ?_)
  refine lv_aload_n hx hb (show decode code 1021 = .ok (.aload_n 2, 1) by decide +kernel) rfl (lv_at hl 2 rfl) ?_
  refine lv_aload_n hx hb (show decode code 1022 = .ok (.aload_n 0, 1) by decide +kernel) rfl (lv_at hl 4 rfl) ?_
  refine lv_iload hx hb (show decode code 1023 = .ok (.iload 4, 2) by decide +kernel) (lv_at hl 0 rfl) ?_
  refine lv_iconst (v := 1) hx hb (show decode code 1025 = .ok (.iconst 1, 1) by decide +kernel) (by decide) ?_
  refine lv_iadd hx hb (show decode code 1026 = .ok (.iadd, 1) by decide +kernel) ?_
  refine va_sld hx hb hX hbl hbA hT.2.2 h1 (show decode code 1027 = .ok (.iaload, 1) by decide +kernel) ?_
  refine lv_aload_n hx hb (show decode code 1028 = .ok (.aload_n 0, 1) by decide +kernel) rfl (lv_at hl 4 rfl) ?_
  refine lv_iload hx hb (show decode code 1029 = .ok (.iload 4, 2) by decide +kernel) (lv_at hl 0 rfl) ?_
  refine lv_iconst (v := 2) hx hb (show decode code 1031 = .ok (.iconst 2, 1) by decide +kernel) (by decide) ?_
  refine lv_iadd hx hb (show decode code 1032 = .ok (.iadd, 1) by decide +kernel) ?_
  refine va_sld hx hb hX hbl hbA hT.2.2 h2 (show decode code 1033 = .ok (.iaload, 1) by decide +kernel) ?_
  refine lw_call l C (o := (12, 0)) (is := [(xs (nI i + 1).toNatClampNeg), (xs (nI i + 2).toNatClampNeg)]) (rest := [.int r]) e2 (by decide) (nc_at_in (p := (9, 6)) rfl rfl) rfl rfl rfl rfl (show decode code 1034 = .ok (.invokevirtual 141, 3) by decide +kernel) hl.1 rfl (Nat.le_of_ble_eq_true rfl) hcs hT (fun H locs hT => ?_)
  refine lv_icmp_eq (tgt := 1316) hx hb (show decode code 1037 = .ok (.if_icmp .eq 279, 3) by decide +kernel) (by decide) (fun _ => kk _ _ _ hI2 hT) (fun q9 => absurd rfl q9)
set_option maxRecDepth 100000 in
set_option maxHeartbeats 4000000 in
theorem lw_k28 (l : Launch) {p : Program} {e : Env} {s : State} {m : MethodId} {below : List Frame} {meth : Method} {c : Code} {b L : Nat} {xs : Nat → Int32} {D : va_G} {cA : Nat → ClassId} {ad : Nat → Nat → Nat} (hL : L ≤ 3072) (C : lw_C p s m meth c b L xs D cA ad) {q3 : Nat} {g : Nat → Int64} {w : nc_H} {H : Heap} {locs : List Loc} {cells slots : Nat} {ls : Array Slot} {Q : State → Prop} {i : Nat} (hi : i + 6 ≤ L) (hI : Inv w) (hcs : cells ≤ 601024 ∧ slots ≤ 7293034) (hl : lv_has ls 7 [(4, .int (nI i)), (3, .ref q3), (2, .ref (ad 12 0)), (1, .ref (ad 11 0)), (0, .ref b)]) (hT : lw_S s D cA ad q3 g w H locs) (kk : ∀ (w2 : nc_H) (H1 : Heap) (locs1 : List Loc), Inv w2 → lw_S s D cA ad q3 g w2 H1 locs1 → W p l e room_1 s m #[Value.ref b] below meth c H1 locs1 cells slots Q (F0 m 1316 ls [])) : W p l e room_1 s m #[Value.ref b] below meth c H locs cells slots Q (F0 m 1042 ls []) := by
  have C0 := C
  obtain ⟨⟨hx, hb, hr, hml, hown, hts, hX, hbl, hlocks, hgv⟩, hK, hStr⟩ := C0
  have hbA : ¬ lw_A s b := Nat.not_le.mpr hbl
  have h1 : vp_in (nI i + 1) L := lw_in (k := 1) (by omega) hL
  obtain ⟨r, w1, w2, e1, e2, hI2⟩ := op_ahead hI (xs (nI i + 1).toNatClampNeg)
  refine lv_aload_n hx hb (show decode code 1042 = .ok (.aload_n 1, 1) by decide +kernel) rfl (lv_at hl 3 rfl) ?_
  refine lv_aload_n hx hb (show decode code 1043 = .ok (.aload_n 0, 1) by decide +kernel) rfl (lv_at hl 4 rfl) ?_
  refine lv_iload hx hb (show decode code 1044 = .ok (.iload 4, 2) by decide +kernel) (lv_at hl 0 rfl) ?_
  refine lv_iconst (v := 1) hx hb (show decode code 1046 = .ok (.iconst 1, 1) by decide +kernel) (by decide) ?_
  refine lv_iadd hx hb (show decode code 1047 = .ok (.iadd, 1) by decide +kernel) ?_
  refine va_sld hx hb hX hbl hbA hT.2.2 h1 (show decode code 1048 = .ok (.iaload, 1) by decide +kernel) ?_
  refine lw_call l C (o := (11, 0)) (is := [(xs (nI i + 1).toNatClampNeg)]) (rest := []) e1 (by decide) (nc_at_in (p := (5, 207)) rfl rfl) rfl rfl rfl rfl (show decode code 1049 = .ok (.invokevirtual 142, 3) by decide +kernel) hl.1 rfl (Nat.le_of_ble_eq_true rfl) hcs hT (fun H locs hT => ?_)
  refine lv_aload_n hx hb (show decode code 1052 = .ok (.aload_n 2, 1) by decide +kernel) rfl (lv_at hl 2 rfl) ?_
  refine lv_aload_n hx hb (show decode code 1053 = .ok (.aload_n 0, 1) by decide +kernel) rfl (lv_at hl 4 rfl) ?_
  refine lv_iload hx hb (show decode code 1054 = .ok (.iload 4, 2) by decide +kernel) (lv_at hl 0 rfl) ?_
  refine lv_iconst (v := 1) hx hb (show decode code 1056 = .ok (.iconst 1, 1) by decide +kernel) (by decide) ?_
  refine lv_iadd hx hb (show decode code 1057 = .ok (.iadd, 1) by decide +kernel) ?_
  refine va_sld hx hb hX hbl hbA hT.2.2 h1 (show decode code 1058 = .ok (.iaload, 1) by decide +kernel) ?_
  refine lw_call l C (o := (12, 0)) (is := [(xs (nI i + 1).toNatClampNeg)]) (rest := [.int r]) e2 (by decide) (nc_at_in (p := (9, 14)) rfl rfl) rfl rfl rfl rfl (show decode code 1059 = .ok (.invokevirtual 145, 3) by decide +kernel) hl.1 rfl (Nat.le_of_ble_eq_true rfl) hcs hT (fun H locs hT => ?_)
  refine lv_icmp_eq (tgt := 1316) hx hb (show decode code 1062 = .ok (.if_icmp .eq 254, 3) by decide +kernel) (by decide) (fun _ => kk _ _ _ hI2 hT) (fun q9 => absurd rfl q9)
set_option maxRecDepth 100000 in
set_option maxHeartbeats 4000000 in
theorem lw_k29 (l : Launch) {p : Program} {e : Env} {s : State} {m : MethodId} {below : List Frame} {meth : Method} {c : Code} {b L : Nat} {xs : Nat → Int32} {D : va_G} {cA : Nat → ClassId} {ad : Nat → Nat → Nat} (hL : L ≤ 3072) (C : lw_C p s m meth c b L xs D cA ad) {q3 : Nat} {g : Nat → Int64} {w : nc_H} {H : Heap} {locs : List Loc} {cells slots : Nat} {ls : Array Slot} {Q : State → Prop} {i : Nat} (hi : i + 6 ≤ L) (hI : Inv w) (hcs : cells ≤ 601024 ∧ slots ≤ 7293034) (hl : lv_has ls 7 [(4, .int (nI i)), (3, .ref q3), (2, .ref (ad 12 0)), (1, .ref (ad 11 0)), (0, .ref b)]) (hT : lw_S s D cA ad q3 g w H locs) (kk : ∀ (w2 : nc_H) (H1 : Heap) (locs1 : List Loc), Inv w2 → lw_S s D cA ad q3 g w2 H1 locs1 → W p l e room_1 s m #[Value.ref b] below meth c H1 locs1 cells slots Q (F0 m 1316 ls [])) : W p l e room_1 s m #[Value.ref b] below meth c H locs cells slots Q (F0 m 1067 ls []) := by
  have C0 := C
  obtain ⟨⟨hx, hb, hr, hml, hown, hts, hX, hbl, hlocks, hgv⟩, hK, hStr⟩ := C0
  have hbA : ¬ lw_A s b := Nat.not_le.mpr hbl
  have h1 : vp_in (nI i + 1) L := lw_in (k := 1) (by omega) hL
  have h2 : vp_in (nI i + 2) L := lw_in (k := 2) (by omega) hL
  obtain ⟨r, w1, w2, e1, e2, hI2⟩ := op_drawn hI (xs (nI i + 1).toNatClampNeg) (xs (nI i + 2).toNatClampNeg)
  refine lv_aload_n hx hb (show decode code 1067 = .ok (.aload_n 1, 1) by decide +kernel) rfl (lv_at hl 3 rfl) ?_
  refine lv_aload_n hx hb (show decode code 1068 = .ok (.aload_n 0, 1) by decide +kernel) rfl (lv_at hl 4 rfl) ?_
  refine lv_iload hx hb (show decode code 1069 = .ok (.iload 4, 2) by decide +kernel) (lv_at hl 0 rfl) ?_
  refine lv_iconst (v := 1) hx hb (show decode code 1071 = .ok (.iconst 1, 1) by decide +kernel) (by decide) ?_
  refine lv_iadd hx hb (show decode code 1072 = .ok (.iadd, 1) by decide +kernel) ?_
  refine va_sld hx hb hX hbl hbA hT.2.2 h1 (show decode code 1073 = .ok (.iaload, 1) by decide +kernel) ?_
  refine lv_aload_n hx hb (show decode code 1074 = .ok (.aload_n 0, 1) by decide +kernel) rfl (lv_at hl 4 rfl) ?_
  refine lv_iload hx hb (show decode code 1075 = .ok (.iload 4, 2) by decide +kernel) (lv_at hl 0 rfl) ?_
  refine lv_iconst (v := 2) hx hb (show decode code 1077 = .ok (.iconst 2, 1) by decide +kernel) (by decide) ?_
  refine lv_iadd hx hb (show decode code 1078 = .ok (.iadd, 1) by decide +kernel) ?_
  refine va_sld hx hb hX hbl hbA hT.2.2 h2 (show decode code 1079 = .ok (.iaload, 1) by decide +kernel) ?_
  refine lw_call l C (o := (11, 0)) (is := [(xs (nI i + 1).toNatClampNeg), (xs (nI i + 2).toNatClampNeg)]) (rest := []) e1 (by decide) (nc_at_in (p := (5, 211)) rfl rfl) rfl rfl rfl rfl (show decode code 1080 = .ok (.invokevirtual 146, 3) by decide +kernel) hl.1 rfl (Nat.le_of_ble_eq_true rfl) hcs hT (fun H locs hT => ?_)
  refine lv_aload_n hx hb (show decode code 1083 = .ok (.aload_n 2, 1) by decide +kernel) rfl (lv_at hl 2 rfl) ?_
  refine lv_aload_n hx hb (show decode code 1084 = .ok (.aload_n 0, 1) by decide +kernel) rfl (lv_at hl 4 rfl) ?_
  refine lv_iload hx hb (show decode code 1085 = .ok (.iload 4, 2) by decide +kernel) (lv_at hl 0 rfl) ?_
  refine lv_iconst (v := 1) hx hb (show decode code 1087 = .ok (.iconst 1, 1) by decide +kernel) (by decide) ?_
  refine lv_iadd hx hb (show decode code 1088 = .ok (.iadd, 1) by decide +kernel) ?_
  refine va_sld hx hb hX hbl hbA hT.2.2 h1 (show decode code 1089 = .ok (.iaload, 1) by decide +kernel) ?_
  refine lv_aload_n hx hb (show decode code 1090 = .ok (.aload_n 0, 1) by decide +kernel) rfl (lv_at hl 4 rfl) ?_
  refine lv_iload hx hb (show decode code 1091 = .ok (.iload 4, 2) by decide +kernel) (lv_at hl 0 rfl) ?_
  refine lv_iconst (v := 2) hx hb (show decode code 1093 = .ok (.iconst 2, 1) by decide +kernel) (by decide) ?_
  refine lv_iadd hx hb (show decode code 1094 = .ok (.iadd, 1) by decide +kernel) ?_
  refine va_sld hx hb hX hbl hbA hT.2.2 h2 (show decode code 1095 = .ok (.iaload, 1) by decide +kernel) ?_
  refine lw_call l C (o := (12, 0)) (is := [(xs (nI i + 1).toNatClampNeg), (xs (nI i + 2).toNatClampNeg)]) (rest := [.int r]) e2 (by decide) (nc_at_in (p := (9, 18)) rfl rfl) rfl rfl rfl rfl (show decode code 1096 = .ok (.invokevirtual 149, 3) by decide +kernel) hl.1 rfl (Nat.le_of_ble_eq_true rfl) hcs hT (fun H locs hT => ?_)
  refine lv_icmp_eq (tgt := 1316) hx hb (show decode code 1099 = .ok (.if_icmp .eq 217, 3) by decide +kernel) (by decide) (fun _ => kk _ _ _ hI2 hT) (fun q9 => absurd rfl q9)
set_option maxRecDepth 100000 in
set_option maxHeartbeats 4000000 in
theorem lw_k30 (l : Launch) {p : Program} {e : Env} {s : State} {m : MethodId} {below : List Frame} {meth : Method} {c : Code} {b L : Nat} {xs : Nat → Int32} {D : va_G} {cA : Nat → ClassId} {ad : Nat → Nat → Nat} (hL : L ≤ 3072) (C : lw_C p s m meth c b L xs D cA ad) {q3 : Nat} {g : Nat → Int64} {w : nc_H} {H : Heap} {locs : List Loc} {cells slots : Nat} {ls : Array Slot} {Q : State → Prop} {i : Nat} (hi : i + 6 ≤ L) (hI : Inv w) (hcs : cells ≤ 601024 ∧ slots ≤ 7293034) (hl : lv_has ls 7 [(4, .int (nI i)), (3, .ref q3), (2, .ref (ad 12 0)), (1, .ref (ad 11 0)), (0, .ref b)]) (hT : lw_S s D cA ad q3 g w H locs) (kk : ∀ (w2 : nc_H) (H1 : Heap) (locs1 : List Loc), Inv w2 → lw_S s D cA ad q3 g w2 H1 locs1 → W p l e room_1 s m #[Value.ref b] below meth c H1 locs1 cells slots Q (F0 m 1316 ls [])) : W p l e room_1 s m #[Value.ref b] below meth c H locs cells slots Q (F0 m 1104 ls []) := by
  have C0 := C
  obtain ⟨⟨hx, hb, hr, hml, hown, hts, hX, hbl, hlocks, hgv⟩, hK, hStr⟩ := C0
  have hbA : ¬ lw_A s b := Nat.not_le.mpr hbl
  have h1 : vp_in (nI i + 1) L := lw_in (k := 1) (by omega) hL
  have h2 : vp_in (nI i + 2) L := lw_in (k := 2) (by omega) hL
  have h3 : vp_in (nI i + 3) L := lw_in (k := 3) (by omega) hL
  obtain ⟨r, w1, w2, e1, e2, hI2⟩ := op_odds hI (xs (nI i + 1).toNatClampNeg) (xs (nI i + 2).toNatClampNeg) (xs (nI i + 3).toNatClampNeg)
  refine lv_aload_n hx hb (show decode code 1104 = .ok (.aload_n 1, 1) by decide +kernel) rfl (lv_at hl 3 rfl) ?_
  refine lv_aload_n hx hb (show decode code 1105 = .ok (.aload_n 0, 1) by decide +kernel) rfl (lv_at hl 4 rfl) ?_
  refine lv_iload hx hb (show decode code 1106 = .ok (.iload 4, 2) by decide +kernel) (lv_at hl 0 rfl) ?_
  refine lv_iconst (v := 1) hx hb (show decode code 1108 = .ok (.iconst 1, 1) by decide +kernel) (by decide) ?_
  refine lv_iadd hx hb (show decode code 1109 = .ok (.iadd, 1) by decide +kernel) ?_
  refine va_sld hx hb hX hbl hbA hT.2.2 h1 (show decode code 1110 = .ok (.iaload, 1) by decide +kernel) ?_
  refine lv_aload_n hx hb (show decode code 1111 = .ok (.aload_n 0, 1) by decide +kernel) rfl (lv_at hl 4 rfl) ?_
  refine lv_iload hx hb (show decode code 1112 = .ok (.iload 4, 2) by decide +kernel) (lv_at hl 0 rfl) ?_
  refine lv_iconst (v := 2) hx hb (show decode code 1114 = .ok (.iconst 2, 1) by decide +kernel) (by decide) ?_
  refine lv_iadd hx hb (show decode code 1115 = .ok (.iadd, 1) by decide +kernel) ?_
  refine va_sld hx hb hX hbl hbA hT.2.2 h2 (show decode code 1116 = .ok (.iaload, 1) by decide +kernel) ?_
  refine lv_aload_n hx hb (show decode code 1117 = .ok (.aload_n 0, 1) by decide +kernel) rfl (lv_at hl 4 rfl) ?_
  refine lv_iload hx hb (show decode code 1118 = .ok (.iload 4, 2) by decide +kernel) (lv_at hl 0 rfl) ?_
  refine lv_iconst (v := 3) hx hb (show decode code 1120 = .ok (.iconst 3, 1) by decide +kernel) (by decide) ?_
  refine lv_iadd hx hb (show decode code 1121 = .ok (.iadd, 1) by decide +kernel) ?_
  refine va_sld hx hb hX hbl hbA hT.2.2 h3 (show decode code 1122 = .ok (.iaload, 1) by decide +kernel) ?_
  refine lw_call l C (o := (11, 0)) (is := [(xs (nI i + 1).toNatClampNeg), (xs (nI i + 2).toNatClampNeg), (xs (nI i + 3).toNatClampNeg)]) (rest := []) e1 (by decide) (nc_at_in (p := (5, 228)) rfl rfl) rfl rfl rfl rfl (show decode code 1123 = .ok (.invokevirtual 150, 3) by decide +kernel) hl.1 rfl (Nat.le_of_ble_eq_true rfl) hcs hT (fun H locs hT => ?_)
  refine lv_aload_n hx hb (show decode code 1126 = .ok (.aload_n 2, 1) by decide +kernel) rfl (lv_at hl 2 rfl) ?_
  refine lv_aload_n hx hb (show decode code 1127 = .ok (.aload_n 0, 1) by decide +kernel) rfl (lv_at hl 4 rfl) ?_
  refine lv_iload hx hb (show decode code 1128 = .ok (.iload 4, 2) by decide +kernel) (lv_at hl 0 rfl) ?_
  refine lv_iconst (v := 1) hx hb (show decode code 1130 = .ok (.iconst 1, 1) by decide +kernel) (by decide) ?_
  refine lv_iadd hx hb (show decode code 1131 = .ok (.iadd, 1) by decide +kernel) ?_
  refine va_sld hx hb hX hbl hbA hT.2.2 h1 (show decode code 1132 = .ok (.iaload, 1) by decide +kernel) ?_
  refine lv_aload_n hx hb (show decode code 1133 = .ok (.aload_n 0, 1) by decide +kernel) rfl (lv_at hl 4 rfl) ?_
  refine lv_iload hx hb (show decode code 1134 = .ok (.iload 4, 2) by decide +kernel) (lv_at hl 0 rfl) ?_
  refine lv_iconst (v := 2) hx hb (show decode code 1136 = .ok (.iconst 2, 1) by decide +kernel) (by decide) ?_
  refine lv_iadd hx hb (show decode code 1137 = .ok (.iadd, 1) by decide +kernel) ?_
  refine va_sld hx hb hX hbl hbA hT.2.2 h2 (show decode code 1138 = .ok (.iaload, 1) by decide +kernel) ?_
  refine lv_aload_n hx hb (show decode code 1139 = .ok (.aload_n 0, 1) by decide +kernel) rfl (lv_at hl 4 rfl) ?_
  refine lv_iload hx hb (show decode code 1140 = .ok (.iload 4, 2) by decide +kernel) (lv_at hl 0 rfl) ?_
  refine lv_iconst (v := 3) hx hb (show decode code 1142 = .ok (.iconst 3, 1) by decide +kernel) (by decide) ?_
  refine lv_iadd hx hb (show decode code 1143 = .ok (.iadd, 1) by decide +kernel) ?_
  refine va_sld hx hb hX hbl hbA hT.2.2 h3 (show decode code 1144 = .ok (.iaload, 1) by decide +kernel) ?_
  refine lw_call l C (o := (12, 0)) (is := [(xs (nI i + 1).toNatClampNeg), (xs (nI i + 2).toNatClampNeg), (xs (nI i + 3).toNatClampNeg)]) (rest := [.int r]) e2 (by decide) (nc_at_in (p := (9, 31)) rfl rfl) rfl rfl rfl rfl (show decode code 1145 = .ok (.invokevirtual 154, 3) by decide +kernel) hl.1 rfl (Nat.le_of_ble_eq_true rfl) hcs hT (fun H locs hT => ?_)
  refine lv_icmp_eq (tgt := 1316) hx hb (show decode code 1148 = .ok (.if_icmp .eq 168, 3) by decide +kernel) (by decide) (fun _ => kk _ _ _ hI2 hT) (fun q9 => absurd rfl q9)
set_option maxRecDepth 100000 in
set_option maxHeartbeats 4000000 in
theorem lw_k31 (l : Launch) {p : Program} {e : Env} {s : State} {m : MethodId} {below : List Frame} {meth : Method} {c : Code} {b L : Nat} {xs : Nat → Int32} {D : va_G} {cA : Nat → ClassId} {ad : Nat → Nat → Nat} (hL : L ≤ 3072) (C : lw_C p s m meth c b L xs D cA ad) {q3 : Nat} {g : Nat → Int64} {w : nc_H} {H : Heap} {locs : List Loc} {cells slots : Nat} {ls : Array Slot} {Q : State → Prop} {i : Nat} (hi : i + 6 ≤ L) (hI : Inv w) (hcs : cells ≤ 601024 ∧ slots ≤ 7293034) (hl : lv_has ls 7 [(4, .int (nI i)), (3, .ref q3), (2, .ref (ad 12 0)), (1, .ref (ad 11 0)), (0, .ref b)]) (hT : lw_S s D cA ad q3 g w H locs) (kk : ∀ (w2 : nc_H) (H1 : Heap) (locs1 : List Loc), Inv w2 → lw_S s D cA ad q3 g w2 H1 locs1 → W p l e room_1 s m #[Value.ref b] below meth c H1 locs1 cells slots Q (F0 m 1316 ls [])) : W p l e room_1 s m #[Value.ref b] below meth c H locs cells slots Q (F0 m 1153 ls []) := by
  have C0 := C
  obtain ⟨⟨hx, hb, hr, hml, hown, hts, hX, hbl, hlocks, hgv⟩, hK, hStr⟩ := C0
  have hbA : ¬ lw_A s b := Nat.not_le.mpr hbl
  have h1 : vp_in (nI i + 1) L := lw_in (k := 1) (by omega) hL
  obtain ⟨r, w1, w2, e1, e2, hI2⟩ := op_book hI (xs (nI i + 1).toNatClampNeg)
  refine lv_aload_n hx hb (show decode code 1153 = .ok (.aload_n 1, 1) by decide +kernel) rfl (lv_at hl 3 rfl) ?_
  refine lv_aload_n hx hb (show decode code 1154 = .ok (.aload_n 0, 1) by decide +kernel) rfl (lv_at hl 4 rfl) ?_
  refine lv_iload hx hb (show decode code 1155 = .ok (.iload 4, 2) by decide +kernel) (lv_at hl 0 rfl) ?_
  refine lv_iconst (v := 1) hx hb (show decode code 1157 = .ok (.iconst 1, 1) by decide +kernel) (by decide) ?_
  refine lv_iadd hx hb (show decode code 1158 = .ok (.iadd, 1) by decide +kernel) ?_
  refine va_sld hx hb hX hbl hbA hT.2.2 h1 (show decode code 1159 = .ok (.iaload, 1) by decide +kernel) ?_
  refine lw_call l C (o := (11, 0)) (is := [(xs (nI i + 1).toNatClampNeg)]) (rest := []) e1 (by decide) (nc_at_in (p := (5, 236)) rfl rfl) rfl rfl rfl rfl (show decode code 1160 = .ok (.invokevirtual 155, 3) by decide +kernel) hl.1 rfl (Nat.le_of_ble_eq_true rfl) hcs hT (fun H locs hT => ?_)
  refine lv_aload_n hx hb (show decode code 1163 = .ok (.aload_n 2, 1) by decide +kernel) rfl (lv_at hl 2 rfl) ?_
  refine lv_aload_n hx hb (show decode code 1164 = .ok (.aload_n 0, 1) by decide +kernel) rfl (lv_at hl 4 rfl) ?_
  refine lv_iload hx hb (show decode code 1165 = .ok (.iload 4, 2) by decide +kernel) (lv_at hl 0 rfl) ?_
  refine lv_iconst (v := 1) hx hb (show decode code 1167 = .ok (.iconst 1, 1) by decide +kernel) (by decide) ?_
  refine lv_iadd hx hb (show decode code 1168 = .ok (.iadd, 1) by decide +kernel) ?_
  refine va_sld hx hb hX hbl hbA hT.2.2 h1 (show decode code 1169 = .ok (.iaload, 1) by decide +kernel) ?_
  refine lw_call l C (o := (12, 0)) (is := [(xs (nI i + 1).toNatClampNeg)]) (rest := [.int r]) e2 (by decide) (nc_at_in (p := (9, 35)) rfl rfl) rfl rfl rfl rfl (show decode code 1170 = .ok (.invokevirtual 158, 3) by decide +kernel) hl.1 rfl (Nat.le_of_ble_eq_true rfl) hcs hT (fun H locs hT => ?_)
  refine lv_icmp_eq (tgt := 1316) hx hb (show decode code 1173 = .ok (.if_icmp .eq 143, 3) by decide +kernel) (by decide) (fun _ => kk _ _ _ hI2 hT) (fun q9 => absurd rfl q9)
set_option maxRecDepth 100000 in
set_option maxHeartbeats 4000000 in
theorem lw_k32 (l : Launch) {p : Program} {e : Env} {s : State} {m : MethodId} {below : List Frame} {meth : Method} {c : Code} {b L : Nat} {xs : Nat → Int32} {D : va_G} {cA : Nat → ClassId} {ad : Nat → Nat → Nat} (hL : L ≤ 3072) (C : lw_C p s m meth c b L xs D cA ad) {q3 : Nat} {g : Nat → Int64} {w : nc_H} {H : Heap} {locs : List Loc} {cells slots : Nat} {ls : Array Slot} {Q : State → Prop} {i : Nat} (hi : i + 6 ≤ L) (hI : Inv w) (hcs : cells ≤ 601024 ∧ slots ≤ 7293034) (hl : lv_has ls 7 [(4, .int (nI i)), (3, .ref q3), (2, .ref (ad 12 0)), (1, .ref (ad 11 0)), (0, .ref b)]) (hT : lw_S s D cA ad q3 g w H locs) (kk : ∀ (w2 : nc_H) (H1 : Heap) (locs1 : List Loc), Inv w2 → lw_S s D cA ad q3 g w2 H1 locs1 → W p l e room_1 s m #[Value.ref b] below meth c H1 locs1 cells slots Q (F0 m 1316 ls [])) : W p l e room_1 s m #[Value.ref b] below meth c H locs cells slots Q (F0 m 1178 ls []) := by
  have C0 := C
  obtain ⟨⟨hx, hb, hr, hml, hown, hts, hX, hbl, hlocks, hgv⟩, hK, hStr⟩ := C0
  have hbA : ¬ lw_A s b := Nat.not_le.mpr hbl
  have h1 : vp_in (nI i + 1) L := lw_in (k := 1) (by omega) hL
  obtain ⟨r, w1, w2, e1, e2, hI2⟩ := op_written hI (xs (nI i + 1).toNatClampNeg)
  refine lv_aload_n hx hb (show decode code 1178 = .ok (.aload_n 1, 1) by decide +kernel) rfl (lv_at hl 3 rfl) ?_
  refine lv_aload_n hx hb (show decode code 1179 = .ok (.aload_n 0, 1) by decide +kernel) rfl (lv_at hl 4 rfl) ?_
  refine lv_iload hx hb (show decode code 1180 = .ok (.iload 4, 2) by decide +kernel) (lv_at hl 0 rfl) ?_
  refine lv_iconst (v := 1) hx hb (show decode code 1182 = .ok (.iconst 1, 1) by decide +kernel) (by decide) ?_
  refine lv_iadd hx hb (show decode code 1183 = .ok (.iadd, 1) by decide +kernel) ?_
  refine va_sld hx hb hX hbl hbA hT.2.2 h1 (show decode code 1184 = .ok (.iaload, 1) by decide +kernel) ?_
  refine lw_call l C (o := (11, 0)) (is := [(xs (nI i + 1).toNatClampNeg)]) (rest := []) e1 (by decide) (nc_at_in (p := (6, 33)) rfl rfl) rfl rfl rfl rfl (show decode code 1185 = .ok (.invokevirtual 159, 3) by decide +kernel) hl.1 rfl (Nat.le_of_ble_eq_true rfl) hcs hT (fun H locs hT => ?_)
  refine lv_aload_n hx hb (show decode code 1188 = .ok (.aload_n 2, 1) by decide +kernel) rfl (lv_at hl 2 rfl) ?_
  refine lv_aload_n hx hb (show decode code 1189 = .ok (.aload_n 0, 1) by decide +kernel) rfl (lv_at hl 4 rfl) ?_
  refine lv_iload hx hb (show decode code 1190 = .ok (.iload 4, 2) by decide +kernel) (lv_at hl 0 rfl) ?_
  refine lv_iconst (v := 1) hx hb (show decode code 1192 = .ok (.iconst 1, 1) by decide +kernel) (by decide) ?_
  refine lv_iadd hx hb (show decode code 1193 = .ok (.iadd, 1) by decide +kernel) ?_
  refine va_sld hx hb hX hbl hbA hT.2.2 h1 (show decode code 1194 = .ok (.iaload, 1) by decide +kernel) ?_
  refine lw_call l C (o := (12, 0)) (is := [(xs (nI i + 1).toNatClampNeg)]) (rest := [.int r]) e2 (by decide) (nc_at_in (p := (9, 47)) rfl rfl) rfl rfl rfl rfl (show decode code 1195 = .ok (.invokevirtual 162, 3) by decide +kernel) hl.1 rfl (Nat.le_of_ble_eq_true rfl) hcs hT (fun H locs hT => ?_)
  refine lv_icmp_eq (tgt := 1316) hx hb (show decode code 1198 = .ok (.if_icmp .eq 118, 3) by decide +kernel) (by decide) (fun _ => kk _ _ _ hI2 hT) (fun q9 => absurd rfl q9)
set_option maxRecDepth 100000 in
set_option maxHeartbeats 4000000 in
theorem lw_k33 (l : Launch) {p : Program} {e : Env} {s : State} {m : MethodId} {below : List Frame} {meth : Method} {c : Code} {b L : Nat} {xs : Nat → Int32} {D : va_G} {cA : Nat → ClassId} {ad : Nat → Nat → Nat} (hL : L ≤ 3072) (C : lw_C p s m meth c b L xs D cA ad) {q3 : Nat} {g : Nat → Int64} {w : nc_H} {H : Heap} {locs : List Loc} {cells slots : Nat} {ls : Array Slot} {Q : State → Prop} {i : Nat} (hi : i + 6 ≤ L) (hI : Inv w) (hcs : cells ≤ 601024 ∧ slots ≤ 7293034) (hl : lv_has ls 7 [(4, .int (nI i)), (3, .ref q3), (2, .ref (ad 12 0)), (1, .ref (ad 11 0)), (0, .ref b)]) (hT : lw_S s D cA ad q3 g w H locs) (kk : ∀ (w2 : nc_H) (H1 : Heap) (locs1 : List Loc), Inv w2 → lw_S s D cA ad q3 g w2 H1 locs1 → W p l e room_1 s m #[Value.ref b] below meth c H1 locs1 cells slots Q (F0 m 1316 ls [])) : W p l e room_1 s m #[Value.ref b] below meth c H locs cells slots Q (F0 m 1203 ls []) := by
  have C0 := C
  obtain ⟨⟨hx, hb, hr, hml, hown, hts, hX, hbl, hlocks, hgv⟩, hK, hStr⟩ := C0
  have hbA : ¬ lw_A s b := Nat.not_le.mpr hbl
  obtain ⟨r, w1, w2, e1, e2, hI2⟩ := op_sentence hI 
  refine lv_aload_n hx hb (show decode code 1203 = .ok (.aload_n 1, 1) by decide +kernel) rfl (lv_at hl 3 rfl) ?_
  refine lw_call l C (o := (11, 0)) (is := []) (rest := []) e1 (by decide) (nc_at_in (p := (6, 37)) rfl rfl) rfl rfl rfl rfl (show decode code 1204 = .ok (.invokevirtual 163, 3) by decide +kernel) hl.1 rfl (Nat.le_of_ble_eq_true rfl) hcs hT (fun H locs hT => ?_)
  refine lv_aload_n hx hb (show decode code 1207 = .ok (.aload_n 2, 1) by decide +kernel) rfl (lv_at hl 2 rfl) ?_
  refine lw_call l C (o := (12, 0)) (is := []) (rest := [.int r]) e2 (by decide) (nc_at_in (p := (9, 51)) rfl rfl) rfl rfl rfl rfl (show decode code 1208 = .ok (.invokevirtual 166, 3) by decide +kernel) hl.1 rfl (Nat.le_of_ble_eq_true rfl) hcs hT (fun H locs hT => ?_)
  refine lv_icmp_eq (tgt := 1316) hx hb (show decode code 1211 = .ok (.if_icmp .eq 105, 3) by decide +kernel) (by decide) (fun _ => kk _ _ _ hI2 hT) (fun q9 => absurd rfl q9)
set_option maxRecDepth 100000 in
set_option maxHeartbeats 4000000 in
theorem lw_k34 (l : Launch) {p : Program} {e : Env} {s : State} {m : MethodId} {below : List Frame} {meth : Method} {c : Code} {b L : Nat} {xs : Nat → Int32} {D : va_G} {cA : Nat → ClassId} {ad : Nat → Nat → Nat} (hL : L ≤ 3072) (C : lw_C p s m meth c b L xs D cA ad) {q3 : Nat} {g : Nat → Int64} {w : nc_H} {H : Heap} {locs : List Loc} {cells slots : Nat} {ls : Array Slot} {Q : State → Prop} {i : Nat} (hi : i + 6 ≤ L) (hI : Inv w) (hcs : cells ≤ 601024 ∧ slots ≤ 7293034) (hl : lv_has ls 7 [(4, .int (nI i)), (3, .ref q3), (2, .ref (ad 12 0)), (1, .ref (ad 11 0)), (0, .ref b)]) (hT : lw_S s D cA ad q3 g w H locs) (kk : ∀ (w2 : nc_H) (H1 : Heap) (locs1 : List Loc), Inv w2 → lw_S s D cA ad q3 g w2 H1 locs1 → W p l e room_1 s m #[Value.ref b] below meth c H1 locs1 cells slots Q (F0 m 1316 ls [])) : W p l e room_1 s m #[Value.ref b] below meth c H locs cells slots Q (F0 m 1216 ls []) := by
  have C0 := C
  obtain ⟨⟨hx, hb, hr, hml, hown, hts, hX, hbl, hlocks, hgv⟩, hK, hStr⟩ := C0
  have hbA : ¬ lw_A s b := Nat.not_le.mpr hbl
  have h1 : vp_in (nI i + 1) L := lw_in (k := 1) (by omega) hL
  obtain ⟨r, w1, w2, e1, e2, hI2⟩ := op_said hI (xs (nI i + 1).toNatClampNeg)
  refine lv_aload_n hx hb (show decode code 1216 = .ok (.aload_n 1, 1) by decide +kernel) rfl (lv_at hl 3 rfl) ?_
  refine lv_aload_n hx hb (show decode code 1217 = .ok (.aload_n 0, 1) by decide +kernel) rfl (lv_at hl 4 rfl) ?_
  refine lv_iload hx hb (show decode code 1218 = .ok (.iload 4, 2) by decide +kernel) (lv_at hl 0 rfl) ?_
  refine lv_iconst (v := 1) hx hb (show decode code 1220 = .ok (.iconst 1, 1) by decide +kernel) (by decide) ?_
  refine lv_iadd hx hb (show decode code 1221 = .ok (.iadd, 1) by decide +kernel) ?_
  refine va_sld hx hb hX hbl hbA hT.2.2 h1 (show decode code 1222 = .ok (.iaload, 1) by decide +kernel) ?_
  refine lw_call l C (o := (11, 0)) (is := [(xs (nI i + 1).toNatClampNeg)]) (rest := []) e1 (by decide) (nc_at_in (p := (6, 80)) rfl rfl) rfl rfl rfl rfl (show decode code 1223 = .ok (.invokevirtual 167, 3) by decide +kernel) hl.1 rfl (Nat.le_of_ble_eq_true rfl) hcs hT (fun H locs hT => ?_)
  refine lv_aload_n hx hb (show decode code 1226 = .ok (.aload_n 2, 1) by decide +kernel) rfl (lv_at hl 2 rfl) ?_
  refine lv_aload_n hx hb (show decode code 1227 = .ok (.aload_n 0, 1) by decide +kernel) rfl (lv_at hl 4 rfl) ?_
  refine lv_iload hx hb (show decode code 1228 = .ok (.iload 4, 2) by decide +kernel) (lv_at hl 0 rfl) ?_
  refine lv_iconst (v := 1) hx hb (show decode code 1230 = .ok (.iconst 1, 1) by decide +kernel) (by decide) ?_
  refine lv_iadd hx hb (show decode code 1231 = .ok (.iadd, 1) by decide +kernel) ?_
  refine va_sld hx hb hX hbl hbA hT.2.2 h1 (show decode code 1232 = .ok (.iaload, 1) by decide +kernel) ?_
  refine lw_call l C (o := (12, 0)) (is := [(xs (nI i + 1).toNatClampNeg)]) (rest := [.int r]) e2 (by decide) (nc_at_in (p := (9, 79)) rfl rfl) rfl rfl rfl rfl (show decode code 1233 = .ok (.invokevirtual 170, 3) by decide +kernel) hl.1 rfl (Nat.le_of_ble_eq_true rfl) hcs hT (fun H locs hT => ?_)
  refine lv_icmp_eq (tgt := 1316) hx hb (show decode code 1236 = .ok (.if_icmp .eq 80, 3) by decide +kernel) (by decide) (fun _ => kk _ _ _ hI2 hT) (fun q9 => absurd rfl q9)
set_option maxRecDepth 100000 in
set_option maxHeartbeats 4000000 in
theorem lw_k35 (l : Launch) {p : Program} {e : Env} {s : State} {m : MethodId} {below : List Frame} {meth : Method} {c : Code} {b L : Nat} {xs : Nat → Int32} {D : va_G} {cA : Nat → ClassId} {ad : Nat → Nat → Nat} (hL : L ≤ 3072) (C : lw_C p s m meth c b L xs D cA ad) {q3 : Nat} {g : Nat → Int64} {w : nc_H} {H : Heap} {locs : List Loc} {cells slots : Nat} {ls : Array Slot} {Q : State → Prop} {i : Nat} (hi : i + 6 ≤ L) (hI : Inv w) (hcs : cells ≤ 601024 ∧ slots ≤ 7293034) (hl : lv_has ls 7 [(4, .int (nI i)), (3, .ref q3), (2, .ref (ad 12 0)), (1, .ref (ad 11 0)), (0, .ref b)]) (hT : lw_S s D cA ad q3 g w H locs) (kk : ∀ (w2 : nc_H) (H1 : Heap) (locs1 : List Loc), Inv w2 → lw_S s D cA ad q3 g w2 H1 locs1 → W p l e room_1 s m #[Value.ref b] below meth c H1 locs1 cells slots Q (F0 m 1316 ls [])) : W p l e room_1 s m #[Value.ref b] below meth c H locs cells slots Q (F0 m 1241 ls []) := by
  have C0 := C
  obtain ⟨⟨hx, hb, hr, hml, hown, hts, hX, hbl, hlocks, hgv⟩, hK, hStr⟩ := C0
  have hbA : ¬ lw_A s b := Nat.not_le.mpr hbl
  have h1 : vp_in (nI i + 1) L := lw_in (k := 1) (by omega) hL
  obtain ⟨r, w1, w2, e1, e2, hI2⟩ := op_image hI (xs (nI i + 1).toNatClampNeg)
  refine lv_aload_n hx hb (show decode code 1241 = .ok (.aload_n 1, 1) by decide +kernel) rfl (lv_at hl 3 rfl) ?_
  refine lv_aload_n hx hb (show decode code 1242 = .ok (.aload_n 0, 1) by decide +kernel) rfl (lv_at hl 4 rfl) ?_
  refine lv_iload hx hb (show decode code 1243 = .ok (.iload 4, 2) by decide +kernel) (lv_at hl 0 rfl) ?_
  refine lv_iconst (v := 1) hx hb (show decode code 1245 = .ok (.iconst 1, 1) by decide +kernel) (by decide) ?_
  refine lv_iadd hx hb (show decode code 1246 = .ok (.iadd, 1) by decide +kernel) ?_
  refine va_sld hx hb hX hbl hbA hT.2.2 h1 (show decode code 1247 = .ok (.iaload, 1) by decide +kernel) ?_
  refine lw_call l C (o := (11, 0)) (is := [(xs (nI i + 1).toNatClampNeg)]) (rest := []) e1 (by decide) (nc_at_in (p := (6, 99)) rfl rfl) rfl rfl rfl rfl (show decode code 1248 = .ok (.invokevirtual 171, 3) by decide +kernel) hl.1 rfl (Nat.le_of_ble_eq_true rfl) hcs hT (fun H locs hT => ?_)
  refine lv_aload_n hx hb (show decode code 1251 = .ok (.aload_n 2, 1) by decide +kernel) rfl (lv_at hl 2 rfl) ?_
  refine lv_aload_n hx hb (show decode code 1252 = .ok (.aload_n 0, 1) by decide +kernel) rfl (lv_at hl 4 rfl) ?_
  refine lv_iload hx hb (show decode code 1253 = .ok (.iload 4, 2) by decide +kernel) (lv_at hl 0 rfl) ?_
  refine lv_iconst (v := 1) hx hb (show decode code 1255 = .ok (.iconst 1, 1) by decide +kernel) (by decide) ?_
  refine lv_iadd hx hb (show decode code 1256 = .ok (.iadd, 1) by decide +kernel) ?_
  refine va_sld hx hb hX hbl hbA hT.2.2 h1 (show decode code 1257 = .ok (.iaload, 1) by decide +kernel) ?_
  refine lw_call l C (o := (12, 0)) (is := [(xs (nI i + 1).toNatClampNeg)]) (rest := [.int r]) e2 (by decide) (nc_at_in (p := (9, 91)) rfl rfl) rfl rfl rfl rfl (show decode code 1258 = .ok (.invokevirtual 174, 3) by decide +kernel) hl.1 rfl (Nat.le_of_ble_eq_true rfl) hcs hT (fun H locs hT => ?_)
  refine lv_icmp_eq (tgt := 1316) hx hb (show decode code 1261 = .ok (.if_icmp .eq 55, 3) by decide +kernel) (by decide) (fun _ => kk _ _ _ hI2 hT) (fun q9 => absurd rfl q9)
set_option maxRecDepth 100000 in
set_option maxHeartbeats 4000000 in
theorem lw_k36 (l : Launch) {p : Program} {e : Env} {s : State} {m : MethodId} {below : List Frame} {meth : Method} {c : Code} {b L : Nat} {xs : Nat → Int32} {D : va_G} {cA : Nat → ClassId} {ad : Nat → Nat → Nat} (hL : L ≤ 3072) (C : lw_C p s m meth c b L xs D cA ad) {q3 : Nat} {g : Nat → Int64} {w : nc_H} {H : Heap} {locs : List Loc} {cells slots : Nat} {ls : Array Slot} {Q : State → Prop} {i : Nat} (hi : i + 6 ≤ L) (hI : Inv w) (hcs : cells ≤ 601024 ∧ slots ≤ 7293034) (hl : lv_has ls 7 [(4, .int (nI i)), (3, .ref q3), (2, .ref (ad 12 0)), (1, .ref (ad 11 0)), (0, .ref b)]) (hT : lw_S s D cA ad q3 g w H locs) (kk : ∀ (w2 : nc_H) (H1 : Heap) (locs1 : List Loc), Inv w2 → lw_S s D cA ad q3 g w2 H1 locs1 → W p l e room_1 s m #[Value.ref b] below meth c H1 locs1 cells slots Q (F0 m 1316 ls [])) : W p l e room_1 s m #[Value.ref b] below meth c H locs cells slots Q (F0 m 1266 ls []) := by
  have C0 := C
  obtain ⟨⟨hx, hb, hr, hml, hown, hts, hX, hbl, hlocks, hgv⟩, hK, hStr⟩ := C0
  have hbA : ¬ lw_A s b := Nat.not_le.mpr hbl
  have h1 : vp_in (nI i + 1) L := lw_in (k := 1) (by omega) hL
  obtain ⟨r, w1, w2, e1, e2, hI2⟩ := op_restore hI (xs (nI i + 1).toNatClampNeg)
  refine lv_aload_n hx hb (show decode code 1266 = .ok (.aload_n 1, 1) by decide +kernel) rfl (lv_at hl 3 rfl) ?_
  refine lv_aload_n hx hb (show decode code 1267 = .ok (.aload_n 0, 1) by decide +kernel) rfl (lv_at hl 4 rfl) ?_
  refine lv_iload hx hb (show decode code 1268 = .ok (.iload 4, 2) by decide +kernel) (lv_at hl 0 rfl) ?_
  refine lv_iconst (v := 1) hx hb (show decode code 1270 = .ok (.iconst 1, 1) by decide +kernel) (by decide) ?_
  refine lv_iadd hx hb (show decode code 1271 = .ok (.iadd, 1) by decide +kernel) ?_
  refine va_sld hx hb hX hbl hbA hT.2.2 h1 (show decode code 1272 = .ok (.iaload, 1) by decide +kernel) ?_
  refine lw_call l C (o := (11, 0)) (is := [(xs (nI i + 1).toNatClampNeg)]) (rest := []) e1 (by decide) (nc_at_in (p := (6, 103)) rfl rfl) rfl rfl rfl rfl (show decode code 1273 = .ok (.invokevirtual 175, 3) by decide +kernel) hl.1 rfl (Nat.le_of_ble_eq_true rfl) hcs hT (fun H locs hT => ?_)
  refine lv_aload_n hx hb (show decode code 1276 = .ok (.aload_n 2, 1) by decide +kernel) rfl (lv_at hl 2 rfl) ?_
  refine lv_aload_n hx hb (show decode code 1277 = .ok (.aload_n 0, 1) by decide +kernel) rfl (lv_at hl 4 rfl) ?_
  refine lv_iload hx hb (show decode code 1278 = .ok (.iload 4, 2) by decide +kernel) (lv_at hl 0 rfl) ?_
  refine lv_iconst (v := 1) hx hb (show decode code 1280 = .ok (.iconst 1, 1) by decide +kernel) (by decide) ?_
  refine lv_iadd hx hb (show decode code 1281 = .ok (.iadd, 1) by decide +kernel) ?_
  refine va_sld hx hb hX hbl hbA hT.2.2 h1 (show decode code 1282 = .ok (.iaload, 1) by decide +kernel) ?_
  refine lw_call l C (o := (12, 0)) (is := [(xs (nI i + 1).toNatClampNeg)]) (rest := [.int r]) e2 (by decide) (nc_at_in (p := (9, 95)) rfl rfl) rfl rfl rfl rfl (show decode code 1283 = .ok (.invokevirtual 178, 3) by decide +kernel) hl.1 rfl (Nat.le_of_ble_eq_true rfl) hcs hT (fun H locs hT => ?_)
  refine lv_icmp_eq (tgt := 1316) hx hb (show decode code 1286 = .ok (.if_icmp .eq 30, 3) by decide +kernel) (by decide) (fun _ => kk _ _ _ hI2 hT) (fun q9 => absurd rfl q9)
set_option maxRecDepth 100000 in
set_option maxHeartbeats 4000000 in
theorem lw_k37 (l : Launch) {p : Program} {e : Env} {s : State} {m : MethodId} {below : List Frame} {meth : Method} {c : Code} {b L : Nat} {xs : Nat → Int32} {D : va_G} {cA : Nat → ClassId} {ad : Nat → Nat → Nat} (hL : L ≤ 3072) (C : lw_C p s m meth c b L xs D cA ad) {q3 : Nat} {g : Nat → Int64} {w : nc_H} {H : Heap} {locs : List Loc} {cells slots : Nat} {ls : Array Slot} {Q : State → Prop} {i : Nat} (hi : i + 6 ≤ L) (hI : Inv w) (hcs : cells ≤ 601024 ∧ slots ≤ 7293034) (hl : lv_has ls 7 [(4, .int (nI i)), (3, .ref q3), (2, .ref (ad 12 0)), (1, .ref (ad 11 0)), (0, .ref b)]) (hT : lw_S s D cA ad q3 g w H locs) (kk : ∀ (w2 : nc_H) (H1 : Heap) (locs1 : List Loc), Inv w2 → lw_S s D cA ad q3 g w2 H1 locs1 → W p l e room_1 s m #[Value.ref b] below meth c H1 locs1 cells slots Q (F0 m 1316 ls [])) : W p l e room_1 s m #[Value.ref b] below meth c H locs cells slots Q (F0 m 1291 ls []) := by
  have C0 := C
  obtain ⟨⟨hx, hb, hr, hml, hown, hts, hX, hbl, hlocks, hgv⟩, hK, hStr⟩ := C0
  have hbA : ¬ lw_A s b := Nat.not_le.mpr hbl
  have h1 : vp_in (nI i + 1) L := lw_in (k := 1) (by omega) hL
  obtain ⟨r, w1, w2, e1, e2, hI2⟩ := op_count hI (xs (nI i + 1).toNatClampNeg)
  refine lv_aload_n hx hb (show decode code 1291 = .ok (.aload_n 1, 1) by decide +kernel) rfl (lv_at hl 3 rfl) ?_
  refine lv_aload_n hx hb (show decode code 1292 = .ok (.aload_n 0, 1) by decide +kernel) rfl (lv_at hl 4 rfl) ?_
  refine lv_iload hx hb (show decode code 1293 = .ok (.iload 4, 2) by decide +kernel) (lv_at hl 0 rfl) ?_
  refine lv_iconst (v := 1) hx hb (show decode code 1295 = .ok (.iconst 1, 1) by decide +kernel) (by decide) ?_
  refine lv_iadd hx hb (show decode code 1296 = .ok (.iadd, 1) by decide +kernel) ?_
  refine va_sld hx hb hX hbl hbA hT.2.2 h1 (show decode code 1297 = .ok (.iaload, 1) by decide +kernel) ?_
  refine lw_call l C (o := (11, 0)) (is := [(xs (nI i + 1).toNatClampNeg)]) (rest := []) e1 (by decide) (nc_at_in (p := (6, 107)) rfl rfl) rfl rfl rfl rfl (show decode code 1298 = .ok (.invokevirtual 179, 3) by decide +kernel) hl.1 rfl (Nat.le_of_ble_eq_true rfl) hcs hT (fun H locs hT => ?_)
  refine lv_aload_n hx hb (show decode code 1301 = .ok (.aload_n 2, 1) by decide +kernel) rfl (lv_at hl 2 rfl) ?_
  refine lv_aload_n hx hb (show decode code 1302 = .ok (.aload_n 0, 1) by decide +kernel) rfl (lv_at hl 4 rfl) ?_
  refine lv_iload hx hb (show decode code 1303 = .ok (.iload 4, 2) by decide +kernel) (lv_at hl 0 rfl) ?_
  refine lv_iconst (v := 1) hx hb (show decode code 1305 = .ok (.iconst 1, 1) by decide +kernel) (by decide) ?_
  refine lv_iadd hx hb (show decode code 1306 = .ok (.iadd, 1) by decide +kernel) ?_
  refine va_sld hx hb hX hbl hbA hT.2.2 h1 (show decode code 1307 = .ok (.iaload, 1) by decide +kernel) ?_
  refine lw_call l C (o := (12, 0)) (is := [(xs (nI i + 1).toNatClampNeg)]) (rest := [.int r]) e2 (by decide) (nc_at_in (p := (9, 99)) rfl rfl) rfl rfl rfl rfl (show decode code 1308 = .ok (.invokevirtual 182, 3) by decide +kernel) hl.1 rfl (Nat.le_of_ble_eq_true rfl) hcs hT (fun H locs hT => ?_)
  refine lv_icmp_eq (tgt := 1316) hx hb (show decode code 1311 = .ok (.if_icmp .eq 5, 3) by decide +kernel) (by decide) (fun _ => kk _ _ _ hI2 hT) (fun q9 => absurd rfl q9)
