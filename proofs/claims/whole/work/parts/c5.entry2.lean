/-! THE LAW FROM ITS ENTRY, but for its two cases that may throw. -/
theorem gdc0 {y : MethodName} {cc : ByteArray} {n : Nat} {r : Option FieldType} (h : Cond.code y cc n r ∈ nc_tb) : GoodIn nc_tb (Cond.code y cc n r :: nc_tb) := by
  intro w hw
  have hm : w ∈ nc_tb := by
    rcases List.mem_cons.mp hw with e | e
    · rw [e]
      exact h
    · exact e
  exact ⟨hm, good_of_word (nc_good hm)⟩
set_option maxRecDepth 100000 in
set_option maxHeartbeats 4000000 in
theorem lw_start {p : Program} {e : Env} {s : State} {m : MethodId} {below : List Frame} {meth : Method} {c : Code} (l : Launch) {b L : Nat} {xs : Nat → Int32} (hL : L ≤ 3072) (C0 : lw_At p s m meth c b L xs) (hTC : ∀ (D : va_G) (cA : Nat → ClassId) (ad : Nat → Nat → Nat) (q3 : Nat), lw_C p s m meth c b L xs D cA ad → lw_TC l p e s m below meth c b L xs D cA ad q3 332 ∧ lw_TC l p e s m below meth c b L xs D cA ad q3 437) : W p l e room_1 s m #[Value.ref b] below meth c s.heap [] 0 0 (lw_Z below #[Value.ref b] s) (entryFrame m ([Value.ref b] : List Value).toArray 7) := by
  obtain ⟨hx, hb, hr, hml, hown, hts, hX, hbl, hlocks, hgv⟩ := id C0
  have hts' : ∀ w ∈ nc_tb, w.before #[Value.ref b] s = true := fun w h => hts w (nc_tb_in h)
  obtain ⟨D, cA, hK⟩ := st_K hts
  have hN := st_N hts
  have hAO := st_AO hts
  have hZ := st_Z hts hgv
  have hQ := st_Q hts hgv
  obtain ⟨a, v, hR, hS0⟩ := st_t32 hts hgv
  obtain ⟨a8, v8, hR8, hS8⟩ := st_t88 hts hgv
  have hA : ∀ q : Nat, s.heap.size ≤ q → lw_A s q := fun _ h => h
  have hS : va_S (lw_A s) s.heap s.heap [] := va_S.rf
  have hP : va_P D nc_cl [] s.heap := fun k q h => by simp at h
  have hD : va_D (lw_A s) [] := ⟨fun i j p q h => by simp at h, fun k q h => by simp at h⟩
  have hl := lv_entry ([.ref b]) (n := 7) (Nat.le_of_ble_eq_true rfl)
  rw [lg_entry_eq]
  generalize (lg_sl ([.ref b]) ++ List.replicate (7 - (lg_sl ([.ref b])).length) Slot.unset).toArray = ls at hl ⊢
  have hl : lv_has ls 7 [(0, .ref b)] := hl
  refine va_new (ci := 11) (fs := [.null, .null, .null, .null, .null, .null, .null, .null, .null, .null, .null, .null, .null, .null, .null, .int 0]) (C := RX11) (T := TX11) (N := 16) hx hb hts (fun w h => nc_tb_in (nc_lw_11 w h)) tyX11 tyX11_ok hown (hts' _ (nc_at_in (p := (1, 27)) rfl rfl)) (hts' _ (nc_at_in (p := (1, 28)) rfl rfl)) (hts' _ (nc_at_in (p := (1, 1)) rfl rfl)) hK hP hD hS hA rfl (by decide +kernel) (Nat.le_of_ble_eq_true rfl) (Nat.le_of_ble_eq_true rfl) (show decode code 0 = .ok (.new 8, 3) by decide +kernel) (fun h0 H hP hD hS => ?_)
  refine lv_dup hx hb (show decode code 3 = .ok (.dup, 1) by decide +kernel) rfl ?_
  have hPc := nb_P (ws := []) (x := (h0, .inr (11, [.null, .null, .null, .null, .null, .null, .null, .null, .null, .null, .null, .null, .null, .null, .null, .int 0]))) hP
  have hDc := nb_D (ws := []) (x := (h0, .inr (11, [.null, .null, .null, .null, .null, .null, .null, .null, .null, .null, .null, .null, .null, .null, .null, .int 0]))) hD
  have hFc := nb_F (ws := []) (x := (h0, .inr (11, [.null, .null, .null, .null, .null, .null, .null, .null, .null, .null, .null, .null, .null, .null, .null, .int 0]))) hD hS hA
  refine va_callv (va_runI (As := []) (rest := [.ref h0]) ⟨hx, hb, hml, hown, hts⟩ (ct_X11 l D cA h0 a v tpB tpB_n tpB_b tpB_c H.size) ⟨callB_of 0 hts' (gdc0 (nc_at_in (p := (1, 31)) rfl rfl)) rfl rfl rfl (hts' _ (nc_at_in (p := (1, 1)) rfl rfl)) (hts' _ (nc_at_in (p := (1, 29)) rfl rfl)) ⟨by decide +kernel, by decide +kernel, by decide +kernel⟩ ⟨Nat.le_of_ble_eq_true rfl, Nat.le_of_ble_eq_true rfl⟩, rfl, (hts' _ (nc_at_in (p := (1, 30)) rfl rfl))⟩ ⟨cTn_bl, fun U hU hW => ⟨rfl, ⟨cT_of hK hPc hDc hR hS0 hZ hQ hS hFc U hU hW, fun w hw => va_Nw.warmM hW (hN w hw), va_AO.moved hW.alike hAO⟩⟩⟩ rfl rfl hl.1 rfl (lv_room (Nat.le_of_ble_eq_true rfl)) (show decode code 4 = .ok (.invokespecial 18, 3) by decide +kernel) ⟨Nat.le_of_ble_eq_true rfl, Nat.le_of_ble_eq_true rfl⟩) hS (fun q _ h => hFc q h) hFc (fun u9 t9 H9 locs9 ht9 hvm9 _ hB9 hz9 hk9 hS => ?_)
  obtain ⟨q0, q1, q2, q3, q4, q5, q6, q7, q8, q9, q10, q11, q12, q13, q14, u0, u1, u2, u3, u4, u5, u6, u7, u8, u9, u10, u11, u12, u13, u14, hP1, hK1, hD1⟩ := hB9
  rw [ht9] at hP1
  have hP := hP1
  have hD := hD1.weaken (B := lw_A s) (fun _ q _ h => hFc q.1 h)
  generalize hB : bk11 cA h0 tpB q0 q1 q2 q3 q4 q5 q6 q7 q8 q9 q10 q11 q12 q13 q14 u0 u1 u2 u3 u4 u5 u6 u7 u8 u9 u10 u11 u12 u13 u14 = B at hP hD
  clear hP1 hD1 hPc hDc hFc hk9
  refine lv_astore_n (lv' := [(1, .ref h0), (0, .ref b)]) hx hb (show decode code 7 = .ok (.astore_n 1, 1) by decide +kernel) rfl hl (by decide) rfl (fun ls hl => ?_)
  refine va_new (ci := 12) (fs := [.int 0, .null, .int 0, .int 0, .int 0, .int 0, .null, .null, .null, .null, .null, .int 0, .int 0, .int 0, .int 0, .int 0, .int 0, .long 0, .int 0, .int 0, .int 0, .null, .null, .null, .int 0, .int 0, .int 0, .null, .int 0, .int 0, .int 0, .int 0, .int 0, .int 0, .null, .int 0, .int 0, .null, .int 0, .null, .int 0, .int 0, .int 0, .int 0, .int 0, .null, .null, .null, .null]) (C := RX12) (T := TX12) (N := 49) hx hb hts (fun w h => nc_tb_in (nc_lw_12 w h)) tyX12 tyX12_ok hown (hts' _ (nc_at_in (p := (6, 211)) rfl rfl)) (hts' _ (nc_at_in (p := (6, 205)) rfl rfl)) (hts' _ (nc_at_in (p := (1, 18)) rfl rfl)) hK hP hD hS hA rfl (by decide +kernel) (Nat.le_of_ble_eq_true rfl) (Nat.le_of_ble_eq_true rfl) (show decode code 8 = .ok (.new 19, 3) by decide +kernel) (fun hm H hP hD hS => ?_)
  refine lv_dup hx hb (show decode code 11 = .ok (.dup, 1) by decide +kernel) rfl ?_
  have hPc := nb_P (ws := B) (x := (hm, .inr (12, [.int 0, .null, .int 0, .int 0, .int 0, .int 0, .null, .null, .null, .null, .null, .int 0, .int 0, .int 0, .int 0, .int 0, .int 0, .long 0, .int 0, .int 0, .int 0, .null, .null, .null, .int 0, .int 0, .int 0, .null, .int 0, .int 0, .int 0, .int 0, .int 0, .int 0, .null, .int 0, .int 0, .null, .int 0, .null, .int 0, .int 0, .int 0, .int 0, .int 0, .null, .null, .null, .null]))) hP
  have hDc := nb_D (ws := B) (x := (hm, .inr (12, [.int 0, .null, .int 0, .int 0, .int 0, .int 0, .null, .null, .null, .null, .null, .int 0, .int 0, .int 0, .int 0, .int 0, .int 0, .long 0, .int 0, .int 0, .int 0, .null, .null, .null, .int 0, .int 0, .int 0, .null, .int 0, .int 0, .int 0, .int 0, .int 0, .int 0, .null, .int 0, .int 0, .null, .int 0, .null, .int 0, .int 0, .int 0, .int 0, .int 0, .null, .null, .null, .null]))) hD
  have hFc := nb_F (ws := B) (x := (hm, .inr (12, [.int 0, .null, .int 0, .int 0, .int 0, .int 0, .null, .null, .null, .null, .null, .int 0, .int 0, .int 0, .int 0, .int 0, .int 0, .long 0, .int 0, .int 0, .int 0, .null, .null, .null, .int 0, .int 0, .int 0, .null, .int 0, .int 0, .int 0, .int 0, .int 0, .int 0, .null, .int 0, .int 0, .null, .int 0, .null, .int 0, .int 0, .int 0, .int 0, .int 0, .null, .null, .null, .null]))) hD hS hA
  refine va_callv (va_runI (As := []) (rest := [.ref hm]) ⟨hx, hb, hml, hown, hts⟩ (ct_X12 l D cA hm H.size) ⟨callB_of 0 hts' (gdc0 (nc_at_in (p := (6, 214)) rfl rfl)) rfl rfl rfl (hts' _ (nc_at_in (p := (1, 18)) rfl rfl)) (hts' _ (nc_at_in (p := (6, 212)) rfl rfl)) ⟨by decide +kernel, by decide +kernel, by decide +kernel⟩ ⟨Nat.le_of_ble_eq_true rfl, Nat.le_of_ble_eq_true rfl⟩, rfl, (hts' _ (nc_at_in (p := (6, 213)) rfl rfl))⟩ ⟨cP_bl, fun U hU hW => ⟨rfl, cP_of hK hPc hDc U hU hW⟩⟩ rfl rfl hl.1 rfl (lv_room (Nat.le_of_ble_eq_true rfl)) (show decode code 12 = .ok (.invokespecial 21, 3) by decide +kernel) ⟨Nat.le_of_ble_eq_true rfl, Nat.le_of_ble_eq_true rfl⟩) hS (fun q _ h => hFc q h) hFc (fun um t9 H9 locs9 ht9 hvm9 _ hB9 hz9 hk9 hS => ?_)
  obtain ⟨hP1, hK1, hD1⟩ := hB9
  rw [ht9] at hP1
  obtain ⟨hP, hD⟩ := nb_J (ws := B) (x := (hm, .inr (12, [.int 0, .null, .int 0, .int 0, .int 0, .int 0, .null, .null, .null, .null, .null, .int 0, .int 0, .int 0, .int 0, .int 0, .int 0, .long 0, .int 0, .int 0, .int 0, .null, .null, .null, .int 0, .int 0, .int 0, .null, .int 0, .int 0, .int 0, .int 0, .int 0, .int 0, .null, .int 0, .int 0, .null, .int 0, .null, .int 0, .int 0, .int 0, .int 0, .int 0, .null, .null, .null, .null]))) hP hD hk9 hFc hP1 hD1
  clear hP1 hD1 hPc hDc hFc hk9
  refine lv_astore_n (lv' := [(2, .ref hm), (1, .ref h0), (0, .ref b)]) hx hb (show decode code 15 = .ok (.astore_n 2, 1) by decide +kernel) rfl hl (by decide) rfl (fun ls hl => ?_)
  have hok := fw_all cA tpB h0 hm q0 q1 q2 q3 q4 q5 q6 q7 q8 q9 q10 q11 q12 q13 q14 u0 u1 u2 u3 u4 u5 u6 u7 u8 u9 u10 u11 u12 u13 u14 um a8 v8
  rw [hB] at hok
  obtain ⟨ad, rfl, rfl, rfl, rfl, hP, hD⟩ : ∃ ad : Nat → Nat → Nat, ad 11 0 = h0 ∧ ad 12 0 = hm ∧ ad 90 0 = a8 ∧ ad 91 0 = v8 ∧ va_P D nc_cl (nc_W ad cA (w0 tpB)) H9 ∧ va_D (lw_A s) (nc_W ad cA (w0 tpB)) := ⟨_, rfl, rfl, rfl, rfl, hok.P fw_Kin hP, hok.D fw_Kin hD⟩
  refine lv_iconst (v := 1) hx hb (show decode code 16 = .ok (.iconst 1, 1) by decide +kernel) (by decide) ?_
  refine va_newa (ty := .long) (N' := 1) (a0 := (1, .inr (.inl (fun _ => 0)))) hx hb (hts' _ (nc_at_in (p := (1, 151)) rfl rfl)) rfl hK hP hD hS hA (fun _ => rfl) (by decide) (by decide) (by decide) (Nat.le_of_ble_eq_true rfl) (Nat.le_of_ble_eq_true rfl) (show decode code 17 = .ok (.newarray .long, 2) by decide +kernel) (fun q3 c9 H hK9 hP hD hS => ?_)
  obtain rfl := nw_long hK hK9
  refine lv_astore_n (lv' := [(3, .ref q3), (2, .ref (ad 12 0)), (1, .ref (ad 11 0)), (0, .ref b)]) hx hb (show decode code 19 = .ok (.astore_n 3, 1) by decide +kernel) rfl hl (by decide) rfl (fun ls hl => ?_)
  refine lv_iconst (v := 0) hx hb (show decode code 20 = .ok (.iconst 0, 1) by decide +kernel) (by decide) ?_
  refine lv_istore (lv' := [(4, .int 0), (3, .ref q3), (2, .ref (ad 12 0)), (1, .ref (ad 11 0)), (0, .ref b)]) hx hb (show decode code 21 = .ok (.istore 4, 2) by decide +kernel) hl (by decide) rfl (fun ls hl => ?_)
  have C : lw_C p s m meth c b L xs D cA ad := ⟨C0, hK, hR8, ⟨hS8, hZ⟩, st_N2 hts⟩
  obtain ⟨hcow, hfarm⟩ := hTC D cA ad q3 C
  refine W.widen (k := 300) (n := 17000) (Nat.le_of_ble_eq_true rfl) (Nat.le_of_ble_eq_true rfl) ?_
  exact lw_loop l hL C hcow hfarm (L + 1) 0 (fun _ => 0) (w0 tpB) _ _ _ (by omega) (by omega) w0_inv hl ⟨hP, hD, hS⟩
