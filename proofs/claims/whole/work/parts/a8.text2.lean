/-! TEXT: charAt. -/
def sQ (a v n sz : Nat) (byt : List Int32) (A : Nat → Prop) (U : State) : Prop := sP a v n sz byt A U ∧ va_Zq "jdk/internal/util/Preconditions" "SIOOBE_FORMATTER" "Ljava/util/function/BiFunction;" A U U.heap
theorem sQ_bl {a v n sz : Nat} {byt : List Int32} {A : Nat → Prop} {av : List Value} : FrameBlind (va_Pc av (sQ a v n sz byt A)) := by
  intro x U g mk q
  obtain ⟨q0, q1, q2⟩ := q
  exact ⟨q0, (sP_bl (av := av) x U g mk ⟨q0, q1⟩).2, va_Zq.moved (u := U) (U := U.calling g mk x) (Vm.Alike.refl U.vm) q2⟩
theorem sQ_of {a v n : Nat} {byt : List Int32} {A : Nat → Prop} {s : State} {H : Heap} {locs : List Loc} (h0 : vk_S 1 [n] [byt] (fun _ => a) (fun _ => v) A s s.heap) (hZ : va_Z "java/lang/String" "COMPACT_STRINGS" "Z" (.int 1) A s s.heap) (hQ : va_Zq "jdk/internal/util/Preconditions" "SIOOBE_FORMATTER" "Ljava/util/function/BiFunction;" A s s.heap) (hS : va_S A s.heap H locs) (U : State) (hU : U.heap = H) (hW : s.WarmedH U.vm) : sQ a v n H.size byt A U := by
  refine ⟨sP_of h0 hZ hS U hU hW, ?_⟩
  rw [hU]
  exact va_Zq.moved hW.alike (va_Zq.kept hQ hS.2.1)
abbrev txV : Array Value → State → Outcome → State → Prop := va_Qv (fun _ : Unit => True) (fun _ _ => True) (fun _ => False)
set_option maxRecDepth 100000 in
set_option maxHeartbeats 4000000 in
theorem tx_pre_n (l : Launch) (a v n sz : Nat) (byt : List Int32) (A : Nat → Prop) (k : Nat) (hk : k < n) (hn : n < 2 ^ 30) : Met l yJ3_checkIndex_8e157 (Cond.code yJ3_checkIndex_8e157 cJ3_checkIndex_8e157 3 (some .int) :: nc_tb) { frames := 0, cells := 0, slots := 0, locals := 0 } (va_Pc [.int (nI k), .int (nI n), .null] (sQ a v n sz byt A)) (txQ (nI k)) 0 0 (fun _ => False) := by
  refine Met.ofW (cc := cJ3_checkIndex_8e157) (maxL := 3) (ret := (some .int)) (by decide) rfl ?_
  intro p e s m args below meth c s₁ B hml hv
  obtain ⟨rfl, ⟨hsz, hS0, hZ⟩, hQ⟩ := hv
  have hx := B.exec
  have hb := B.bytes
  have hr := B.returns
  have hts := atoms_spec (ws := (Cond.code yJ3_checkIndex_8e157 cJ3_checkIndex_8e157 3 (some .int) :: nc_tb)) B.pre
  have hown : s.vm.findClass RJ3 = some m.cls := findClass_of_methodNamed B.named
  have hT := (hS0.1 0 Nat.zero_lt_one).2.2.2
  have hV := (hS0.1 0 Nat.zero_lt_one).2.2.1
  have hC := (hS0.1 0 Nat.zero_lt_one).2.1
  have hSF : va_S (fun _ => False) s.heap s.heap [] := va_S.rf
  have hSA : va_S A s.heap s.heap [] := va_SF hSF
  have hl := lv_entry ([.int (nI k), .int (nI n), .null]) (n := 3) (Nat.le_of_ble_eq_true rfl)
  rw [lg_entry_eq]
  generalize (lg_sl ([.int (nI k), .int (nI n), .null]) ++ List.replicate (3 - (lg_sl ([.int (nI k), .int (nI n), .null])).length) Slot.unset).toArray = ls at hl ⊢
  have hl : lv_has ls 3 [(0, .int (nI k)), (1, .int (nI n)), (2, .null)] := hl
  refine lv_iload_n hx hb (show decode cJ3_checkIndex_8e157 0 = .ok (.iload_n 0, 1) by decide +kernel) rfl (lv_at hl 0 rfl) ?_
  refine lv_if_lt (tgt := 9) hx hb (show decode cJ3_checkIndex_8e157 1 = .ok (.ifCond .lt 8, 3) by decide +kernel) (by decide) (fun q9 => absurd q9 (nI_pos (by omega))) (fun _ => ?_)
  refine lv_iload_n hx hb (show decode cJ3_checkIndex_8e157 4 = .ok (.iload_n 0, 1) by decide +kernel) rfl (lv_at hl 0 rfl) ?_
  refine lv_iload_n hx hb (show decode cJ3_checkIndex_8e157 5 = .ok (.iload_n 1, 1) by decide +kernel) rfl (lv_at hl 1 rfl) ?_
  refine lv_icmp_lt (tgt := 16) hx hb (show decode cJ3_checkIndex_8e157 6 = .ok (.if_icmp .lt 10, 3) by decide +kernel) (by decide) (fun _ => ?_) (fun q9 => absurd (nI_lt hk (by omega)) q9)
  refine lv_iload_n hx hb (show decode cJ3_checkIndex_8e157 16 = .ok (.iload_n 0, 1) by decide +kernel) rfl (lv_at hl 0 rfl) ?_
  exact W.iret (v := (nI k)) hx hb hr (fun t ht hW => ⟨⟨(nI k), (), rfl, rfl, trivial⟩, hSF.F ht⟩) hSF.2.2 (show decode cJ3_checkIndex_8e157 17 = .ok (.ireturn, 1) by decide +kernel)
set_option maxRecDepth 100000 in
set_option maxHeartbeats 4000000 in
theorem tx_pre_r (l : Launch) (a v n sz : Nat) (byt : List Int32) (A : Nat → Prop) (k : Nat) (hk : k < n) (hn : n < 2 ^ 30) (t9 : Nat) : Met l yJ3_checkIndex_8e157 (Cond.code yJ3_checkIndex_8e157 cJ3_checkIndex_8e157 3 (some .int) :: nc_tb) { frames := 0, cells := 0, slots := 0, locals := 0 } (va_Pc [.int (nI k), .int (nI n), .ref t9] (sQ a v n sz byt A)) (txQ (nI k)) 0 0 (fun _ => False) := by
  refine Met.ofW (cc := cJ3_checkIndex_8e157) (maxL := 3) (ret := (some .int)) (by decide) rfl ?_
  intro p e s m args below meth c s₁ B hml hv
  obtain ⟨rfl, ⟨hsz, hS0, hZ⟩, hQ⟩ := hv
  have hx := B.exec
  have hb := B.bytes
  have hr := B.returns
  have hts := atoms_spec (ws := (Cond.code yJ3_checkIndex_8e157 cJ3_checkIndex_8e157 3 (some .int) :: nc_tb)) B.pre
  have hown : s.vm.findClass RJ3 = some m.cls := findClass_of_methodNamed B.named
  have hT := (hS0.1 0 Nat.zero_lt_one).2.2.2
  have hV := (hS0.1 0 Nat.zero_lt_one).2.2.1
  have hC := (hS0.1 0 Nat.zero_lt_one).2.1
  have hSF : va_S (fun _ => False) s.heap s.heap [] := va_S.rf
  have hSA : va_S A s.heap s.heap [] := va_SF hSF
  have hl := lv_entry ([.int (nI k), .int (nI n), .ref t9]) (n := 3) (Nat.le_of_ble_eq_true rfl)
  rw [lg_entry_eq]
  generalize (lg_sl ([.int (nI k), .int (nI n), .ref t9]) ++ List.replicate (3 - (lg_sl ([.int (nI k), .int (nI n), .ref t9])).length) Slot.unset).toArray = ls at hl ⊢
  have hl : lv_has ls 3 [(0, .int (nI k)), (1, .int (nI n)), (2, .ref t9)] := hl
  refine lv_iload_n hx hb (show decode cJ3_checkIndex_8e157 0 = .ok (.iload_n 0, 1) by decide +kernel) rfl (lv_at hl 0 rfl) ?_
  refine lv_if_lt (tgt := 9) hx hb (show decode cJ3_checkIndex_8e157 1 = .ok (.ifCond .lt 8, 3) by decide +kernel) (by decide) (fun q9 => absurd q9 (nI_pos (by omega))) (fun _ => ?_)
  refine lv_iload_n hx hb (show decode cJ3_checkIndex_8e157 4 = .ok (.iload_n 0, 1) by decide +kernel) rfl (lv_at hl 0 rfl) ?_
  refine lv_iload_n hx hb (show decode cJ3_checkIndex_8e157 5 = .ok (.iload_n 1, 1) by decide +kernel) rfl (lv_at hl 1 rfl) ?_
  refine lv_icmp_lt (tgt := 16) hx hb (show decode cJ3_checkIndex_8e157 6 = .ok (.if_icmp .lt 10, 3) by decide +kernel) (by decide) (fun _ => ?_) (fun q9 => absurd (nI_lt hk (by omega)) q9)
  refine lv_iload_n hx hb (show decode cJ3_checkIndex_8e157 16 = .ok (.iload_n 0, 1) by decide +kernel) rfl (lv_at hl 0 rfl) ?_
  exact W.iret (v := (nI k)) hx hb hr (fun t ht hW => ⟨⟨(nI k), (), rfl, rfl, trivial⟩, hSF.F ht⟩) hSF.2.2 (show decode cJ3_checkIndex_8e157 17 = .ok (.ireturn, 1) by decide +kernel)
set_option maxRecDepth 100000 in
set_option maxHeartbeats 4000000 in
theorem tx_chk (l : Launch) (a v n sz : Nat) (byt : List Int32) (A : Nat → Prop) (k : Nat) (hk : k < n) (hn : n < 2 ^ 30) : Met l yJ0_checkIndex_df160 (Cond.code yJ0_checkIndex_df160 cJ0_checkIndex_df160 2 none :: nc_tb) { frames := 1, cells := 0, slots := 0, locals := 60 } (va_Pc [.int (nI k), .int (nI n)] (sQ a v n sz byt A)) txV 0 0 (fun _ => False) := by
  refine Met.ofW (cc := cJ0_checkIndex_df160) (maxL := 2) (ret := none) (by decide) rfl ?_
  intro p e s m args below meth c s₁ B hml hv
  obtain ⟨rfl, ⟨hsz, hS0, hZ⟩, hQ⟩ := hv
  have hx := B.exec
  have hb := B.bytes
  have hr := B.returns
  have hts := atoms_spec (ws := (Cond.code yJ0_checkIndex_df160 cJ0_checkIndex_df160 2 none :: nc_tb)) B.pre
  have hown : s.vm.findClass RJ0 = some m.cls := findClass_of_methodNamed B.named
  have hT := (hS0.1 0 Nat.zero_lt_one).2.2.2
  have hV := (hS0.1 0 Nat.zero_lt_one).2.2.1
  have hC := (hS0.1 0 Nat.zero_lt_one).2.1
  have hSF : va_S (fun _ => False) s.heap s.heap [] := va_S.rf
  have hSA : va_S A s.heap s.heap [] := va_SF hSF
  have hl := lv_entry ([.int (nI k), .int (nI n)]) (n := 2) (Nat.le_of_ble_eq_true rfl)
  rw [lg_entry_eq]
  generalize (lg_sl ([.int (nI k), .int (nI n)]) ++ List.replicate (2 - (lg_sl ([.int (nI k), .int (nI n)])).length) Slot.unset).toArray = ls at hl ⊢
  have hl : lv_has ls 2 [(0, .int (nI k)), (1, .int (nI n))] := hl
  refine lv_iload_n hx hb (show decode cJ0_checkIndex_df160 0 = .ok (.iload_n 0, 1) by decide +kernel) rfl (lv_at hl 0 rfl) ?_
  refine lv_iload_n hx hb (show decode cJ0_checkIndex_df160 1 = .ok (.iload_n 1, 1) by decide +kernel) rfl (lv_at hl 1 rfl) ?_
  have hQ0 := hQ
  rcases hQ0 with hq | ⟨t8, hq⟩
  · refine va_gets (C := "jdk/internal/util/Preconditions") (n := "SIOOBE_FORMATTER") (d := "Ljava/util/function/BiFunction;") (v := .null) hx hb hq hSA hown (hts _ (List.mem_cons_of_mem _ (nc_at_in (p := (1, 66)) rfl rfl))) (fun _ h => h) (show decode cJ0_checkIndex_df160 2 = .ok (.getstatic 1053, 3) by decide +kernel) ?_
    refine va_calli (va_runS (As := [.int (nI k), .int (nI n), .null]) (rest := []) ⟨hx, hb, hml, hown, hts⟩ (tx_pre_n l a v n s.heap.size byt A k hk hn) ⟨callB_of 3 hts (gdc (nc_at_in (p := (1, 70)) rfl rfl)) rfl rfl rfl (hts _ (List.mem_cons_of_mem _ (nc_at_in (p := (1, 5)) rfl rfl))) (hts _ (List.mem_cons_of_mem _ (nc_at_in (p := (1, 68)) rfl rfl))) ⟨by decide +kernel, by decide +kernel, by decide +kernel⟩ ⟨Nat.le_of_ble_eq_true rfl, Nat.le_of_ble_eq_true rfl⟩, (hts _ (List.mem_cons_of_mem _ (nc_at_in (p := (1, 69)) rfl rfl)))⟩ ⟨sQ_bl, fun U hU hW => ⟨rfl, sQ_of hS0 hZ hQ hSA U hU hW⟩⟩ rfl rfl hl.1 rfl (lv_room (Nat.le_of_ble_eq_true rfl)) (show decode cJ0_checkIndex_df160 5 = .ok (.invokestatic 1059, 3) by decide +kernel) ⟨Nat.zero_le _, Nat.zero_le _⟩) hSF (fun q _ h => h.elim) (fun q h => h.elim) (fun r9 u9 t9 H9 locs9 ht9 hvm9 hw9 hB9 hz9 hk9 hSF => ?_)
    subst hw9
    have hSA : va_S A s.heap H9 locs9 := va_SF hSF
    refine lv_pop hx hb (show decode cJ0_checkIndex_df160 8 = .ok (.pop, 1) by decide +kernel) rfl ?_
    exact W.vret hx hb hr (fun t ht hW => ⟨⟨(), rfl, trivial, trivial⟩, hSF.F ht⟩) hSF.2.2 (show decode cJ0_checkIndex_df160 9 = .ok (.return_, 1) by decide +kernel)
  · refine va_gets (C := "jdk/internal/util/Preconditions") (n := "SIOOBE_FORMATTER") (d := "Ljava/util/function/BiFunction;") (v := .ref t8) hx hb hq hSA hown (hts _ (List.mem_cons_of_mem _ (nc_at_in (p := (1, 66)) rfl rfl))) (fun _ h => h) (show decode cJ0_checkIndex_df160 2 = .ok (.getstatic 1053, 3) by decide +kernel) ?_
    refine va_calli (va_runS (As := [.int (nI k), .int (nI n), .ref t8]) (rest := []) ⟨hx, hb, hml, hown, hts⟩ (tx_pre_r l a v n s.heap.size byt A k hk hn t8) ⟨callB_of 3 hts (gdc (nc_at_in (p := (1, 70)) rfl rfl)) rfl rfl rfl (hts _ (List.mem_cons_of_mem _ (nc_at_in (p := (1, 5)) rfl rfl))) (hts _ (List.mem_cons_of_mem _ (nc_at_in (p := (1, 68)) rfl rfl))) ⟨by decide +kernel, by decide +kernel, by decide +kernel⟩ ⟨Nat.le_of_ble_eq_true rfl, Nat.le_of_ble_eq_true rfl⟩, (hts _ (List.mem_cons_of_mem _ (nc_at_in (p := (1, 69)) rfl rfl)))⟩ ⟨sQ_bl, fun U hU hW => ⟨rfl, sQ_of hS0 hZ hQ hSA U hU hW⟩⟩ rfl rfl hl.1 rfl (lv_room (Nat.le_of_ble_eq_true rfl)) (show decode cJ0_checkIndex_df160 5 = .ok (.invokestatic 1059, 3) by decide +kernel) ⟨Nat.zero_le _, Nat.zero_le _⟩) hSF (fun q _ h => h.elim) (fun q h => h.elim) (fun r9 u9 t9 H9 locs9 ht9 hvm9 hw9 hB9 hz9 hk9 hSF => ?_)
    subst hw9
    have hSA : va_S A s.heap H9 locs9 := va_SF hSF
    refine lv_pop hx hb (show decode cJ0_checkIndex_df160 8 = .ok (.pop, 1) by decide +kernel) rfl ?_
    exact W.vret hx hb hr (fun t ht hW => ⟨⟨(), rfl, trivial, trivial⟩, hSF.F ht⟩) hSF.2.2 (show decode cJ0_checkIndex_df160 9 = .ok (.return_, 1) by decide +kernel)
set_option maxRecDepth 100000 in
set_option maxHeartbeats 4000000 in
theorem tx_lch (l : Launch) (a v n sz : Nat) (byt : List Int32) (A : Nat → Prop) (k : Nat) (hk : k < n) (hn : n < 2 ^ 30) (hb9 : ∀ k, k < n → narrow .char (.int (byt.getD k 0)) = .int (byt.getD k 0) ∧ ((byt.getD k 0 &&& 255).toUInt32 % 65536).toInt32 = byt.getD k 0) : Met l yJ1_charAt_3b067 (Cond.code yJ1_charAt_3b067 cJ1_charAt_3b067 2 (some .char) :: nc_tb) { frames := 2, cells := 0, slots := 0, locals := 120 } (va_Pc [.ref v, .int (nI k)] (sQ a v n sz byt A)) (txQ (byt.getD k 0)) 0 0 (fun _ => False) := by
  refine Met.ofW (cc := cJ1_charAt_3b067) (maxL := 2) (ret := (some .char)) (by decide) rfl ?_
  intro p e s m args below meth c s₁ B hml hv
  obtain ⟨rfl, ⟨hsz, hS0, hZ⟩, hQ⟩ := hv
  have hx := B.exec
  have hb := B.bytes
  have hr := B.returns
  have hts := atoms_spec (ws := (Cond.code yJ1_charAt_3b067 cJ1_charAt_3b067 2 (some .char) :: nc_tb)) B.pre
  have hown : s.vm.findClass RJ1 = some m.cls := findClass_of_methodNamed B.named
  have hT := (hS0.1 0 Nat.zero_lt_one).2.2.2
  have hV := (hS0.1 0 Nat.zero_lt_one).2.2.1
  have hC := (hS0.1 0 Nat.zero_lt_one).2.1
  have hSF : va_S (fun _ => False) s.heap s.heap [] := va_S.rf
  have hSA : va_S A s.heap s.heap [] := va_SF hSF
  have hl := lv_entry ([.ref v, .int (nI k)]) (n := 2) (Nat.le_of_ble_eq_true rfl)
  rw [lg_entry_eq]
  generalize (lg_sl ([.ref v, .int (nI k)]) ++ List.replicate (2 - (lg_sl ([.ref v, .int (nI k)])).length) Slot.unset).toArray = ls at hl ⊢
  have hl : lv_has ls 2 [(0, .ref v), (1, .int (nI k))] := hl
  refine lv_iload_n hx hb (show decode cJ1_charAt_3b067 0 = .ok (.iload_n 1, 1) by decide +kernel) rfl (lv_at hl 1 rfl) ?_
  refine lv_aload_n hx hb (show decode cJ1_charAt_3b067 1 = .ok (.aload_n 0, 1) by decide +kernel) rfl (lv_at hl 0 rfl) ?_
  refine va_tlen hx hb hT hSA (v := nI n) rfl (show decode cJ1_charAt_3b067 2 = .ok (.arraylength, 1) by decide +kernel) ?_
  refine va_callv (va_runS (As := [.int (nI k), .int (nI n)]) (rest := []) ⟨hx, hb, hml, hown, hts⟩ (tx_chk l a v n s.heap.size byt A k hk hn) ⟨callB_of 2 hts (gdc (nc_at_in (p := (1, 65)) rfl rfl)) rfl rfl rfl (hts _ (List.mem_cons_of_mem _ (nc_at_in (p := (1, 3)) rfl rfl))) (hts _ (List.mem_cons_of_mem _ (nc_at_in (p := (1, 63)) rfl rfl))) ⟨by decide +kernel, by decide +kernel, by decide +kernel⟩ ⟨Nat.le_of_ble_eq_true rfl, Nat.le_of_ble_eq_true rfl⟩, (hts _ (List.mem_cons_of_mem _ (nc_at_in (p := (1, 64)) rfl rfl)))⟩ ⟨sQ_bl, fun U hU hW => ⟨rfl, sQ_of hS0 hZ hQ hSA U hU hW⟩⟩ rfl rfl hl.1 rfl (lv_room (Nat.le_of_ble_eq_true rfl)) (show decode cJ1_charAt_3b067 3 = .ok (.invokestatic 9, 3) by decide +kernel) ⟨Nat.zero_le _, Nat.zero_le _⟩) hSF (fun q _ h => h.elim) (fun q h => h.elim) (fun u9 t9 H9 locs9 ht9 hvm9 hw9 hB9 hz9 hk9 hSF => ?_)
  have hSA : va_S A s.heap H9 locs9 := va_SF hSF
  refine lv_aload_n hx hb (show decode cJ1_charAt_3b067 6 = .ok (.aload_n 0, 1) by decide +kernel) rfl (lv_at hl 0 rfl) ?_
  refine lv_iload_n hx hb (show decode cJ1_charAt_3b067 7 = .ok (.iload_n 1, 1) by decide +kernel) rfl (lv_at hl 1 rfl) ?_
  refine va_tb hx hb hT hSA (i := nI k) (v := .int (byt.getD k 0)) (show vp_in (nI k) n from vp_in_nI hk (by omega)) (by rw [nI_clamp (by omega)]; rfl) (show decode cJ1_charAt_3b067 8 = .ok (.baload, 1) by decide +kernel) ?_
  refine lv_sipush (v := 255) hx hb (show decode cJ1_charAt_3b067 9 = .ok (.sipush 255, 3) by decide +kernel) (by decide) ?_
  refine lv_iand hx hb (show decode cJ1_charAt_3b067 12 = .ok (.iand, 1) by decide +kernel) ?_
  refine lv_i2c (v := byt.getD k 0) hx hb (show decode cJ1_charAt_3b067 13 = .ok (.i2c, 1) by decide +kernel) (hb9 k hk).2 ?_
  exact W.zret (v := (byt.getD k 0)) hx hb hr (hb9 k hk).1 (fun t ht hW => ⟨⟨(byt.getD k 0), (), rfl, rfl, trivial⟩, hSF.F ht⟩) hSF.2.2 (show decode cJ1_charAt_3b067 14 = .ok (.ireturn, 1) by decide +kernel)
set_option maxRecDepth 100000 in
set_option maxHeartbeats 4000000 in
theorem tx_cha (l : Launch) (a v n sz : Nat) (byt : List Int32) (A : Nat → Prop) (k : Nat) (hk : k < n) (hn : n < 2 ^ 30) (hb9 : ∀ k, k < n → narrow .char (.int (byt.getD k 0)) = .int (byt.getD k 0) ∧ ((byt.getD k 0 &&& 255).toUInt32 % 65536).toInt32 = byt.getD k 0) : Met l yJ0_charAt_5068e (Cond.code yJ0_charAt_5068e cJ0_charAt_5068e 2 (some .char) :: nc_tb) { frames := 3, cells := 0, slots := 0, locals := 200 } (va_Pc [.ref a, .int (nI k)] (sQ a v n sz byt A)) (txQ (byt.getD k 0)) 0 0 (fun _ => False) := by
  refine Met.ofW (cc := cJ0_charAt_5068e) (maxL := 2) (ret := (some .char)) (by decide) rfl ?_
  intro p e s m args below meth c s₁ B hml hv
  obtain ⟨rfl, ⟨hsz, hS0, hZ⟩, hQ⟩ := hv
  have hx := B.exec
  have hb := B.bytes
  have hr := B.returns
  have hts := atoms_spec (ws := (Cond.code yJ0_charAt_5068e cJ0_charAt_5068e 2 (some .char) :: nc_tb)) B.pre
  have hown : s.vm.findClass RJ0 = some m.cls := findClass_of_methodNamed B.named
  have hT := (hS0.1 0 Nat.zero_lt_one).2.2.2
  have hV := (hS0.1 0 Nat.zero_lt_one).2.2.1
  have hC := (hS0.1 0 Nat.zero_lt_one).2.1
  have hSF : va_S (fun _ => False) s.heap s.heap [] := va_S.rf
  have hSA : va_S A s.heap s.heap [] := va_SF hSF
  have hl := lv_entry ([.ref a, .int (nI k)]) (n := 2) (Nat.le_of_ble_eq_true rfl)
  rw [lg_entry_eq]
  generalize (lg_sl ([.ref a, .int (nI k)]) ++ List.replicate (2 - (lg_sl ([.ref a, .int (nI k)])).length) Slot.unset).toArray = ls at hl ⊢
  have hl : lv_has ls 2 [(0, .ref a), (1, .int (nI k))] := hl
  refine lv_aload_n hx hb (show decode cJ0_charAt_5068e 0 = .ok (.aload_n 0, 1) by decide +kernel) rfl (lv_at hl 0 rfl) ?_
  refine va_calli (va_runV (C := "java/lang/String") (As := []) (rest := []) ⟨hx, hb, hml, hown, hts⟩ (tx_isLatin1 l a v n s.heap.size byt A) ⟨callB_of 0 hts (gdc (nc_at_in (p := (1, 59)) rfl rfl)) rfl rfl rfl (hts _ (List.mem_cons_of_mem _ (nc_at_in (p := (1, 3)) rfl rfl))) (hts _ (List.mem_cons_of_mem _ (nc_at_in (p := (1, 56)) rfl rfl))) ⟨by decide +kernel, by decide +kernel, by decide +kernel⟩ ⟨Nat.le_of_ble_eq_true rfl, Nat.le_of_ble_eq_true rfl⟩, (hts _ (List.mem_cons_of_mem _ (nc_at_in (p := (1, 57)) rfl rfl))), (hts _ (List.mem_cons_of_mem _ (nc_at_in (p := (1, 58)) rfl rfl)))⟩ ⟨sP_bl, vk_recv (adK := fun _ => a) (i := 0) hS0 Nat.zero_lt_one hSA, fun U hU hW => ⟨rfl, sP_of hS0 hZ hSA U hU hW⟩⟩ rfl rfl hl.1 rfl (lv_room (Nat.le_of_ble_eq_true rfl)) (show decode cJ0_charAt_5068e 1 = .ok (.invokevirtual 492, 3) by decide +kernel) ⟨Nat.zero_le _, Nat.zero_le _⟩) hSF (fun q _ h => h.elim) (fun q h => h.elim) (fun r9 u9 t9 H9 locs9 ht9 hvm9 hw9 hB9 hz9 hk9 hSF => ?_)
  subst hw9
  have hSA : va_S A s.heap H9 locs9 := va_SF hSF
  refine lv_if_eq (tgt := 16) hx hb (show decode cJ0_charAt_5068e 4 = .ok (.ifCond .eq 12, 3) by decide +kernel) (by decide) (fun q9 => absurd q9 (by decide)) (fun _ => ?_)
  refine lv_aload_n hx hb (show decode cJ0_charAt_5068e 7 = .ok (.aload_n 0, 1) by decide +kernel) rfl (lv_at hl 0 rfl) ?_
  refine vk_getf hx hb hV hSA hown (hts _ (List.mem_cons_of_mem _ (nc_at_in (p := (9, 120)) rfl rfl))) (fun _ h => h) (show decode cJ0_charAt_5068e 8 = .ok (.getfield 9, 3) by decide +kernel) ?_
  refine lv_iload_n hx hb (show decode cJ0_charAt_5068e 11 = .ok (.iload_n 1, 1) by decide +kernel) rfl (lv_at hl 1 rfl) ?_
  refine va_calli (va_runS (As := [.ref v, .int (nI k)]) (rest := []) ⟨hx, hb, hml, hown, hts⟩ (tx_lch l a v n H9.size byt A k hk hn hb9) ⟨callB_of 2 hts (gdc (nc_at_in (p := (1, 62)) rfl rfl)) rfl rfl rfl (hts _ (List.mem_cons_of_mem _ (nc_at_in (p := (1, 4)) rfl rfl))) (hts _ (List.mem_cons_of_mem _ (nc_at_in (p := (1, 60)) rfl rfl))) ⟨by decide +kernel, by decide +kernel, by decide +kernel⟩ ⟨Nat.le_of_ble_eq_true rfl, Nat.le_of_ble_eq_true rfl⟩, (hts _ (List.mem_cons_of_mem _ (nc_at_in (p := (1, 61)) rfl rfl)))⟩ ⟨sQ_bl, fun U hU hW => ⟨rfl, sQ_of hS0 hZ hQ hSA U hU hW⟩⟩ rfl rfl hl.1 rfl (lv_room (Nat.le_of_ble_eq_true rfl)) (show decode cJ0_charAt_5068e 12 = .ok (.invokestatic 495, 3) by decide +kernel) ⟨Nat.zero_le _, Nat.zero_le _⟩) hSF (fun q _ h => h.elim) (fun q h => h.elim) (fun r9 u9 t9 H9 locs9 ht9 hvm9 hw9 hB9 hz9 hk9 hSF => ?_)
  subst hw9
  have hSA : va_S A s.heap H9 locs9 := va_SF hSF
  exact W.zret (v := (byt.getD k 0)) hx hb hr (hb9 k hk).1 (fun t ht hW => ⟨⟨(byt.getD k 0), (), rfl, rfl, trivial⟩, hSF.F ht⟩) hSF.2.2 (show decode cJ0_charAt_5068e 15 = .ok (.ireturn, 1) by decide +kernel)
def wlt (y : Int64) (x : Int32) : Int64 := (y <<< ((5 : Int32).toInt64 &&& 63)) ||| (x &&& 31).toInt64
set_option maxRecDepth 100000 in
set_option maxHeartbeats 4000000 in
theorem tx_wl (l : Launch) (y : Int64) (x : Int32) : Met l yX10_withLetter (Cond.code yX10_withLetter cX10_withLetter 3 (some .long) :: nc_tb) { frames := 0, cells := 0, slots := 0, locals := 0 } (va_Pc [.long y, .int x] (fun _ => True)) (va_Ql (fun z (_ : Unit) => z = wlt y x) (fun _ _ => True) (fun _ => False)) 0 0 (fun _ => False) := by
  refine Met.ofW (cc := cX10_withLetter) (maxL := 3) (ret := (some .long)) (by decide) rfl ?_
  intro p e s m args below meth c s₁ B hml hv
  obtain ⟨rfl, -⟩ := hv
  have hx := B.exec
  have hb := B.bytes
  have hr := B.returns
  have hSF : va_S (fun _ => False) s.heap s.heap [] := va_S.rf
  have hl := lv_entry ([.long y, .int x]) (n := 3) (Nat.le_of_ble_eq_true rfl)
  rw [lg_entry_eq]
  generalize (lg_sl ([.long y, .int x]) ++ List.replicate (3 - (lg_sl ([.long y, .int x])).length) Slot.unset).toArray = ls at hl ⊢
  have hl : lv_has ls 3 [(0, .long y), (2, .int x)] := hl
  refine lv_lload_n hx hb (show decode cX10_withLetter 0 = .ok (.lload_n 0, 1) by decide +kernel) rfl (lv_at hl 0 rfl) ?_
  refine lv_iconst (v := 5) hx hb (show decode cX10_withLetter 1 = .ok (.iconst 5, 1) by decide +kernel) (by decide) ?_
  refine lv_lshl (v := y <<< ((5 : Int32).toInt64 &&& 63)) hx hb (show decode cX10_withLetter 2 = .ok (.lshl, 1) by decide +kernel) rfl ?_
  refine lv_iload_n hx hb (show decode cX10_withLetter 3 = .ok (.iload_n 2, 1) by decide +kernel) rfl (lv_at hl 1 rfl) ?_
  refine lv_bipush (v := 31) hx hb (show decode cX10_withLetter 4 = .ok (.bipush 31, 2) by decide +kernel) (by decide) ?_
  refine lv_iand hx hb (show decode cX10_withLetter 6 = .ok (.iand, 1) by decide +kernel) ?_
  refine lv_i2l (v := (x &&& 31).toInt64) hx hb (show decode cX10_withLetter 7 = .ok (.i2l, 1) by decide +kernel) rfl ?_
  refine lv_lor hx hb (show decode cX10_withLetter 8 = .ok (.lor, 1) by decide +kernel) ?_
  exact W.lret (v := wlt y x) hx hb hr (fun t ht hW => ⟨⟨wlt y x, (), rfl, rfl, trivial⟩, hSF.F ht⟩) hSF.2.2 (show decode cX10_withLetter 9 = .ok (.lreturn, 1) by decide +kernel)
