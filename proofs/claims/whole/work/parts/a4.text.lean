/-! TEXT: the JDK's own methods over a text that is a constant. -/
def sP (a v n sz : Nat) (byt : List Int32) (A : Nat → Prop) (U : State) : Prop := U.heap.size = sz ∧ vk_S 1 [n] [byt] (fun _ => a) (fun _ => v) A U U.heap ∧ va_Z "java/lang/String" "COMPACT_STRINGS" "Z" (.int 1) A U U.heap
theorem sP_bl {a v n sz : Nat} {byt : List Int32} {A : Nat → Prop} {av : List Value} : FrameBlind (va_Pc av (sP a v n sz byt A)) := by
  intro x U g mk q
  obtain ⟨q0, q1, qS, qZ⟩ := q
  exact ⟨q0, q1, vk_S.moved (u := U) (U := U.calling g mk x) (Vm.Alike.refl U.vm) qS, va_Z.moved (u := U) (U := U.calling g mk x) (Vm.Alike.refl U.vm) qZ⟩
theorem sP_of {a v n : Nat} {byt : List Int32} {A : Nat → Prop} {s : State} {H : Heap} {locs : List Loc} (h0 : vk_S 1 [n] [byt] (fun _ => a) (fun _ => v) A s s.heap) (hZ : va_Z "java/lang/String" "COMPACT_STRINGS" "Z" (.int 1) A s s.heap) (hS : va_S A s.heap H locs) (U : State) (hU : U.heap = H) (hW : s.WarmedH U.vm) : sP a v n H.size byt A U := by
  refine ⟨by rw [hU], ?_, ?_⟩
  · rw [hU]
    exact vk_S.moved hW.alike (vk_S.kept h0 hS.2.1)
  · rw [hU]
    exact va_Z.moved hW.alike (va_Z.kept hZ hS.2.1)
theorem va_SF {A : Nat → Prop} {H0 H : Heap} {locs : List Loc} (h : va_S (fun _ => False) H0 H locs) : va_S A H0 H locs := ⟨h.1, fun q h1 _ => h.2.1 q h1 (fun f => f), fun l hl => (h.2.2 l hl).elim⟩
theorem gdc {c c' : Cond} (h : c' ∈ nc_tb) : GoodIn (c :: nc_tb) (c' :: nc_tb) := by
  intro w hw
  have hm : w ∈ nc_tb := by
    rcases List.mem_cons.mp hw with e | e
    · rw [e]
      exact h
    · exact e
  exact ⟨List.mem_cons_of_mem _ hm, good_of_word (nc_good hm)⟩
abbrev txQ (x : Int32) : Array Value → State → Outcome → State → Prop := va_Qi (fun y (_ : Unit) => y = x) (fun _ _ => True) (fun _ => False)
set_option maxRecDepth 100000 in
set_option maxHeartbeats 4000000 in
theorem tx_coder (l : Launch) (a v n sz : Nat) (byt : List Int32) (A : Nat → Prop) : Met l yJ0_coder_7d493 (Cond.code yJ0_coder_7d493 cJ0_coder_7d493 1 (some .byte) :: nc_tb) { frames := 0, cells := 0, slots := 0, locals := 0 } (va_Pc [.ref a] (sP a v n sz byt A)) (txQ 0) 0 0 (fun _ => False) := by
  refine Met.ofW (cc := cJ0_coder_7d493) (maxL := 1) (ret := (some .byte)) (by decide) rfl ?_
  intro p e s m args below meth c s₁ B hml hv
  obtain ⟨rfl, hsz, hS0, hZ⟩ := hv
  have hx := B.exec
  have hb := B.bytes
  have hr := B.returns
  have hts := atoms_spec (ws := (Cond.code yJ0_coder_7d493 cJ0_coder_7d493 1 (some .byte) :: nc_tb)) B.pre
  have hown : s.vm.findClass RJ0 = some m.cls := findClass_of_methodNamed B.named
  have hT := (hS0.1 0 Nat.zero_lt_one).2.2.2
  have hV := (hS0.1 0 Nat.zero_lt_one).2.2.1
  have hC := (hS0.1 0 Nat.zero_lt_one).2.1
  have hSF : va_S (fun _ => False) s.heap s.heap [] := va_S.rf
  have hSA : va_S A s.heap s.heap [] := va_SF hSF
  have hl := lv_entry ([.ref a]) (n := 1) (Nat.le_of_ble_eq_true rfl)
  rw [lg_entry_eq]
  generalize (lg_sl ([.ref a]) ++ List.replicate (1 - (lg_sl ([.ref a])).length) Slot.unset).toArray = ls at hl ⊢
  have hl : lv_has ls 1 [(0, .ref a)] := hl
  refine va_gets (C := "java/lang/String") (n := "COMPACT_STRINGS") (d := "Z") (v := .int 1) hx hb hZ hSA hown (hts _ (List.mem_cons_of_mem _ (nc_at_in (p := (1, 50)) rfl rfl))) (fun _ h => h) (show decode cJ0_coder_7d493 0 = .ok (.getstatic 38, 3) by decide +kernel) ?_
  refine lv_if_eq (tgt := 13) hx hb (show decode cJ0_coder_7d493 3 = .ok (.ifCond .eq 10, 3) by decide +kernel) (by decide) (fun q9 => absurd q9 (by decide)) (fun _ => ?_)
  refine lv_aload_n hx hb (show decode cJ0_coder_7d493 6 = .ok (.aload_n 0, 1) by decide +kernel) rfl (lv_at hl 0 rfl) ?_
  refine vk_getf hx hb hC hSA hown (hts _ (List.mem_cons_of_mem _ (nc_at_in (p := (9, 121)) rfl rfl))) (fun _ h => h) (show decode cJ0_coder_7d493 7 = .ok (.getfield 15, 3) by decide +kernel) ?_
  refine lv_goto (tgt := 14) hx hb (show decode cJ0_coder_7d493 10 = .ok (.goto 4, 3) by decide +kernel) (by decide) ?_
  exact W.zret (v := 0) hx hb hr rfl (fun t ht hW => ⟨⟨0, (), rfl, rfl, trivial⟩, hSF.F ht⟩) hSF.2.2 (show decode cJ0_coder_7d493 14 = .ok (.ireturn, 1) by decide +kernel)
set_option maxRecDepth 100000 in
set_option maxHeartbeats 4000000 in
theorem tx_isLatin1 (l : Launch) (a v n sz : Nat) (byt : List Int32) (A : Nat → Prop) : Met l yJ0_isLatin1_aae02 (Cond.code yJ0_isLatin1_aae02 cJ0_isLatin1_aae02 1 (some .boolean) :: nc_tb) { frames := 0, cells := 0, slots := 0, locals := 0 } (va_Pc [.ref a] (sP a v n sz byt A)) (txQ 1) 0 0 (fun _ => False) := by
  refine Met.ofW (cc := cJ0_isLatin1_aae02) (maxL := 1) (ret := (some .boolean)) (by decide) rfl ?_
  intro p e s m args below meth c s₁ B hml hv
  obtain ⟨rfl, hsz, hS0, hZ⟩ := hv
  have hx := B.exec
  have hb := B.bytes
  have hr := B.returns
  have hts := atoms_spec (ws := (Cond.code yJ0_isLatin1_aae02 cJ0_isLatin1_aae02 1 (some .boolean) :: nc_tb)) B.pre
  have hown : s.vm.findClass RJ0 = some m.cls := findClass_of_methodNamed B.named
  have hT := (hS0.1 0 Nat.zero_lt_one).2.2.2
  have hV := (hS0.1 0 Nat.zero_lt_one).2.2.1
  have hC := (hS0.1 0 Nat.zero_lt_one).2.1
  have hSF : va_S (fun _ => False) s.heap s.heap [] := va_S.rf
  have hSA : va_S A s.heap s.heap [] := va_SF hSF
  have hl := lv_entry ([.ref a]) (n := 1) (Nat.le_of_ble_eq_true rfl)
  rw [lg_entry_eq]
  generalize (lg_sl ([.ref a]) ++ List.replicate (1 - (lg_sl ([.ref a])).length) Slot.unset).toArray = ls at hl ⊢
  have hl : lv_has ls 1 [(0, .ref a)] := hl
  refine va_gets (C := "java/lang/String") (n := "COMPACT_STRINGS") (d := "Z") (v := .int 1) hx hb hZ hSA hown (hts _ (List.mem_cons_of_mem _ (nc_at_in (p := (1, 50)) rfl rfl))) (fun _ h => h) (show decode cJ0_isLatin1_aae02 0 = .ok (.getstatic 38, 3) by decide +kernel) ?_
  refine lv_if_eq (tgt := 17) hx hb (show decode cJ0_isLatin1_aae02 3 = .ok (.ifCond .eq 14, 3) by decide +kernel) (by decide) (fun q9 => absurd q9 (by decide)) (fun _ => ?_)
  refine lv_aload_n hx hb (show decode cJ0_isLatin1_aae02 6 = .ok (.aload_n 0, 1) by decide +kernel) rfl (lv_at hl 0 rfl) ?_
  refine vk_getf hx hb hC hSA hown (hts _ (List.mem_cons_of_mem _ (nc_at_in (p := (9, 121)) rfl rfl))) (fun _ h => h) (show decode cJ0_isLatin1_aae02 7 = .ok (.getfield 15, 3) by decide +kernel) ?_
  refine lv_if_ne (tgt := 17) hx hb (show decode cJ0_isLatin1_aae02 10 = .ok (.ifCond .ne 7, 3) by decide +kernel) (by decide) (fun q9 => absurd q9 (fun h => h rfl)) (fun _ => ?_)
  refine lv_iconst (v := 1) hx hb (show decode cJ0_isLatin1_aae02 13 = .ok (.iconst 1, 1) by decide +kernel) (by decide) ?_
  refine lv_goto (tgt := 18) hx hb (show decode cJ0_isLatin1_aae02 14 = .ok (.goto 4, 3) by decide +kernel) (by decide) ?_
  exact W.zret (v := 1) hx hb hr rfl (fun t ht hW => ⟨⟨1, (), rfl, rfl, trivial⟩, hSF.F ht⟩) hSF.2.2 (show decode cJ0_isLatin1_aae02 18 = .ok (.ireturn, 1) by decide +kernel)
set_option maxRecDepth 100000 in
set_option maxHeartbeats 4000000 in
theorem tx_length (l : Launch) (a v n sz : Nat) (byt : List Int32) (A : Nat → Prop) (hn : n < 2 ^ 31) : Met l yJ0_length_8abf5 (Cond.code yJ0_length_8abf5 cJ0_length_8abf5 1 (some .int) :: nc_tb) { frames := 1, cells := 0, slots := 0, locals := 40 } (va_Pc [.ref a] (sP a v n sz byt A)) (txQ (nI n)) 0 0 (fun _ => False) := by
  refine Met.ofW (cc := cJ0_length_8abf5) (maxL := 1) (ret := (some .int)) (by decide) rfl ?_
  intro p e s m args below meth c s₁ B hml hv
  obtain ⟨rfl, hsz, hS0, hZ⟩ := hv
  have hx := B.exec
  have hb := B.bytes
  have hr := B.returns
  have hts := atoms_spec (ws := (Cond.code yJ0_length_8abf5 cJ0_length_8abf5 1 (some .int) :: nc_tb)) B.pre
  have hown : s.vm.findClass RJ0 = some m.cls := findClass_of_methodNamed B.named
  have hT := (hS0.1 0 Nat.zero_lt_one).2.2.2
  have hV := (hS0.1 0 Nat.zero_lt_one).2.2.1
  have hC := (hS0.1 0 Nat.zero_lt_one).2.1
  have hSF : va_S (fun _ => False) s.heap s.heap [] := va_S.rf
  have hSA : va_S A s.heap s.heap [] := va_SF hSF
  have hl := lv_entry ([.ref a]) (n := 1) (Nat.le_of_ble_eq_true rfl)
  rw [lg_entry_eq]
  generalize (lg_sl ([.ref a]) ++ List.replicate (1 - (lg_sl ([.ref a])).length) Slot.unset).toArray = ls at hl ⊢
  have hl : lv_has ls 1 [(0, .ref a)] := hl
  refine lv_aload_n hx hb (show decode cJ0_length_8abf5 0 = .ok (.aload_n 0, 1) by decide +kernel) rfl (lv_at hl 0 rfl) ?_
  refine vk_getf hx hb hV hSA hown (hts _ (List.mem_cons_of_mem _ (nc_at_in (p := (9, 120)) rfl rfl))) (fun _ h => h) (show decode cJ0_length_8abf5 1 = .ok (.getfield 9, 3) by decide +kernel) ?_
  refine va_tlen hx hb hT hSA (v := nI n) rfl (show decode cJ0_length_8abf5 4 = .ok (.arraylength, 1) by decide +kernel) ?_
  refine lv_aload_n hx hb (show decode cJ0_length_8abf5 5 = .ok (.aload_n 0, 1) by decide +kernel) rfl (lv_at hl 0 rfl) ?_
  refine va_calli (va_runV (C := "java/lang/String") (As := []) (rest := [.int (nI n)]) ⟨hx, hb, hml, hown, hts⟩ (tx_coder l a v n s.heap.size byt A) ⟨callB_of 0 hts (gdc (nc_at_in (p := (1, 49)) rfl rfl)) rfl rfl rfl (hts _ (List.mem_cons_of_mem _ (nc_at_in (p := (1, 3)) rfl rfl))) (hts _ (List.mem_cons_of_mem _ (nc_at_in (p := (1, 46)) rfl rfl))) ⟨by decide +kernel, by decide +kernel, by decide +kernel⟩ ⟨Nat.le_of_ble_eq_true rfl, Nat.le_of_ble_eq_true rfl⟩, (hts _ (List.mem_cons_of_mem _ (nc_at_in (p := (1, 47)) rfl rfl))), (hts _ (List.mem_cons_of_mem _ (nc_at_in (p := (1, 48)) rfl rfl)))⟩ ⟨sP_bl, vk_recv (adK := fun _ => a) (i := 0) hS0 Nat.zero_lt_one hSA, fun U hU hW => ⟨rfl, sP_of hS0 hZ hSA U hU hW⟩⟩ rfl rfl hl.1 rfl (lv_room (Nat.le_of_ble_eq_true rfl)) (show decode cJ0_length_8abf5 6 = .ok (.invokevirtual 335, 3) by decide +kernel) ⟨Nat.zero_le _, Nat.zero_le _⟩) hSF (fun q _ h => h.elim) (fun q h => h.elim) (fun r9 u9 t9 H9 locs9 ht9 hvm9 hw9 hB9 hz9 hk9 hSF => ?_)
  subst hw9
  have hSA : va_S A s.heap H9 locs9 := va_SF hSF
  refine lv_ishr hx hb (show decode cJ0_length_8abf5 9 = .ok (.ishr, 1) by decide +kernel) ?_
  have e9 : nI n >>> ((0 : Int32) &&& 31) = nI n := by
    rw [show ((0 : Int32) &&& 31) = 0 from rfl]
    exact Int32.shiftRight_zero
  rw [e9]
  exact W.iret (v := (nI n)) hx hb hr (fun t ht hW => ⟨⟨(nI n), (), rfl, rfl, trivial⟩, hSF.F ht⟩) hSF.2.2 (show decode cJ0_length_8abf5 10 = .ok (.ireturn, 1) by decide +kernel)
set_option maxRecDepth 100000 in
set_option maxHeartbeats 4000000 in
theorem tx_enc_t (l : Launch) (a v n sz : Nat) (byt : List Int32) (A : Nat → Prop) (x : Int32) (h0 : ¬ x < 0) (h1 : ¬ (255 : Int32) < x) : Met l yJ1_canEncode_9a6ad (Cond.code yJ1_canEncode_9a6ad cJ1_canEncode_9a6ad 1 (some .boolean) :: nc_tb) { frames := 0, cells := 0, slots := 0, locals := 0 } (va_Pc [.int x] (sP a v n sz byt A)) (txQ 1) 0 0 (fun _ => False) := by
  refine Met.ofW (cc := cJ1_canEncode_9a6ad) (maxL := 1) (ret := (some .boolean)) (by decide) rfl ?_
  intro p e s m args below meth c s₁ B hml hv
  obtain ⟨rfl, hsz, hS0, hZ⟩ := hv
  have hx := B.exec
  have hb := B.bytes
  have hr := B.returns
  have hts := atoms_spec (ws := (Cond.code yJ1_canEncode_9a6ad cJ1_canEncode_9a6ad 1 (some .boolean) :: nc_tb)) B.pre
  have hown : s.vm.findClass RJ1 = some m.cls := findClass_of_methodNamed B.named
  have hT := (hS0.1 0 Nat.zero_lt_one).2.2.2
  have hV := (hS0.1 0 Nat.zero_lt_one).2.2.1
  have hC := (hS0.1 0 Nat.zero_lt_one).2.1
  have hSF : va_S (fun _ => False) s.heap s.heap [] := va_S.rf
  have hSA : va_S A s.heap s.heap [] := va_SF hSF
  have hl := lv_entry ([.int x]) (n := 1) (Nat.le_of_ble_eq_true rfl)
  rw [lg_entry_eq]
  generalize (lg_sl ([.int x]) ++ List.replicate (1 - (lg_sl ([.int x])).length) Slot.unset).toArray = ls at hl ⊢
  have hl : lv_has ls 1 [(0, .int x)] := hl
  refine lv_iload_n hx hb (show decode cJ1_canEncode_9a6ad 0 = .ok (.iload_n 0, 1) by decide +kernel) rfl (lv_at hl 0 rfl) ?_
  refine lv_if_lt (tgt := 15) hx hb (show decode cJ1_canEncode_9a6ad 1 = .ok (.ifCond .lt 14, 3) by decide +kernel) (by decide) (fun q9 => absurd q9 h0) (fun _ => ?_)
  refine lv_iload_n hx hb (show decode cJ1_canEncode_9a6ad 4 = .ok (.iload_n 0, 1) by decide +kernel) rfl (lv_at hl 0 rfl) ?_
  refine lv_sipush (v := 255) hx hb (show decode cJ1_canEncode_9a6ad 5 = .ok (.sipush 255, 3) by decide +kernel) (by decide) ?_
  refine lv_icmp_gt (tgt := 15) hx hb (show decode cJ1_canEncode_9a6ad 8 = .ok (.if_icmp .gt 7, 3) by decide +kernel) (by decide) (fun q9 => absurd q9 h1) (fun _ => ?_)
  refine lv_iconst (v := 1) hx hb (show decode cJ1_canEncode_9a6ad 11 = .ok (.iconst 1, 1) by decide +kernel) (by decide) ?_
  refine lv_goto (tgt := 16) hx hb (show decode cJ1_canEncode_9a6ad 12 = .ok (.goto 4, 3) by decide +kernel) (by decide) ?_
  exact W.zret (v := 1) hx hb hr rfl (fun t ht hW => ⟨⟨1, (), rfl, rfl, trivial⟩, hSF.F ht⟩) hSF.2.2 (show decode cJ1_canEncode_9a6ad 16 = .ok (.ireturn, 1) by decide +kernel)
set_option maxRecDepth 100000 in
set_option maxHeartbeats 4000000 in
theorem tx_enc_n (l : Launch) (a v n sz : Nat) (byt : List Int32) (A : Nat → Prop) (x : Int32) (h0 : x < 0) : Met l yJ1_canEncode_9a6ad (Cond.code yJ1_canEncode_9a6ad cJ1_canEncode_9a6ad 1 (some .boolean) :: nc_tb) { frames := 0, cells := 0, slots := 0, locals := 0 } (va_Pc [.int x] (sP a v n sz byt A)) (txQ 0) 0 0 (fun _ => False) := by
  refine Met.ofW (cc := cJ1_canEncode_9a6ad) (maxL := 1) (ret := (some .boolean)) (by decide) rfl ?_
  intro p e s m args below meth c s₁ B hml hv
  obtain ⟨rfl, hsz, hS0, hZ⟩ := hv
  have hx := B.exec
  have hb := B.bytes
  have hr := B.returns
  have hts := atoms_spec (ws := (Cond.code yJ1_canEncode_9a6ad cJ1_canEncode_9a6ad 1 (some .boolean) :: nc_tb)) B.pre
  have hown : s.vm.findClass RJ1 = some m.cls := findClass_of_methodNamed B.named
  have hT := (hS0.1 0 Nat.zero_lt_one).2.2.2
  have hV := (hS0.1 0 Nat.zero_lt_one).2.2.1
  have hC := (hS0.1 0 Nat.zero_lt_one).2.1
  have hSF : va_S (fun _ => False) s.heap s.heap [] := va_S.rf
  have hSA : va_S A s.heap s.heap [] := va_SF hSF
  have hl := lv_entry ([.int x]) (n := 1) (Nat.le_of_ble_eq_true rfl)
  rw [lg_entry_eq]
  generalize (lg_sl ([.int x]) ++ List.replicate (1 - (lg_sl ([.int x])).length) Slot.unset).toArray = ls at hl ⊢
  have hl : lv_has ls 1 [(0, .int x)] := hl
  refine lv_iload_n hx hb (show decode cJ1_canEncode_9a6ad 0 = .ok (.iload_n 0, 1) by decide +kernel) rfl (lv_at hl 0 rfl) ?_
  refine lv_if_lt (tgt := 15) hx hb (show decode cJ1_canEncode_9a6ad 1 = .ok (.ifCond .lt 14, 3) by decide +kernel) (by decide) (fun _ => ?_) (fun q9 => absurd h0 q9)
  refine lv_iconst (v := 0) hx hb (show decode cJ1_canEncode_9a6ad 15 = .ok (.iconst 0, 1) by decide +kernel) (by decide) ?_
  exact W.zret (v := 0) hx hb hr rfl (fun t ht hW => ⟨⟨0, (), rfl, rfl, trivial⟩, hSF.F ht⟩) hSF.2.2 (show decode cJ1_canEncode_9a6ad 16 = .ok (.ireturn, 1) by decide +kernel)
set_option maxRecDepth 100000 in
set_option maxHeartbeats 4000000 in
theorem tx_enc_g (l : Launch) (a v n sz : Nat) (byt : List Int32) (A : Nat → Prop) (x : Int32) (h0 : ¬ x < 0) (h1 : (255 : Int32) < x) : Met l yJ1_canEncode_9a6ad (Cond.code yJ1_canEncode_9a6ad cJ1_canEncode_9a6ad 1 (some .boolean) :: nc_tb) { frames := 0, cells := 0, slots := 0, locals := 0 } (va_Pc [.int x] (sP a v n sz byt A)) (txQ 0) 0 0 (fun _ => False) := by
  refine Met.ofW (cc := cJ1_canEncode_9a6ad) (maxL := 1) (ret := (some .boolean)) (by decide) rfl ?_
  intro p e s m args below meth c s₁ B hml hv
  obtain ⟨rfl, hsz, hS0, hZ⟩ := hv
  have hx := B.exec
  have hb := B.bytes
  have hr := B.returns
  have hts := atoms_spec (ws := (Cond.code yJ1_canEncode_9a6ad cJ1_canEncode_9a6ad 1 (some .boolean) :: nc_tb)) B.pre
  have hown : s.vm.findClass RJ1 = some m.cls := findClass_of_methodNamed B.named
  have hT := (hS0.1 0 Nat.zero_lt_one).2.2.2
  have hV := (hS0.1 0 Nat.zero_lt_one).2.2.1
  have hC := (hS0.1 0 Nat.zero_lt_one).2.1
  have hSF : va_S (fun _ => False) s.heap s.heap [] := va_S.rf
  have hSA : va_S A s.heap s.heap [] := va_SF hSF
  have hl := lv_entry ([.int x]) (n := 1) (Nat.le_of_ble_eq_true rfl)
  rw [lg_entry_eq]
  generalize (lg_sl ([.int x]) ++ List.replicate (1 - (lg_sl ([.int x])).length) Slot.unset).toArray = ls at hl ⊢
  have hl : lv_has ls 1 [(0, .int x)] := hl
  refine lv_iload_n hx hb (show decode cJ1_canEncode_9a6ad 0 = .ok (.iload_n 0, 1) by decide +kernel) rfl (lv_at hl 0 rfl) ?_
  refine lv_if_lt (tgt := 15) hx hb (show decode cJ1_canEncode_9a6ad 1 = .ok (.ifCond .lt 14, 3) by decide +kernel) (by decide) (fun q9 => absurd q9 h0) (fun _ => ?_)
  refine lv_iload_n hx hb (show decode cJ1_canEncode_9a6ad 4 = .ok (.iload_n 0, 1) by decide +kernel) rfl (lv_at hl 0 rfl) ?_
  refine lv_sipush (v := 255) hx hb (show decode cJ1_canEncode_9a6ad 5 = .ok (.sipush 255, 3) by decide +kernel) (by decide) ?_
  refine lv_icmp_gt (tgt := 15) hx hb (show decode cJ1_canEncode_9a6ad 8 = .ok (.if_icmp .gt 7, 3) by decide +kernel) (by decide) (fun _ => ?_) (fun q9 => absurd h1 q9)
  refine lv_iconst (v := 0) hx hb (show decode cJ1_canEncode_9a6ad 15 = .ok (.iconst 0, 1) by decide +kernel) (by decide) ?_
  exact W.zret (v := 0) hx hb hr rfl (fun t ht hW => ⟨⟨0, (), rfl, rfl, trivial⟩, hSF.F ht⟩) hSF.2.2 (show decode cJ1_canEncode_9a6ad 16 = .ok (.ireturn, 1) by decide +kernel)
theorem sig_b : ∀ k, k < 256 → (if (59 : Int32) = (nI k).toInt8.toInt32 then 0 else if (60 : Int32) = (nI k).toInt8.toInt32 then 1 else if (61 : Int32) = (nI k).toInt8.toInt32 then 2 else if (62 : Int32) = (nI k).toInt8.toInt32 then 3 else if (40 : Int32) = (nI k).toInt8.toInt32 then 4 else if (41 : Int32) = (nI k).toInt8.toInt32 then 5 else -1) = nc_sig (nI k) := by decide +kernel
theorem sig_n {x : Int32} (h : x < 0 ∨ (255 : Int32) < x) : nc_sig x = -1 := by
  have e : ∀ c : Int32, 0 ≤ c → c ≤ 255 → x ≠ c := fun c h1 h2 e => by
    rcases h with h | h
    · exact absurd (e ▸ h1) (Int32.not_le.mpr h)
    · exact absurd (e ▸ h2) (Int32.not_le.mpr h)
  unfold nc_sig
  rw [if_neg (e 59 (by decide) (by decide)), if_neg (e 60 (by decide) (by decide)), if_neg (e 61 (by decide) (by decide)), if_neg (e 62 (by decide) (by decide)), if_neg (e 40 (by decide) (by decide)), if_neg (e 41 (by decide) (by decide))]
set_option maxRecDepth 100000 in
set_option maxHeartbeats 4000000 in
theorem tx_char (l : Launch) (a v sz : Nat) (A : Nat → Prop) (k : Nat) (hk : k < 256) : Met l yJ1_indexOfChar_4cfef (Cond.code yJ1_indexOfChar_4cfef cJ1_indexOfChar_4cfef 6 (some .int) :: nc_tb) { frames := 0, cells := 0, slots := 0, locals := 0 } (va_Pc [.ref v, .int (nI k), .int 0, .int 6] (sP a v 6 sz [59, 60, 61, 62, 40, 41] A)) (txQ (nc_sig (nI k))) 0 0 (fun _ => False) := by
  refine Met.ofW (cc := cJ1_indexOfChar_4cfef) (maxL := 6) (ret := (some .int)) (by decide) rfl ?_
  intro p e s m args below meth c s₁ B hml hv
  obtain ⟨rfl, hsz, hS0, hZ⟩ := hv
  have hx := B.exec
  have hb := B.bytes
  have hr := B.returns
  have hts := atoms_spec (ws := (Cond.code yJ1_indexOfChar_4cfef cJ1_indexOfChar_4cfef 6 (some .int) :: nc_tb)) B.pre
  have hown : s.vm.findClass RJ1 = some m.cls := findClass_of_methodNamed B.named
  have hT := (hS0.1 0 Nat.zero_lt_one).2.2.2
  have hV := (hS0.1 0 Nat.zero_lt_one).2.2.1
  have hC := (hS0.1 0 Nat.zero_lt_one).2.1
  have hSF : va_S (fun _ => False) s.heap s.heap [] := va_S.rf
  have hSA : va_S A s.heap s.heap [] := va_SF hSF
  have hl := lv_entry ([.ref v, .int (nI k), .int 0, .int 6]) (n := 6) (Nat.le_of_ble_eq_true rfl)
  rw [lg_entry_eq]
  generalize (lg_sl ([.ref v, .int (nI k), .int 0, .int 6]) ++ List.replicate (6 - (lg_sl ([.ref v, .int (nI k), .int 0, .int 6])).length) Slot.unset).toArray = ls at hl ⊢
  have hl : lv_has ls 6 [(0, .ref v), (1, .int (nI k)), (2, .int 0), (3, .int 6)] := hl
  rw [← sig_b k hk]
  refine lv_iload_n hx hb (show decode cJ1_indexOfChar_4cfef 0 = .ok (.iload_n 1, 1) by decide +kernel) rfl (lv_at hl 1 rfl) ?_
  refine lv_i2b (v := (nI k).toInt8.toInt32) hx hb (show decode cJ1_indexOfChar_4cfef 1 = .ok (.i2b, 1) by decide +kernel) rfl ?_
  refine lv_istore (lv' := [(4, .int ((nI k).toInt8.toInt32)), (0, .ref v), (1, .int (nI k)), (2, .int 0), (3, .int 6)]) hx hb (show decode cJ1_indexOfChar_4cfef 2 = .ok (.istore 4, 2) by decide +kernel) hl (by decide) rfl (fun ls hl => ?_)
  refine lv_iload_n hx hb (show decode cJ1_indexOfChar_4cfef 4 = .ok (.iload_n 2, 1) by decide +kernel) rfl (lv_at hl 3 rfl) ?_
  refine lv_istore (lv' := [(5, .int 0), (4, .int ((nI k).toInt8.toInt32)), (0, .ref v), (1, .int (nI k)), (2, .int 0), (3, .int 6)]) hx hb (show decode cJ1_indexOfChar_4cfef 5 = .ok (.istore 5, 2) by decide +kernel) hl (by decide) rfl (fun ls hl => ?_)
  refine lv_iload hx hb (show decode cJ1_indexOfChar_4cfef 7 = .ok (.iload 5, 2) by decide +kernel) (lv_at hl 0 rfl) ?_
  refine lv_iload_n hx hb (show decode cJ1_indexOfChar_4cfef 9 = .ok (.iload_n 3, 1) by decide +kernel) rfl (lv_at hl 5 rfl) ?_
  refine lv_icmp_ge (tgt := 31) hx hb (show decode cJ1_indexOfChar_4cfef 10 = .ok (.if_icmp .ge 21, 3) by decide +kernel) (by decide) (fun q9 => absurd q9 (by decide)) (fun _ => ?_)
  refine lv_aload_n hx hb (show decode cJ1_indexOfChar_4cfef 13 = .ok (.aload_n 0, 1) by decide +kernel) rfl (lv_at hl 2 rfl) ?_
  refine lv_iload hx hb (show decode cJ1_indexOfChar_4cfef 14 = .ok (.iload 5, 2) by decide +kernel) (lv_at hl 0 rfl) ?_
  refine va_tb hx hb hT hSA (i := 0) (v := .int 59) (show vp_in (nI 0) 6 from vp_in_nI (by decide) (by decide)) rfl (show decode cJ1_indexOfChar_4cfef 16 = .ok (.baload, 1) by decide +kernel) ?_
  refine lv_iload hx hb (show decode cJ1_indexOfChar_4cfef 17 = .ok (.iload 4, 2) by decide +kernel) (lv_at hl 1 rfl) ?_
  refine lv_icmp_ne (tgt := 25) hx hb (show decode cJ1_indexOfChar_4cfef 19 = .ok (.if_icmp .ne 6, 3) by decide +kernel) (by decide) (fun n0 => ?_) (fun e0 => ?_)
  rotate_left
  · rw [if_pos e0]
    refine lv_iload hx hb (show decode cJ1_indexOfChar_4cfef 22 = .ok (.iload 5, 2) by decide +kernel) (lv_at hl 0 rfl) ?_
    exact W.iret (v := 0) hx hb hr (fun t ht hW => ⟨⟨0, (), rfl, rfl, trivial⟩, hSF.F ht⟩) hSF.2.2 (show decode cJ1_indexOfChar_4cfef 24 = .ok (.ireturn, 1) by decide +kernel)
  refine lv_iinc (v := 1) (lv' := [(5, .int 1), (4, .int ((nI k).toInt8.toInt32)), (0, .ref v), (1, .int (nI k)), (2, .int 0), (3, .int 6)]) hx hb (show decode cJ1_indexOfChar_4cfef 25 = .ok (.iinc 5 1, 3) by decide +kernel) hl (k := 0) rfl (by decide) (by decide) rfl (fun ls hl => ?_)
  refine lv_goto (tgt := 7) hx hb (show decode cJ1_indexOfChar_4cfef 28 = .ok (.goto (-21), 3) by decide +kernel) (by decide) ?_
  refine lv_iload hx hb (show decode cJ1_indexOfChar_4cfef 7 = .ok (.iload 5, 2) by decide +kernel) (lv_at hl 0 rfl) ?_
  refine lv_iload_n hx hb (show decode cJ1_indexOfChar_4cfef 9 = .ok (.iload_n 3, 1) by decide +kernel) rfl (lv_at hl 5 rfl) ?_
  refine lv_icmp_ge (tgt := 31) hx hb (show decode cJ1_indexOfChar_4cfef 10 = .ok (.if_icmp .ge 21, 3) by decide +kernel) (by decide) (fun q9 => absurd q9 (by decide)) (fun _ => ?_)
  refine lv_aload_n hx hb (show decode cJ1_indexOfChar_4cfef 13 = .ok (.aload_n 0, 1) by decide +kernel) rfl (lv_at hl 2 rfl) ?_
  refine lv_iload hx hb (show decode cJ1_indexOfChar_4cfef 14 = .ok (.iload 5, 2) by decide +kernel) (lv_at hl 0 rfl) ?_
  refine va_tb hx hb hT hSA (i := 1) (v := .int 60) (show vp_in (nI 1) 6 from vp_in_nI (by decide) (by decide)) rfl (show decode cJ1_indexOfChar_4cfef 16 = .ok (.baload, 1) by decide +kernel) ?_
  refine lv_iload hx hb (show decode cJ1_indexOfChar_4cfef 17 = .ok (.iload 4, 2) by decide +kernel) (lv_at hl 1 rfl) ?_
  refine lv_icmp_ne (tgt := 25) hx hb (show decode cJ1_indexOfChar_4cfef 19 = .ok (.if_icmp .ne 6, 3) by decide +kernel) (by decide) (fun n1 => ?_) (fun e1 => ?_)
  rotate_left
  · rw [if_neg n0, if_pos e1]
    refine lv_iload hx hb (show decode cJ1_indexOfChar_4cfef 22 = .ok (.iload 5, 2) by decide +kernel) (lv_at hl 0 rfl) ?_
    exact W.iret (v := 1) hx hb hr (fun t ht hW => ⟨⟨1, (), rfl, rfl, trivial⟩, hSF.F ht⟩) hSF.2.2 (show decode cJ1_indexOfChar_4cfef 24 = .ok (.ireturn, 1) by decide +kernel)
  refine lv_iinc (v := 2) (lv' := [(5, .int 2), (4, .int ((nI k).toInt8.toInt32)), (0, .ref v), (1, .int (nI k)), (2, .int 0), (3, .int 6)]) hx hb (show decode cJ1_indexOfChar_4cfef 25 = .ok (.iinc 5 1, 3) by decide +kernel) hl (k := 0) rfl (by decide) (by decide) rfl (fun ls hl => ?_)
  refine lv_goto (tgt := 7) hx hb (show decode cJ1_indexOfChar_4cfef 28 = .ok (.goto (-21), 3) by decide +kernel) (by decide) ?_
  refine lv_iload hx hb (show decode cJ1_indexOfChar_4cfef 7 = .ok (.iload 5, 2) by decide +kernel) (lv_at hl 0 rfl) ?_
  refine lv_iload_n hx hb (show decode cJ1_indexOfChar_4cfef 9 = .ok (.iload_n 3, 1) by decide +kernel) rfl (lv_at hl 5 rfl) ?_
  refine lv_icmp_ge (tgt := 31) hx hb (show decode cJ1_indexOfChar_4cfef 10 = .ok (.if_icmp .ge 21, 3) by decide +kernel) (by decide) (fun q9 => absurd q9 (by decide)) (fun _ => ?_)
  refine lv_aload_n hx hb (show decode cJ1_indexOfChar_4cfef 13 = .ok (.aload_n 0, 1) by decide +kernel) rfl (lv_at hl 2 rfl) ?_
  refine lv_iload hx hb (show decode cJ1_indexOfChar_4cfef 14 = .ok (.iload 5, 2) by decide +kernel) (lv_at hl 0 rfl) ?_
  refine va_tb hx hb hT hSA (i := 2) (v := .int 61) (show vp_in (nI 2) 6 from vp_in_nI (by decide) (by decide)) rfl (show decode cJ1_indexOfChar_4cfef 16 = .ok (.baload, 1) by decide +kernel) ?_
  refine lv_iload hx hb (show decode cJ1_indexOfChar_4cfef 17 = .ok (.iload 4, 2) by decide +kernel) (lv_at hl 1 rfl) ?_
  refine lv_icmp_ne (tgt := 25) hx hb (show decode cJ1_indexOfChar_4cfef 19 = .ok (.if_icmp .ne 6, 3) by decide +kernel) (by decide) (fun n2 => ?_) (fun e2 => ?_)
  rotate_left
  · rw [if_neg n0, if_neg n1, if_pos e2]
    refine lv_iload hx hb (show decode cJ1_indexOfChar_4cfef 22 = .ok (.iload 5, 2) by decide +kernel) (lv_at hl 0 rfl) ?_
    exact W.iret (v := 2) hx hb hr (fun t ht hW => ⟨⟨2, (), rfl, rfl, trivial⟩, hSF.F ht⟩) hSF.2.2 (show decode cJ1_indexOfChar_4cfef 24 = .ok (.ireturn, 1) by decide +kernel)
  refine lv_iinc (v := 3) (lv' := [(5, .int 3), (4, .int ((nI k).toInt8.toInt32)), (0, .ref v), (1, .int (nI k)), (2, .int 0), (3, .int 6)]) hx hb (show decode cJ1_indexOfChar_4cfef 25 = .ok (.iinc 5 1, 3) by decide +kernel) hl (k := 0) rfl (by decide) (by decide) rfl (fun ls hl => ?_)
  refine lv_goto (tgt := 7) hx hb (show decode cJ1_indexOfChar_4cfef 28 = .ok (.goto (-21), 3) by decide +kernel) (by decide) ?_
  refine lv_iload hx hb (show decode cJ1_indexOfChar_4cfef 7 = .ok (.iload 5, 2) by decide +kernel) (lv_at hl 0 rfl) ?_
  refine lv_iload_n hx hb (show decode cJ1_indexOfChar_4cfef 9 = .ok (.iload_n 3, 1) by decide +kernel) rfl (lv_at hl 5 rfl) ?_
  refine lv_icmp_ge (tgt := 31) hx hb (show decode cJ1_indexOfChar_4cfef 10 = .ok (.if_icmp .ge 21, 3) by decide +kernel) (by decide) (fun q9 => absurd q9 (by decide)) (fun _ => ?_)
  refine lv_aload_n hx hb (show decode cJ1_indexOfChar_4cfef 13 = .ok (.aload_n 0, 1) by decide +kernel) rfl (lv_at hl 2 rfl) ?_
  refine lv_iload hx hb (show decode cJ1_indexOfChar_4cfef 14 = .ok (.iload 5, 2) by decide +kernel) (lv_at hl 0 rfl) ?_
  refine va_tb hx hb hT hSA (i := 3) (v := .int 62) (show vp_in (nI 3) 6 from vp_in_nI (by decide) (by decide)) rfl (show decode cJ1_indexOfChar_4cfef 16 = .ok (.baload, 1) by decide +kernel) ?_
  refine lv_iload hx hb (show decode cJ1_indexOfChar_4cfef 17 = .ok (.iload 4, 2) by decide +kernel) (lv_at hl 1 rfl) ?_
  refine lv_icmp_ne (tgt := 25) hx hb (show decode cJ1_indexOfChar_4cfef 19 = .ok (.if_icmp .ne 6, 3) by decide +kernel) (by decide) (fun n3 => ?_) (fun e3 => ?_)
  rotate_left
  · rw [if_neg n0, if_neg n1, if_neg n2, if_pos e3]
    refine lv_iload hx hb (show decode cJ1_indexOfChar_4cfef 22 = .ok (.iload 5, 2) by decide +kernel) (lv_at hl 0 rfl) ?_
    exact W.iret (v := 3) hx hb hr (fun t ht hW => ⟨⟨3, (), rfl, rfl, trivial⟩, hSF.F ht⟩) hSF.2.2 (show decode cJ1_indexOfChar_4cfef 24 = .ok (.ireturn, 1) by decide +kernel)
  refine lv_iinc (v := 4) (lv' := [(5, .int 4), (4, .int ((nI k).toInt8.toInt32)), (0, .ref v), (1, .int (nI k)), (2, .int 0), (3, .int 6)]) hx hb (show decode cJ1_indexOfChar_4cfef 25 = .ok (.iinc 5 1, 3) by decide +kernel) hl (k := 0) rfl (by decide) (by decide) rfl (fun ls hl => ?_)
  refine lv_goto (tgt := 7) hx hb (show decode cJ1_indexOfChar_4cfef 28 = .ok (.goto (-21), 3) by decide +kernel) (by decide) ?_
  refine lv_iload hx hb (show decode cJ1_indexOfChar_4cfef 7 = .ok (.iload 5, 2) by decide +kernel) (lv_at hl 0 rfl) ?_
  refine lv_iload_n hx hb (show decode cJ1_indexOfChar_4cfef 9 = .ok (.iload_n 3, 1) by decide +kernel) rfl (lv_at hl 5 rfl) ?_
  refine lv_icmp_ge (tgt := 31) hx hb (show decode cJ1_indexOfChar_4cfef 10 = .ok (.if_icmp .ge 21, 3) by decide +kernel) (by decide) (fun q9 => absurd q9 (by decide)) (fun _ => ?_)
  refine lv_aload_n hx hb (show decode cJ1_indexOfChar_4cfef 13 = .ok (.aload_n 0, 1) by decide +kernel) rfl (lv_at hl 2 rfl) ?_
  refine lv_iload hx hb (show decode cJ1_indexOfChar_4cfef 14 = .ok (.iload 5, 2) by decide +kernel) (lv_at hl 0 rfl) ?_
  refine va_tb hx hb hT hSA (i := 4) (v := .int 40) (show vp_in (nI 4) 6 from vp_in_nI (by decide) (by decide)) rfl (show decode cJ1_indexOfChar_4cfef 16 = .ok (.baload, 1) by decide +kernel) ?_
  refine lv_iload hx hb (show decode cJ1_indexOfChar_4cfef 17 = .ok (.iload 4, 2) by decide +kernel) (lv_at hl 1 rfl) ?_
  refine lv_icmp_ne (tgt := 25) hx hb (show decode cJ1_indexOfChar_4cfef 19 = .ok (.if_icmp .ne 6, 3) by decide +kernel) (by decide) (fun n4 => ?_) (fun e4 => ?_)
  rotate_left
  · rw [if_neg n0, if_neg n1, if_neg n2, if_neg n3, if_pos e4]
    refine lv_iload hx hb (show decode cJ1_indexOfChar_4cfef 22 = .ok (.iload 5, 2) by decide +kernel) (lv_at hl 0 rfl) ?_
    exact W.iret (v := 4) hx hb hr (fun t ht hW => ⟨⟨4, (), rfl, rfl, trivial⟩, hSF.F ht⟩) hSF.2.2 (show decode cJ1_indexOfChar_4cfef 24 = .ok (.ireturn, 1) by decide +kernel)
  refine lv_iinc (v := 5) (lv' := [(5, .int 5), (4, .int ((nI k).toInt8.toInt32)), (0, .ref v), (1, .int (nI k)), (2, .int 0), (3, .int 6)]) hx hb (show decode cJ1_indexOfChar_4cfef 25 = .ok (.iinc 5 1, 3) by decide +kernel) hl (k := 0) rfl (by decide) (by decide) rfl (fun ls hl => ?_)
  refine lv_goto (tgt := 7) hx hb (show decode cJ1_indexOfChar_4cfef 28 = .ok (.goto (-21), 3) by decide +kernel) (by decide) ?_
  refine lv_iload hx hb (show decode cJ1_indexOfChar_4cfef 7 = .ok (.iload 5, 2) by decide +kernel) (lv_at hl 0 rfl) ?_
  refine lv_iload_n hx hb (show decode cJ1_indexOfChar_4cfef 9 = .ok (.iload_n 3, 1) by decide +kernel) rfl (lv_at hl 5 rfl) ?_
  refine lv_icmp_ge (tgt := 31) hx hb (show decode cJ1_indexOfChar_4cfef 10 = .ok (.if_icmp .ge 21, 3) by decide +kernel) (by decide) (fun q9 => absurd q9 (by decide)) (fun _ => ?_)
  refine lv_aload_n hx hb (show decode cJ1_indexOfChar_4cfef 13 = .ok (.aload_n 0, 1) by decide +kernel) rfl (lv_at hl 2 rfl) ?_
  refine lv_iload hx hb (show decode cJ1_indexOfChar_4cfef 14 = .ok (.iload 5, 2) by decide +kernel) (lv_at hl 0 rfl) ?_
  refine va_tb hx hb hT hSA (i := 5) (v := .int 41) (show vp_in (nI 5) 6 from vp_in_nI (by decide) (by decide)) rfl (show decode cJ1_indexOfChar_4cfef 16 = .ok (.baload, 1) by decide +kernel) ?_
  refine lv_iload hx hb (show decode cJ1_indexOfChar_4cfef 17 = .ok (.iload 4, 2) by decide +kernel) (lv_at hl 1 rfl) ?_
  refine lv_icmp_ne (tgt := 25) hx hb (show decode cJ1_indexOfChar_4cfef 19 = .ok (.if_icmp .ne 6, 3) by decide +kernel) (by decide) (fun n5 => ?_) (fun e5 => ?_)
  rotate_left
  · rw [if_neg n0, if_neg n1, if_neg n2, if_neg n3, if_neg n4, if_pos e5]
    refine lv_iload hx hb (show decode cJ1_indexOfChar_4cfef 22 = .ok (.iload 5, 2) by decide +kernel) (lv_at hl 0 rfl) ?_
    exact W.iret (v := 5) hx hb hr (fun t ht hW => ⟨⟨5, (), rfl, rfl, trivial⟩, hSF.F ht⟩) hSF.2.2 (show decode cJ1_indexOfChar_4cfef 24 = .ok (.ireturn, 1) by decide +kernel)
  refine lv_iinc (v := 6) (lv' := [(5, .int 6), (4, .int ((nI k).toInt8.toInt32)), (0, .ref v), (1, .int (nI k)), (2, .int 0), (3, .int 6)]) hx hb (show decode cJ1_indexOfChar_4cfef 25 = .ok (.iinc 5 1, 3) by decide +kernel) hl (k := 0) rfl (by decide) (by decide) rfl (fun ls hl => ?_)
  refine lv_goto (tgt := 7) hx hb (show decode cJ1_indexOfChar_4cfef 28 = .ok (.goto (-21), 3) by decide +kernel) (by decide) ?_
  refine lv_iload hx hb (show decode cJ1_indexOfChar_4cfef 7 = .ok (.iload 5, 2) by decide +kernel) (lv_at hl 0 rfl) ?_
  refine lv_iload_n hx hb (show decode cJ1_indexOfChar_4cfef 9 = .ok (.iload_n 3, 1) by decide +kernel) rfl (lv_at hl 5 rfl) ?_
  refine lv_icmp_ge (tgt := 31) hx hb (show decode cJ1_indexOfChar_4cfef 10 = .ok (.if_icmp .ge 21, 3) by decide +kernel) (by decide) (fun _ => ?_) (fun q9 => absurd (by decide) q9)
  refine lv_iconst (v := (-1)) hx hb (show decode cJ1_indexOfChar_4cfef 31 = .ok (.iconst (-1), 1) by decide +kernel) (by decide) ?_
  rw [if_neg n0, if_neg n1, if_neg n2, if_neg n3, if_neg n4, if_neg n5]
  exact W.iret (v := (-1)) hx hb hr (fun t ht hW => ⟨⟨(-1), (), rfl, rfl, trivial⟩, hSF.F ht⟩) hSF.2.2 (show decode cJ1_indexOfChar_4cfef 32 = .ok (.ireturn, 1) by decide +kernel)
set_option maxRecDepth 100000 in
set_option maxHeartbeats 4000000 in
theorem tx_li_t (l : Launch) (a v sz : Nat) (A : Nat → Prop) (k : Nat) (hk : k < 256) : Met l yJ1_indexOf_4cfef (Cond.code yJ1_indexOf_4cfef cJ1_indexOf_4cfef 4 (some .int) :: nc_tb) { frames := 1, cells := 0, slots := 0, locals := 40 } (va_Pc [.ref v, .int (nI k), .int 0, .int 6] (sP a v 6 sz [59, 60, 61, 62, 40, 41] A)) (txQ (nc_sig (nI k))) 0 0 (fun _ => False) := by
  refine Met.ofW (cc := cJ1_indexOf_4cfef) (maxL := 4) (ret := (some .int)) (by decide) rfl ?_
  intro p e s m args below meth c s₁ B hml hv
  obtain ⟨rfl, hsz, hS0, hZ⟩ := hv
  have hx := B.exec
  have hb := B.bytes
  have hr := B.returns
  have hts := atoms_spec (ws := (Cond.code yJ1_indexOf_4cfef cJ1_indexOf_4cfef 4 (some .int) :: nc_tb)) B.pre
  have hown : s.vm.findClass RJ1 = some m.cls := findClass_of_methodNamed B.named
  have hT := (hS0.1 0 Nat.zero_lt_one).2.2.2
  have hV := (hS0.1 0 Nat.zero_lt_one).2.2.1
  have hC := (hS0.1 0 Nat.zero_lt_one).2.1
  have hSF : va_S (fun _ => False) s.heap s.heap [] := va_S.rf
  have hSA : va_S A s.heap s.heap [] := va_SF hSF
  have hl := lv_entry ([.ref v, .int (nI k), .int 0, .int 6]) (n := 4) (Nat.le_of_ble_eq_true rfl)
  rw [lg_entry_eq]
  generalize (lg_sl ([.ref v, .int (nI k), .int 0, .int 6]) ++ List.replicate (4 - (lg_sl ([.ref v, .int (nI k), .int 0, .int 6])).length) Slot.unset).toArray = ls at hl ⊢
  have hl : lv_has ls 4 [(0, .ref v), (1, .int (nI k)), (2, .int 0), (3, .int 6)] := hl
  refine lv_iload_n hx hb (show decode cJ1_indexOf_4cfef 0 = .ok (.iload_n 1, 1) by decide +kernel) rfl (lv_at hl 1 rfl) ?_
  have h0 : ¬ nI k < 0 := nI_pos (by omega)
  have h1 : ¬ (255 : Int32) < nI k := fun z => by have := (nI_litlt (c := 255) (n := k) (by omega) (by omega)).mp z; omega
  refine va_calli (va_runS (As := [.int (nI k)]) (rest := []) ⟨hx, hb, hml, hown, hts⟩ (tx_enc_t l a v 6 s.heap.size [59, 60, 61, 62, 40, 41] A (nI k) h0 h1) ⟨callB_of 1 hts (gdc (nc_at_in (p := (3, 201)) rfl rfl)) rfl rfl rfl (hts _ (List.mem_cons_of_mem _ (nc_at_in (p := (1, 4)) rfl rfl))) (hts _ (List.mem_cons_of_mem _ (nc_at_in (p := (3, 199)) rfl rfl))) ⟨by decide +kernel, by decide +kernel, by decide +kernel⟩ ⟨Nat.le_of_ble_eq_true rfl, Nat.le_of_ble_eq_true rfl⟩, (hts _ (List.mem_cons_of_mem _ (nc_at_in (p := (3, 200)) rfl rfl)))⟩ ⟨sP_bl, fun U hU hW => ⟨rfl, sP_of hS0 hZ hSA U hU hW⟩⟩ rfl rfl hl.1 rfl (lv_room (Nat.le_of_ble_eq_true rfl)) (show decode cJ1_indexOf_4cfef 1 = .ok (.invokestatic 88, 3) by decide +kernel) ⟨Nat.zero_le _, Nat.zero_le _⟩) hSF (fun q _ h => h.elim) (fun q h => h.elim) (fun r9 u9 t9 H9 locs9 ht9 hvm9 hw9 hB9 hz9 hk9 hSF => ?_)
  subst hw9
  have hSA : va_S A s.heap H9 locs9 := va_SF hSF
  refine lv_if_ne (tgt := 9) hx hb (show decode cJ1_indexOf_4cfef 4 = .ok (.ifCond .ne 5, 3) by decide +kernel) (by decide) (fun _ => ?_) (fun q9 => absurd q9 (by decide))
  refine lv_iload_n hx hb (show decode cJ1_indexOf_4cfef 9 = .ok (.iload_n 2, 1) by decide +kernel) rfl (lv_at hl 2 rfl) ?_
  refine lv_iconst (v := 0) hx hb (show decode cJ1_indexOf_4cfef 10 = .ok (.iconst 0, 1) by decide +kernel) (by decide) ?_
  refine va_mmax hx hb (by rw [hml]; exact hl.1.symm) hown (hts _ (List.mem_cons_of_mem _ (nc_at_in (p := (3, 202)) rfl rfl))) (hts _ (List.mem_cons_of_mem _ (nc_at_in (p := (3, 203)) rfl rfl))) (hts _ (List.mem_cons_of_mem _ (nc_at_in (p := (1, 19)) rfl rfl))) (hts _ (List.mem_cons_of_mem _ (nc_at_in (p := (3, 204)) rfl rfl))) (Nat.le_of_ble_eq_true rfl) (Nat.le_of_ble_eq_true rfl) (Nat.zero_le _) (Nat.zero_le _) (show decode cJ1_indexOf_4cfef 11 = .ok (.invokestatic 92, 3) by decide +kernel) ?_
  refine W.eq (g2 := F0 m 14 ls [.int 0]) rfl ?_
  refine lv_istore_n (lv' := [(2, .int 0), (0, .ref v), (1, .int (nI k)), (3, .int 6)]) hx hb (show decode cJ1_indexOf_4cfef 14 = .ok (.istore_n 2, 1) by decide +kernel) rfl hl (by decide) rfl (fun ls hl => ?_)
  refine lv_iload_n hx hb (show decode cJ1_indexOf_4cfef 15 = .ok (.iload_n 3, 1) by decide +kernel) rfl (lv_at hl 3 rfl) ?_
  refine lv_aload_n hx hb (show decode cJ1_indexOf_4cfef 16 = .ok (.aload_n 0, 1) by decide +kernel) rfl (lv_at hl 1 rfl) ?_
  refine va_tlen hx hb hT hSA (v := 6) rfl (show decode cJ1_indexOf_4cfef 17 = .ok (.arraylength, 1) by decide +kernel) ?_
  refine va_mmin hx hb (by rw [hml]; exact hl.1.symm) hown (hts _ (List.mem_cons_of_mem _ (nc_at_in (p := (3, 205)) rfl rfl))) (hts _ (List.mem_cons_of_mem _ (nc_at_in (p := (3, 162)) rfl rfl))) (hts _ (List.mem_cons_of_mem _ (nc_at_in (p := (1, 19)) rfl rfl))) (hts _ (List.mem_cons_of_mem _ (nc_at_in (p := (3, 163)) rfl rfl))) (Nat.le_of_ble_eq_true rfl) (Nat.le_of_ble_eq_true rfl) (Nat.zero_le _) (Nat.zero_le _) (show decode cJ1_indexOf_4cfef 18 = .ok (.invokestatic 38, 3) by decide +kernel) ?_
  refine W.eq (g2 := F0 m 21 ls [.int 6]) rfl ?_
  refine lv_istore_n (lv' := [(3, .int 6), (2, .int 0), (0, .ref v), (1, .int (nI k))]) hx hb (show decode cJ1_indexOf_4cfef 21 = .ok (.istore_n 3, 1) by decide +kernel) rfl hl (by decide) rfl (fun ls hl => ?_)
  refine lv_iload_n hx hb (show decode cJ1_indexOf_4cfef 22 = .ok (.iload_n 2, 1) by decide +kernel) rfl (lv_at hl 1 rfl) ?_
  refine lv_iload_n hx hb (show decode cJ1_indexOf_4cfef 23 = .ok (.iload_n 3, 1) by decide +kernel) rfl (lv_at hl 0 rfl) ?_
  refine lv_icmp_lt (tgt := 29) hx hb (show decode cJ1_indexOf_4cfef 24 = .ok (.if_icmp .lt 5, 3) by decide +kernel) (by decide) (fun _ => ?_) (fun q9 => absurd (by decide) q9)
  refine lv_aload_n hx hb (show decode cJ1_indexOf_4cfef 29 = .ok (.aload_n 0, 1) by decide +kernel) rfl (lv_at hl 2 rfl) ?_
  refine lv_iload_n hx hb (show decode cJ1_indexOf_4cfef 30 = .ok (.iload_n 1, 1) by decide +kernel) rfl (lv_at hl 3 rfl) ?_
  refine lv_iload_n hx hb (show decode cJ1_indexOf_4cfef 31 = .ok (.iload_n 2, 1) by decide +kernel) rfl (lv_at hl 1 rfl) ?_
  refine lv_iload_n hx hb (show decode cJ1_indexOf_4cfef 32 = .ok (.iload_n 3, 1) by decide +kernel) rfl (lv_at hl 0 rfl) ?_
  refine va_calli (va_runS (As := [.ref v, .int (nI k), .int 0, .int 6]) (rest := []) ⟨hx, hb, hml, hown, hts⟩ (tx_char l a v H9.size A k hk) ⟨callB_of 4 hts (gdc (nc_at_in (p := (3, 208)) rfl rfl)) rfl rfl rfl (hts _ (List.mem_cons_of_mem _ (nc_at_in (p := (1, 4)) rfl rfl))) (hts _ (List.mem_cons_of_mem _ (nc_at_in (p := (3, 206)) rfl rfl))) ⟨by decide +kernel, by decide +kernel, by decide +kernel⟩ ⟨Nat.le_of_ble_eq_true rfl, Nat.le_of_ble_eq_true rfl⟩, (hts _ (List.mem_cons_of_mem _ (nc_at_in (p := (3, 207)) rfl rfl)))⟩ ⟨sP_bl, fun U hU hW => ⟨rfl, sP_of hS0 hZ hSA U hU hW⟩⟩ rfl rfl hl.1 rfl (lv_room (Nat.le_of_ble_eq_true rfl)) (show decode cJ1_indexOf_4cfef 33 = .ok (.invokestatic 95, 3) by decide +kernel) ⟨Nat.zero_le _, Nat.zero_le _⟩) hSF (fun q _ h => h.elim) (fun q h => h.elim) (fun r9 u9 t9 H9 locs9 ht9 hvm9 hw9 hB9 hz9 hk9 hSF => ?_)
  subst hw9
  have hSA : va_S A s.heap H9 locs9 := va_SF hSF
  exact W.iret (v := (nc_sig (nI k))) hx hb hr (fun t ht hW => ⟨⟨(nc_sig (nI k)), (), rfl, rfl, trivial⟩, hSF.F ht⟩) hSF.2.2 (show decode cJ1_indexOf_4cfef 36 = .ok (.ireturn, 1) by decide +kernel)
set_option maxRecDepth 100000 in
set_option maxHeartbeats 4000000 in
theorem tx_li_f (l : Launch) (a v sz : Nat) (A : Nat → Prop) (x : Int32) (hx9 : x < 0 ∨ (255 : Int32) < x) : Met l yJ1_indexOf_4cfef (Cond.code yJ1_indexOf_4cfef cJ1_indexOf_4cfef 4 (some .int) :: nc_tb) { frames := 1, cells := 0, slots := 0, locals := 40 } (va_Pc [.ref v, .int x, .int 0, .int 6] (sP a v 6 sz [59, 60, 61, 62, 40, 41] A)) (txQ (nc_sig x)) 0 0 (fun _ => False) := by
  refine Met.ofW (cc := cJ1_indexOf_4cfef) (maxL := 4) (ret := (some .int)) (by decide) rfl ?_
  intro p e s m args below meth c s₁ B hml hv
  obtain ⟨rfl, hsz, hS0, hZ⟩ := hv
  have hx := B.exec
  have hb := B.bytes
  have hr := B.returns
  have hts := atoms_spec (ws := (Cond.code yJ1_indexOf_4cfef cJ1_indexOf_4cfef 4 (some .int) :: nc_tb)) B.pre
  have hown : s.vm.findClass RJ1 = some m.cls := findClass_of_methodNamed B.named
  have hT := (hS0.1 0 Nat.zero_lt_one).2.2.2
  have hV := (hS0.1 0 Nat.zero_lt_one).2.2.1
  have hC := (hS0.1 0 Nat.zero_lt_one).2.1
  have hSF : va_S (fun _ => False) s.heap s.heap [] := va_S.rf
  have hSA : va_S A s.heap s.heap [] := va_SF hSF
  have hl := lv_entry ([.ref v, .int x, .int 0, .int 6]) (n := 4) (Nat.le_of_ble_eq_true rfl)
  rw [lg_entry_eq]
  generalize (lg_sl ([.ref v, .int x, .int 0, .int 6]) ++ List.replicate (4 - (lg_sl ([.ref v, .int x, .int 0, .int 6])).length) Slot.unset).toArray = ls at hl ⊢
  have hl : lv_has ls 4 [(0, .ref v), (1, .int x), (2, .int 0), (3, .int 6)] := hl
  refine lv_iload_n hx hb (show decode cJ1_indexOf_4cfef 0 = .ok (.iload_n 1, 1) by decide +kernel) rfl (lv_at hl 1 rfl) ?_
  rw [sig_n hx9]
  rcases Decidable.em (x < 0) with h0 | h0
  · refine va_calli (va_runS (As := [.int x]) (rest := []) ⟨hx, hb, hml, hown, hts⟩ (tx_enc_n l a v 6 s.heap.size [59, 60, 61, 62, 40, 41] A x h0) ⟨callB_of 1 hts (gdc (nc_at_in (p := (3, 201)) rfl rfl)) rfl rfl rfl (hts _ (List.mem_cons_of_mem _ (nc_at_in (p := (1, 4)) rfl rfl))) (hts _ (List.mem_cons_of_mem _ (nc_at_in (p := (3, 199)) rfl rfl))) ⟨by decide +kernel, by decide +kernel, by decide +kernel⟩ ⟨Nat.le_of_ble_eq_true rfl, Nat.le_of_ble_eq_true rfl⟩, (hts _ (List.mem_cons_of_mem _ (nc_at_in (p := (3, 200)) rfl rfl)))⟩ ⟨sP_bl, fun U hU hW => ⟨rfl, sP_of hS0 hZ hSA U hU hW⟩⟩ rfl rfl hl.1 rfl (lv_room (Nat.le_of_ble_eq_true rfl)) (show decode cJ1_indexOf_4cfef 1 = .ok (.invokestatic 88, 3) by decide +kernel) ⟨Nat.zero_le _, Nat.zero_le _⟩) hSF (fun q _ h => h.elim) (fun q h => h.elim) (fun r9 u9 t9 H9 locs9 ht9 hvm9 hw9 hB9 hz9 hk9 hSF => ?_)
    subst hw9
    have hSA : va_S A s.heap H9 locs9 := va_SF hSF
    refine lv_if_ne (tgt := 9) hx hb (show decode cJ1_indexOf_4cfef 4 = .ok (.ifCond .ne 5, 3) by decide +kernel) (by decide) (fun q9 => absurd q9 (fun h => h rfl)) (fun _ => ?_)
    refine lv_iconst (v := (-1)) hx hb (show decode cJ1_indexOf_4cfef 7 = .ok (.iconst (-1), 1) by decide +kernel) (by decide) ?_
    exact W.iret (v := (-1)) hx hb hr (fun t ht hW => ⟨⟨(-1), (), rfl, rfl, trivial⟩, hSF.F ht⟩) hSF.2.2 (show decode cJ1_indexOf_4cfef 8 = .ok (.ireturn, 1) by decide +kernel)
  · refine va_calli (va_runS (As := [.int x]) (rest := []) ⟨hx, hb, hml, hown, hts⟩ (tx_enc_g l a v 6 s.heap.size [59, 60, 61, 62, 40, 41] A x h0 (hx9.resolve_left h0)) ⟨callB_of 1 hts (gdc (nc_at_in (p := (3, 201)) rfl rfl)) rfl rfl rfl (hts _ (List.mem_cons_of_mem _ (nc_at_in (p := (1, 4)) rfl rfl))) (hts _ (List.mem_cons_of_mem _ (nc_at_in (p := (3, 199)) rfl rfl))) ⟨by decide +kernel, by decide +kernel, by decide +kernel⟩ ⟨Nat.le_of_ble_eq_true rfl, Nat.le_of_ble_eq_true rfl⟩, (hts _ (List.mem_cons_of_mem _ (nc_at_in (p := (3, 200)) rfl rfl)))⟩ ⟨sP_bl, fun U hU hW => ⟨rfl, sP_of hS0 hZ hSA U hU hW⟩⟩ rfl rfl hl.1 rfl (lv_room (Nat.le_of_ble_eq_true rfl)) (show decode cJ1_indexOf_4cfef 1 = .ok (.invokestatic 88, 3) by decide +kernel) ⟨Nat.zero_le _, Nat.zero_le _⟩) hSF (fun q _ h => h.elim) (fun q h => h.elim) (fun r9 u9 t9 H9 locs9 ht9 hvm9 hw9 hB9 hz9 hk9 hSF => ?_)
    subst hw9
    have hSA : va_S A s.heap H9 locs9 := va_SF hSF
    refine lv_if_ne (tgt := 9) hx hb (show decode cJ1_indexOf_4cfef 4 = .ok (.ifCond .ne 5, 3) by decide +kernel) (by decide) (fun q9 => absurd q9 (fun h => h rfl)) (fun _ => ?_)
    refine lv_iconst (v := (-1)) hx hb (show decode cJ1_indexOf_4cfef 7 = .ok (.iconst (-1), 1) by decide +kernel) (by decide) ?_
    exact W.iret (v := (-1)) hx hb hr (fun t ht hW => ⟨⟨(-1), (), rfl, rfl, trivial⟩, hSF.F ht⟩) hSF.2.2 (show decode cJ1_indexOf_4cfef 8 = .ok (.ireturn, 1) by decide +kernel)
set_option maxRecDepth 100000 in
set_option maxHeartbeats 4000000 in
theorem tx_ix2 (l : Launch) (a v sz : Nat) (A : Nat → Prop) (x : Int32) : Met l yJ0_indexOf_7cf53 (Cond.code yJ0_indexOf_7cf53 cJ0_indexOf_7cf53 3 (some .int) :: nc_tb) { frames := 2, cells := 0, slots := 0, locals := 100 } (va_Pc [.ref a, .int x, .int 0] (sP a v 6 sz [59, 60, 61, 62, 40, 41] A)) (txQ (nc_sig x)) 0 0 (fun _ => False) := by
  refine Met.ofW (cc := cJ0_indexOf_7cf53) (maxL := 3) (ret := (some .int)) (by decide) rfl ?_
  intro p e s m args below meth c s₁ B hml hv
  obtain ⟨rfl, hsz, hS0, hZ⟩ := hv
  have hx := B.exec
  have hb := B.bytes
  have hr := B.returns
  have hts := atoms_spec (ws := (Cond.code yJ0_indexOf_7cf53 cJ0_indexOf_7cf53 3 (some .int) :: nc_tb)) B.pre
  have hown : s.vm.findClass RJ0 = some m.cls := findClass_of_methodNamed B.named
  have hT := (hS0.1 0 Nat.zero_lt_one).2.2.2
  have hV := (hS0.1 0 Nat.zero_lt_one).2.2.1
  have hC := (hS0.1 0 Nat.zero_lt_one).2.1
  have hSF : va_S (fun _ => False) s.heap s.heap [] := va_S.rf
  have hSA : va_S A s.heap s.heap [] := va_SF hSF
  have hl := lv_entry ([.ref a, .int x, .int 0]) (n := 3) (Nat.le_of_ble_eq_true rfl)
  rw [lg_entry_eq]
  generalize (lg_sl ([.ref a, .int x, .int 0]) ++ List.replicate (3 - (lg_sl ([.ref a, .int x, .int 0])).length) Slot.unset).toArray = ls at hl ⊢
  have hl : lv_has ls 3 [(0, .ref a), (1, .int x), (2, .int 0)] := hl
  refine lv_aload_n hx hb (show decode cJ0_indexOf_7cf53 0 = .ok (.aload_n 0, 1) by decide +kernel) rfl (lv_at hl 0 rfl) ?_
  refine va_calli (va_runV (C := "java/lang/String") (As := []) (rest := []) ⟨hx, hb, hml, hown, hts⟩ (tx_isLatin1 l a v 6 s.heap.size [59, 60, 61, 62, 40, 41] A) ⟨callB_of 0 hts (gdc (nc_at_in (p := (1, 59)) rfl rfl)) rfl rfl rfl (hts _ (List.mem_cons_of_mem _ (nc_at_in (p := (1, 3)) rfl rfl))) (hts _ (List.mem_cons_of_mem _ (nc_at_in (p := (1, 56)) rfl rfl))) ⟨by decide +kernel, by decide +kernel, by decide +kernel⟩ ⟨Nat.le_of_ble_eq_true rfl, Nat.le_of_ble_eq_true rfl⟩, (hts _ (List.mem_cons_of_mem _ (nc_at_in (p := (1, 57)) rfl rfl))), (hts _ (List.mem_cons_of_mem _ (nc_at_in (p := (1, 58)) rfl rfl)))⟩ ⟨sP_bl, vk_recv (adK := fun _ => a) (i := 0) hS0 Nat.zero_lt_one hSA, fun U hU hW => ⟨rfl, sP_of hS0 hZ hSA U hU hW⟩⟩ rfl rfl hl.1 rfl (lv_room (Nat.le_of_ble_eq_true rfl)) (show decode cJ0_indexOf_7cf53 1 = .ok (.invokevirtual 492, 3) by decide +kernel) ⟨Nat.zero_le _, Nat.zero_le _⟩) hSF (fun q _ h => h.elim) (fun q h => h.elim) (fun r9 u9 t9 H9 locs9 ht9 hvm9 hw9 hB9 hz9 hk9 hSF => ?_)
  subst hw9
  have hSA : va_S A s.heap H9 locs9 := va_SF hSF
  refine lv_if_eq (tgt := 23) hx hb (show decode cJ0_indexOf_7cf53 4 = .ok (.ifCond .eq 19, 3) by decide +kernel) (by decide) (fun q9 => absurd q9 (by decide)) (fun _ => ?_)
  refine lv_aload_n hx hb (show decode cJ0_indexOf_7cf53 7 = .ok (.aload_n 0, 1) by decide +kernel) rfl (lv_at hl 0 rfl) ?_
  refine vk_getf hx hb hV hSA hown (hts _ (List.mem_cons_of_mem _ (nc_at_in (p := (9, 120)) rfl rfl))) (fun _ h => h) (show decode cJ0_indexOf_7cf53 8 = .ok (.getfield 9, 3) by decide +kernel) ?_
  refine lv_iload_n hx hb (show decode cJ0_indexOf_7cf53 11 = .ok (.iload_n 1, 1) by decide +kernel) rfl (lv_at hl 1 rfl) ?_
  refine lv_iload_n hx hb (show decode cJ0_indexOf_7cf53 12 = .ok (.iload_n 2, 1) by decide +kernel) rfl (lv_at hl 2 rfl) ?_
  refine lv_aload_n hx hb (show decode cJ0_indexOf_7cf53 13 = .ok (.aload_n 0, 1) by decide +kernel) rfl (lv_at hl 0 rfl) ?_
  refine va_calli (va_runV (C := "java/lang/String") (As := []) (rest := [.int 0, .int x, .ref v]) ⟨hx, hb, hml, hown, hts⟩ (tx_length l a v 6 H9.size [59, 60, 61, 62, 40, 41] A (by decide)) ⟨callB_of 0 hts (gdc (nc_at_in (p := (1, 45)) rfl rfl)) rfl rfl rfl (hts _ (List.mem_cons_of_mem _ (nc_at_in (p := (1, 3)) rfl rfl))) (hts _ (List.mem_cons_of_mem _ (nc_at_in (p := (3, 195)) rfl rfl))) ⟨by decide +kernel, by decide +kernel, by decide +kernel⟩ ⟨Nat.le_of_ble_eq_true rfl, Nat.le_of_ble_eq_true rfl⟩, (hts _ (List.mem_cons_of_mem _ (nc_at_in (p := (1, 43)) rfl rfl))), (hts _ (List.mem_cons_of_mem _ (nc_at_in (p := (1, 44)) rfl rfl)))⟩ ⟨sP_bl, vk_recv (adK := fun _ => a) (i := 0) hS0 Nat.zero_lt_one hSA, fun U hU hW => ⟨rfl, sP_of hS0 hZ hSA U hU hW⟩⟩ rfl rfl hl.1 rfl (lv_room (Nat.le_of_ble_eq_true rfl)) (show decode cJ0_indexOf_7cf53 14 = .ok (.invokevirtual 505, 3) by decide +kernel) ⟨Nat.zero_le _, Nat.zero_le _⟩) hSF (fun q _ h => h.elim) (fun q h => h.elim) (fun r9 u9 t9 H9 locs9 ht9 hvm9 hw9 hB9 hz9 hk9 hSF => ?_)
  subst hw9
  have hSA : va_S A s.heap H9 locs9 := va_SF hSF
  rcases Decidable.em (x < 0 ∨ (255 : Int32) < x) with h0 | h0
  · refine va_calli (va_runS (As := [.ref v, .int x, .int 0, .int 6]) (rest := []) ⟨hx, hb, hml, hown, hts⟩ (tx_li_f l a v H9.size A x h0) ⟨callB_of 4 hts (gdc (nc_at_in (p := (3, 198)) rfl rfl)) rfl rfl rfl (hts _ (List.mem_cons_of_mem _ (nc_at_in (p := (1, 4)) rfl rfl))) (hts _ (List.mem_cons_of_mem _ (nc_at_in (p := (3, 196)) rfl rfl))) ⟨by decide +kernel, by decide +kernel, by decide +kernel⟩ ⟨Nat.le_of_ble_eq_true rfl, Nat.le_of_ble_eq_true rfl⟩, (hts _ (List.mem_cons_of_mem _ (nc_at_in (p := (3, 197)) rfl rfl)))⟩ ⟨sP_bl, fun U hU hW => ⟨rfl, sP_of hS0 hZ hSA U hU hW⟩⟩ rfl rfl hl.1 rfl (lv_room (Nat.le_of_ble_eq_true rfl)) (show decode cJ0_indexOf_7cf53 17 = .ok (.invokestatic 637, 3) by decide +kernel) ⟨Nat.zero_le _, Nat.zero_le _⟩) hSF (fun q _ h => h.elim) (fun q h => h.elim) (fun r9 u9 t9 H9 locs9 ht9 hvm9 hw9 hB9 hz9 hk9 hSF => ?_)
    subst hw9
    have hSA : va_S A s.heap H9 locs9 := va_SF hSF
    refine lv_goto (tgt := 36) hx hb (show decode cJ0_indexOf_7cf53 20 = .ok (.goto 16, 3) by decide +kernel) (by decide) ?_
    exact W.iret (v := (nc_sig x)) hx hb hr (fun t ht hW => ⟨⟨(nc_sig x), (), rfl, rfl, trivial⟩, hSF.F ht⟩) hSF.2.2 (show decode cJ0_indexOf_7cf53 36 = .ok (.ireturn, 1) by decide +kernel)
  · obtain ⟨k, hk, rfl⟩ : ∃ k, k < 256 ∧ x = nI k := by
      rcases pk_ix x (n := 256) (by decide) with q | q | ⟨j, j1, j2⟩
      · exact absurd (Or.inl q) h0
      · exact absurd (Or.inr (Int32.lt_of_lt_of_le (by decide) q)) h0
      · exact ⟨j, j1, j2⟩
    refine va_calli (va_runS (As := [.ref v, .int (nI k), .int 0, .int 6]) (rest := []) ⟨hx, hb, hml, hown, hts⟩ (tx_li_t l a v H9.size A k hk) ⟨callB_of 4 hts (gdc (nc_at_in (p := (3, 198)) rfl rfl)) rfl rfl rfl (hts _ (List.mem_cons_of_mem _ (nc_at_in (p := (1, 4)) rfl rfl))) (hts _ (List.mem_cons_of_mem _ (nc_at_in (p := (3, 196)) rfl rfl))) ⟨by decide +kernel, by decide +kernel, by decide +kernel⟩ ⟨Nat.le_of_ble_eq_true rfl, Nat.le_of_ble_eq_true rfl⟩, (hts _ (List.mem_cons_of_mem _ (nc_at_in (p := (3, 197)) rfl rfl)))⟩ ⟨sP_bl, fun U hU hW => ⟨rfl, sP_of hS0 hZ hSA U hU hW⟩⟩ rfl rfl hl.1 rfl (lv_room (Nat.le_of_ble_eq_true rfl)) (show decode cJ0_indexOf_7cf53 17 = .ok (.invokestatic 637, 3) by decide +kernel) ⟨Nat.zero_le _, Nat.zero_le _⟩) hSF (fun q _ h => h.elim) (fun q h => h.elim) (fun r9 u9 t9 H9 locs9 ht9 hvm9 hw9 hB9 hz9 hk9 hSF => ?_)
    subst hw9
    have hSA : va_S A s.heap H9 locs9 := va_SF hSF
    refine lv_goto (tgt := 36) hx hb (show decode cJ0_indexOf_7cf53 20 = .ok (.goto 16, 3) by decide +kernel) (by decide) ?_
    exact W.iret (v := (nc_sig (nI k))) hx hb hr (fun t ht hW => ⟨⟨(nc_sig (nI k)), (), rfl, rfl, trivial⟩, hSF.F ht⟩) hSF.2.2 (show decode cJ0_indexOf_7cf53 36 = .ok (.ireturn, 1) by decide +kernel)
set_option maxRecDepth 100000 in
set_option maxHeartbeats 4000000 in
theorem tx_ix (l : Launch) (a v sz : Nat) (A : Nat → Prop) (x : Int32) : Met l yJ0_indexOf_0f7a4 (Cond.code yJ0_indexOf_0f7a4 cJ0_indexOf_0f7a4 2 (some .int) :: nc_tb) { frames := 20, cells := 0, slots := 0, locals := 1000 } (va_Pc [.ref a, .int x] (sP a v 6 sz [59, 60, 61, 62, 40, 41] A)) (txQ (nc_sig x)) 0 0 (fun _ => False) := by
  refine Met.ofW (cc := cJ0_indexOf_0f7a4) (maxL := 2) (ret := (some .int)) (by decide) rfl ?_
  intro p e s m args below meth c s₁ B hml hv
  obtain ⟨rfl, hsz, hS0, hZ⟩ := hv
  have hx := B.exec
  have hb := B.bytes
  have hr := B.returns
  have hts := atoms_spec (ws := (Cond.code yJ0_indexOf_0f7a4 cJ0_indexOf_0f7a4 2 (some .int) :: nc_tb)) B.pre
  have hown : s.vm.findClass RJ0 = some m.cls := findClass_of_methodNamed B.named
  have hT := (hS0.1 0 Nat.zero_lt_one).2.2.2
  have hV := (hS0.1 0 Nat.zero_lt_one).2.2.1
  have hC := (hS0.1 0 Nat.zero_lt_one).2.1
  have hSF : va_S (fun _ => False) s.heap s.heap [] := va_S.rf
  have hSA : va_S A s.heap s.heap [] := va_SF hSF
  have hl := lv_entry ([.ref a, .int x]) (n := 2) (Nat.le_of_ble_eq_true rfl)
  rw [lg_entry_eq]
  generalize (lg_sl ([.ref a, .int x]) ++ List.replicate (2 - (lg_sl ([.ref a, .int x])).length) Slot.unset).toArray = ls at hl ⊢
  have hl : lv_has ls 2 [(0, .ref a), (1, .int x)] := hl
  refine lv_aload_n hx hb (show decode cJ0_indexOf_0f7a4 0 = .ok (.aload_n 0, 1) by decide +kernel) rfl (lv_at hl 0 rfl) ?_
  refine lv_iload_n hx hb (show decode cJ0_indexOf_0f7a4 1 = .ok (.iload_n 1, 1) by decide +kernel) rfl (lv_at hl 1 rfl) ?_
  refine lv_iconst (v := 0) hx hb (show decode cJ0_indexOf_0f7a4 2 = .ok (.iconst 0, 1) by decide +kernel) (by decide) ?_
  refine va_calli (va_runV (C := "java/lang/String") (As := [.int x, .int 0]) (rest := []) ⟨hx, hb, hml, hown, hts⟩ (tx_ix2 l a v s.heap.size A x) ⟨callB_of 2 hts (gdc (nc_at_in (p := (3, 194)) rfl rfl)) rfl rfl rfl (hts _ (List.mem_cons_of_mem _ (nc_at_in (p := (1, 3)) rfl rfl))) (hts _ (List.mem_cons_of_mem _ (nc_at_in (p := (3, 191)) rfl rfl))) ⟨by decide +kernel, by decide +kernel, by decide +kernel⟩ ⟨Nat.le_of_ble_eq_true rfl, Nat.le_of_ble_eq_true rfl⟩, (hts _ (List.mem_cons_of_mem _ (nc_at_in (p := (3, 192)) rfl rfl))), (hts _ (List.mem_cons_of_mem _ (nc_at_in (p := (3, 193)) rfl rfl)))⟩ ⟨sP_bl, vk_recv (adK := fun _ => a) (i := 0) hS0 Nat.zero_lt_one hSA, fun U hU hW => ⟨rfl, sP_of hS0 hZ hSA U hU hW⟩⟩ rfl rfl hl.1 rfl (lv_room (Nat.le_of_ble_eq_true rfl)) (show decode cJ0_indexOf_0f7a4 3 = .ok (.invokevirtual 633, 3) by decide +kernel) ⟨Nat.zero_le _, Nat.zero_le _⟩) hSF (fun q _ h => h.elim) (fun q h => h.elim) (fun r9 u9 t9 H9 locs9 ht9 hvm9 hw9 hB9 hz9 hk9 hSF => ?_)
  subst hw9
  have hSA : va_S A s.heap H9 locs9 := va_SF hSF
  exact W.iret (v := (nc_sig x)) hx hb hr (fun t ht hW => ⟨⟨(nc_sig x), (), rfl, rfl, trivial⟩, hSF.F ht⟩) hSF.2.2 (show decode cJ0_indexOf_0f7a4 6 = .ok (.ireturn, 1) by decide +kernel)
theorem nd_idx (l : Launch) : nd_IdxC l := by
  intro a v sz x A
  exact tx_ix l a v sz A x
