/-! COW AND FARM: the tests, as contracts that write nothing. -/
def exC (x n : Int32) : Int32 := if x < 0 then 0 else if n ≤ x then 0 else 1
set_option maxRecDepth 100000 in
set_option maxHeartbeats 4000000 in
theorem ex_isCow (l : Launch) (D : va_G) (cA : Nat → ClassId) (ad : Nat → Nat → Nat) (sz : Nat) (w : nc_H) (x : Int32) : Met l yX11_isCow (Cond.code yX11_isCow cX11_isCow 2 (some .boolean) :: nc_tb) { frames := 0, cells := 0, slots := 0, locals := 0 } (va_Pc [.ref (ad 11 0), .int x] (nd_Pre D cA ad sz w)) (va_Qi (fun y (_ : Unit) => y = exC x (w.1 2 0 2)) (fun _ _ => True) (fun _ => False)) 0 0 (fun _ => False) := by
  refine Met.ofW (cc := cX11_isCow) (maxL := 2) (ret := (some .boolean)) (by decide) rfl ?_
  intro p e s m args below meth c s₁ B hml hv
  obtain ⟨rfl, hsz, hP, hK, hD, hStr⟩ := hv
  have hx := B.exec
  have hb := B.bytes
  have hr := B.returns
  have hts := atoms_spec (ws := (Cond.code yX11_isCow cX11_isCow 2 (some .boolean) :: nc_tb)) B.pre
  have hown : s.vm.findClass RX11 = some m.cls := findClass_of_methodNamed B.named
  have hSF : va_S (fun _ => False) s.heap s.heap [] := va_S.rf
  obtain ⟨k0, -, hk0⟩ := nc_W_at (ad := ad) (cA := cA) (q := (11, 0)) rfl
  have he0 := hk0 w
  rw [nd_cell_o (by decide)] at he0
  obtain ⟨k1, -, hk1⟩ := nc_W_at (ad := ad) (cA := cA) (q := (2, 0)) rfl
  have he1 := hk1 w
  rw [nd_cell_o (by decide)] at he1
  have hl := lv_entry ([.ref (ad 11 0), .int x]) (n := 2) (Nat.le_of_ble_eq_true rfl)
  rw [lg_entry_eq]
  generalize (lg_sl ([.ref (ad 11 0), .int x]) ++ List.replicate (2 - (lg_sl ([.ref (ad 11 0), .int x])).length) Slot.unset).toArray = ls at hl ⊢
  have hl : lv_has ls 2 [(0, .ref (ad 11 0)), (1, .int x)] := hl
  refine lv_iload_n hx hb (show decode cX11_isCow 0 = .ok (.iload_n 1, 1) by decide +kernel) rfl (lv_at hl 1 rfl) ?_
  refine lv_if_lt (tgt := 19) hx hb (show decode cX11_isCow 1 = .ok (.ifCond .lt 18, 3) by decide +kernel) (by decide) (fun q9 => ?_) (fun q9 => ?_)
  · refine lv_iconst (v := 0) hx hb (show decode cX11_isCow 19 = .ok (.iconst 0, 1) by decide +kernel) (by decide) ?_
    exact W.zret (v := 0) hx hb hr rfl (fun t ht hW => ⟨⟨0, (), rfl, (if_pos q9).symm, trivial⟩, hSF.F ht⟩) hSF.2.2 (show decode cX11_isCow 20 = .ok (.ireturn, 1) by decide +kernel)
  · refine lv_iload_n hx hb (show decode cX11_isCow 4 = .ok (.iload_n 1, 1) by decide +kernel) rfl (lv_at hl 1 rfl) ?_
    refine lv_aload_n hx hb (show decode cX11_isCow 5 = .ok (.aload_n 0, 1) by decide +kernel) rfl (lv_at hl 0 rfl) ?_
    refine va_get (D := D) (ci := 11) (v := .ref (ad 2 0)) (C := RX11) (T := TX11) (N := 16) hx hb hts (fun w h => List.mem_cons_of_mem _ (nc_lw_11 w h)) hown hK hP k0 he0 rfl 1 (by decide) (hts _ (List.mem_cons_of_mem _ (nc_at_in (p := (3, 81)) rfl rfl))) (fun _ h9 => h9) rfl (show decode cX11_isCow 6 = .ok (.getfield 19, 3) by decide +kernel) ?_
    refine va_get (D := D) (ci := 2) (v := .int (w.1 2 0 2)) (C := RX2) (T := TX2) (N := 19) hx hb hts (fun w h => List.mem_cons_of_mem _ (nc_lw_2 w h)) hown hK hP k1 he1 rfl 2 (by decide) (hts _ (List.mem_cons_of_mem _ (nc_at_in (p := (1, 169)) rfl rfl))) (fun _ h9 => h9) rfl (show decode cX11_isCow 9 = .ok (.getfield 272, 3) by decide +kernel) ?_
    refine lv_icmp_ge (tgt := 19) hx hb (show decode cX11_isCow 12 = .ok (.if_icmp .ge 7, 3) by decide +kernel) (by decide) (fun q8 => ?_) (fun q8 => ?_)
    · refine lv_iconst (v := 0) hx hb (show decode cX11_isCow 19 = .ok (.iconst 0, 1) by decide +kernel) (by decide) ?_
      exact W.zret (v := 0) hx hb hr rfl (fun t ht hW => ⟨⟨0, (), rfl, ((if_neg q9).trans (if_pos q8)).symm, trivial⟩, hSF.F ht⟩) hSF.2.2 (show decode cX11_isCow 20 = .ok (.ireturn, 1) by decide +kernel)
    · refine lv_iconst (v := 1) hx hb (show decode cX11_isCow 15 = .ok (.iconst 1, 1) by decide +kernel) (by decide) ?_
      refine lv_goto (tgt := 20) hx hb (show decode cX11_isCow 16 = .ok (.goto 4, 3) by decide +kernel) (by decide) ?_
      exact W.zret (v := 1) hx hb hr rfl (fun t ht hW => ⟨⟨1, (), rfl, ((if_neg q9).trans (if_neg q8)).symm, trivial⟩, hSF.F ht⟩) hSF.2.2 (show decode cX11_isCow 20 = .ok (.ireturn, 1) by decide +kernel)
set_option maxRecDepth 100000 in
set_option maxHeartbeats 4000000 in
theorem ex_isFarm (l : Launch) (D : va_G) (cA : Nat → ClassId) (ad : Nat → Nat → Nat) (sz : Nat) (w : nc_H) (x : Int32) : Met l yX11_isFarm (Cond.code yX11_isFarm cX11_isFarm 2 (some .boolean) :: nc_tb) { frames := 0, cells := 0, slots := 0, locals := 0 } (va_Pc [.ref (ad 11 0), .int x] (nd_Pre D cA ad sz w)) (va_Qi (fun y (_ : Unit) => y = exC x (w.1 2 0 1)) (fun _ _ => True) (fun _ => False)) 0 0 (fun _ => False) := by
  refine Met.ofW (cc := cX11_isFarm) (maxL := 2) (ret := (some .boolean)) (by decide) rfl ?_
  intro p e s m args below meth c s₁ B hml hv
  obtain ⟨rfl, hsz, hP, hK, hD, hStr⟩ := hv
  have hx := B.exec
  have hb := B.bytes
  have hr := B.returns
  have hts := atoms_spec (ws := (Cond.code yX11_isFarm cX11_isFarm 2 (some .boolean) :: nc_tb)) B.pre
  have hown : s.vm.findClass RX11 = some m.cls := findClass_of_methodNamed B.named
  have hSF : va_S (fun _ => False) s.heap s.heap [] := va_S.rf
  obtain ⟨k0, -, hk0⟩ := nc_W_at (ad := ad) (cA := cA) (q := (11, 0)) rfl
  have he0 := hk0 w
  rw [nd_cell_o (by decide)] at he0
  obtain ⟨k1, -, hk1⟩ := nc_W_at (ad := ad) (cA := cA) (q := (2, 0)) rfl
  have he1 := hk1 w
  rw [nd_cell_o (by decide)] at he1
  have hl := lv_entry ([.ref (ad 11 0), .int x]) (n := 2) (Nat.le_of_ble_eq_true rfl)
  rw [lg_entry_eq]
  generalize (lg_sl ([.ref (ad 11 0), .int x]) ++ List.replicate (2 - (lg_sl ([.ref (ad 11 0), .int x])).length) Slot.unset).toArray = ls at hl ⊢
  have hl : lv_has ls 2 [(0, .ref (ad 11 0)), (1, .int x)] := hl
  refine lv_iload_n hx hb (show decode cX11_isFarm 0 = .ok (.iload_n 1, 1) by decide +kernel) rfl (lv_at hl 1 rfl) ?_
  refine lv_if_lt (tgt := 19) hx hb (show decode cX11_isFarm 1 = .ok (.ifCond .lt 18, 3) by decide +kernel) (by decide) (fun q9 => ?_) (fun q9 => ?_)
  · refine lv_iconst (v := 0) hx hb (show decode cX11_isFarm 19 = .ok (.iconst 0, 1) by decide +kernel) (by decide) ?_
    exact W.zret (v := 0) hx hb hr rfl (fun t ht hW => ⟨⟨0, (), rfl, (if_pos q9).symm, trivial⟩, hSF.F ht⟩) hSF.2.2 (show decode cX11_isFarm 20 = .ok (.ireturn, 1) by decide +kernel)
  · refine lv_iload_n hx hb (show decode cX11_isFarm 4 = .ok (.iload_n 1, 1) by decide +kernel) rfl (lv_at hl 1 rfl) ?_
    refine lv_aload_n hx hb (show decode cX11_isFarm 5 = .ok (.aload_n 0, 1) by decide +kernel) rfl (lv_at hl 0 rfl) ?_
    refine va_get (D := D) (ci := 11) (v := .ref (ad 2 0)) (C := RX11) (T := TX11) (N := 16) hx hb hts (fun w h => List.mem_cons_of_mem _ (nc_lw_11 w h)) hown hK hP k0 he0 rfl 1 (by decide) (hts _ (List.mem_cons_of_mem _ (nc_at_in (p := (3, 81)) rfl rfl))) (fun _ h9 => h9) rfl (show decode cX11_isFarm 6 = .ok (.getfield 19, 3) by decide +kernel) ?_
    refine va_get (D := D) (ci := 2) (v := .int (w.1 2 0 1)) (C := RX2) (T := TX2) (N := 19) hx hb hts (fun w h => List.mem_cons_of_mem _ (nc_lw_2 w h)) hown hK hP k1 he1 rfl 1 (by decide) (hts _ (List.mem_cons_of_mem _ (nc_at_in (p := (1, 164)) rfl rfl))) (fun _ h9 => h9) rfl (show decode cX11_isFarm 9 = .ok (.getfield 374, 3) by decide +kernel) ?_
    refine lv_icmp_ge (tgt := 19) hx hb (show decode cX11_isFarm 12 = .ok (.if_icmp .ge 7, 3) by decide +kernel) (by decide) (fun q8 => ?_) (fun q8 => ?_)
    · refine lv_iconst (v := 0) hx hb (show decode cX11_isFarm 19 = .ok (.iconst 0, 1) by decide +kernel) (by decide) ?_
      exact W.zret (v := 0) hx hb hr rfl (fun t ht hW => ⟨⟨0, (), rfl, ((if_neg q9).trans (if_pos q8)).symm, trivial⟩, hSF.F ht⟩) hSF.2.2 (show decode cX11_isFarm 20 = .ok (.ireturn, 1) by decide +kernel)
    · refine lv_iconst (v := 1) hx hb (show decode cX11_isFarm 15 = .ok (.iconst 1, 1) by decide +kernel) (by decide) ?_
      refine lv_goto (tgt := 20) hx hb (show decode cX11_isFarm 16 = .ok (.goto 4, 3) by decide +kernel) (by decide) ?_
      exact W.zret (v := 1) hx hb hr rfl (fun t ht hW => ⟨⟨1, (), rfl, ((if_neg q9).trans (if_neg q8)).symm, trivial⟩, hSF.F ht⟩) hSF.2.2 (show decode cX11_isFarm 20 = .ok (.ireturn, 1) by decide +kernel)
