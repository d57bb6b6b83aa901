/-! WHAT HOLDS AT THE LAW'S ENTRY. -/
abbrev st_F : List Cond := flatC (Jvm.Cond.and given_1 narrow_1)
def st_el (k : Nat) (b : List Int32) (n : Nat) : List Cond := (List.range n).map (fun j => Cond.eq (.elem (.field (.string "NewsCows$Tape" k) "java/lang/String" "value" "[B") (.int (Int32.ofNat j))) (.int (b.getD j 0)))
set_option maxRecDepth 100000 in
theorem st_32 : (st_F.drop 28).take 128 = st_el 32 tpB 128 := by rfl
set_option maxRecDepth 100000 in
theorem st_88 : (st_F.drop 160).take 6 = st_el 88 [59, 60, 61, 62, 40, 41] 6 := by rfl
theorem st_m {k d n j : Nat} {b : List Int32} (h : (st_F.drop d).take n = st_el k b n) (hj : j < n) : Cond.eq (.elem (.field (.string "NewsCows$Tape" k) "java/lang/String" "value" "[B") (.int (Int32.ofNat j))) (.int (b.getD j 0)) ∈ st_F := by
  have h1 : Cond.eq (.elem (.field (.string "NewsCows$Tape" k) "java/lang/String" "value" "[B") (.int (Int32.ofNat j))) (.int (b.getD j 0)) ∈ st_el k b n := List.mem_map.mpr ⟨j, List.mem_range.mpr hj, rfl⟩
  rw [← h] at h1
  exact List.mem_of_mem_drop (List.mem_of_mem_take h1)
theorem st_prim {args : Array Value} {s : State} {ty : FieldType} (h : (Cond.arrayClass ty).before args s = true) : ∃ cA : ClassId, ArrOfT s cA ty ∧ s.vm.findClass ("[" ++ ty.toString) = some cA := by
  obtain ⟨c, k, comp, h1, h2, h3⟩ := Cond.arrayClass_spec h
  exact ⟨c, fun n z => ⟨fun k h => (by cases h), k, h2, comp, h3⟩, h1⟩
theorem st_obj {s : State} {C : String} (h : va_AO C s) : ∃ cA : ClassId, ArrOfT s cA (.object C) ∧ va_RA s cA (.object C) := by
  obtain ⟨comp, c, k, h1, h2, h3, h4, h5⟩ := Cond.arrayOver_spec h
  exact ⟨c, fun n z => ⟨fun k h => (by cases h), k, h3, comp, h4⟩, k, comp, h3, h4, h1, h5⟩
section ST
variable {s : State} {args : Array Value}
theorem st_AO (hts : ∀ w ∈ lw_tbl, w.before args s = true) : va_AO "NewsCows$Life" s := va_AO.of (hts _ (nc_tk_in (List.mem_of_getElem? (i := 132) (show (nc_tk 2)[132]? = _ from rfl))))
theorem st_nx : ∀ w ∈ nxN, nxW w ∈ lw_tbl := List.forall_mem_cons.mpr ⟨(nc_tk_in (List.mem_of_getElem? (i := 155) (show (nc_tk 1)[155]? = _ from rfl))), List.forall_mem_cons.mpr ⟨(nc_tk_in (List.mem_of_getElem? (i := 146) (show (nc_tk 2)[146]? = _ from rfl))), List.forall_mem_cons.mpr ⟨(nc_tk_in (List.mem_of_getElem? (i := 169) (show (nc_tk 2)[169]? = _ from rfl))), List.forall_mem_cons.mpr ⟨(nc_tk_in (List.mem_of_getElem? (i := 43) (show (nc_tk 3)[43]? = _ from rfl))), List.forall_mem_cons.mpr ⟨(nc_tk_in (List.mem_of_getElem? (i := 54) (show (nc_tk 3)[54]? = _ from rfl))), List.forall_mem_cons.mpr ⟨(nc_tk_in (List.mem_of_getElem? (i := 59) (show (nc_tk 3)[59]? = _ from rfl))), List.forall_mem_cons.mpr ⟨(nc_tk_in (List.mem_of_getElem? (i := 63) (show (nc_tk 3)[63]? = _ from rfl))), (fun _ h => by cases h)⟩⟩⟩⟩⟩⟩⟩
theorem st_N (hts : ∀ w ∈ lw_tbl, w.before args s = true) : ∀ w ∈ nxN, va_Nw (nxW w) s := fun w hw => va_Nw.of rfl (hts _ (st_nx w hw))
theorem st_N2 (hts : ∀ w ∈ lw_tbl, w.before args s = true) : ∀ e ∈ nc_nT, va_Nw (nc_nW e) s := fun e he => va_Nw.of rfl (hts _ (nc_nall e he))
theorem st_K (hts : ∀ w ∈ lw_tbl, w.before args s = true) : ∃ (D : va_G) (cA : Nat → ClassId), va_K D nc_cl (nc_tys cA) s := by
  obtain ⟨c0, i0, k0⟩ := u_known (C := RX0) (T := TX0) (N := 9) (n := 9) hts (fun w h => nc_tb_in (nc_lw_0 w h)) (hts _ (nc_tb_in (nc_at_in (p := (2, 168)) rfl rfl)))
  obtain ⟨c1, i1, k1⟩ := u_known (C := RX1) (T := TX1) (N := 11) (n := 11) hts (fun w h => nc_tb_in (nc_lw_1 w h)) (hts _ (nc_tb_in (nc_at_in (p := (2, 207)) rfl rfl)))
  obtain ⟨c2, i2, k2⟩ := u_known (C := RX2) (T := TX2) (N := 19) (n := 19) hts (fun w h => nc_tb_in (nc_lw_2 w h)) (hts _ (nc_tb_in (nc_at_in (p := (1, 154)) rfl rfl)))
  obtain ⟨c3, i3, k3⟩ := u_known (C := RX3) (T := TX3) (N := 3) (n := 3) hts (fun w h => nc_tb_in (nc_lw_3 w h)) (hts _ (nc_tb_in (nc_at_in (p := (2, 29)) rfl rfl)))
  obtain ⟨c4, i4, k4⟩ := u_known (C := RX4) (T := TX4) (N := 1) (n := 1) hts (fun w h => nc_tb_in (nc_lw_4 w h)) (hts _ (nc_tb_in (nc_at_in (p := (3, 42)) rfl rfl)))
  obtain ⟨c5, i5, k5⟩ := u_known (C := RX5) (T := TX5) (N := 3) (n := 3) hts (fun w h => nc_tb_in (nc_lw_5 w h)) (hts _ (nc_tb_in (nc_at_in (p := (2, 126)) rfl rfl)))
  obtain ⟨c6, i6, k6⟩ := u_known (C := RX6) (T := TX6) (N := 4) (n := 4) hts (fun w h => nc_tb_in (nc_lw_6 w h)) (hts _ (nc_tb_in (nc_at_in (p := (3, 53)) rfl rfl)))
  obtain ⟨c7, i7, k7⟩ := u_known (C := RX7) (T := TX7) (N := 17) (n := 17) hts (fun w h => nc_tb_in (nc_lw_7 w h)) (hts _ (nc_tb_in (nc_at_in (p := (2, 45)) rfl rfl)))
  obtain ⟨c8, i8, k8⟩ := u_known (C := RX8) (T := TX8) (N := 7) (n := 7) hts (fun w h => nc_tb_in (nc_lw_8 w h)) (hts _ (nc_tb_in (nc_at_in (p := (3, 10)) rfl rfl)))
  obtain ⟨c9, i9, k9⟩ := u_known (C := RX9) (T := TX9) (N := 5) (n := 5) hts (fun w h => nc_tb_in (nc_lw_9 w h)) (hts _ (nc_tb_in (nc_at_in (p := (2, 145)) rfl rfl)))
  obtain ⟨c10, i10, k10⟩ := u_known (C := RX10) (T := TX10) (N := 16) (n := 16) hts (fun w h => nc_tb_in (nc_lw_10 w h)) (hts _ (nc_tb_in (nc_at_in (p := (1, 36)) rfl rfl)))
  obtain ⟨c11, i11, k11⟩ := u_known (C := RX11) (T := TX11) (N := 16) (n := 16) hts (fun w h => nc_tb_in (nc_lw_11 w h)) (hts _ (nc_tb_in (nc_at_in (p := (1, 28)) rfl rfl)))
  obtain ⟨c12, i12, k12⟩ := u_known (C := RX12) (T := TX12) (N := 49) (n := 49) hts (fun w h => nc_tb_in (nc_lw_12 w h)) (hts _ (nc_tb_in (nc_at_in (p := (6, 205)) rfl rfl)))
  obtain ⟨a0, x0, y0⟩ := st_prim (hts _ (nc_tb_in (nc_at_in (p := (1, 152)) rfl rfl)))
  obtain ⟨a1, x1, y1⟩ := st_prim (hts _ (nc_tb_in (nc_at_in (p := (1, 150)) rfl rfl)))
  obtain ⟨a2, x2, y2⟩ := st_prim (hts _ (nc_tb_in (nc_at_in (p := (7, 148)) rfl rfl)))
  obtain ⟨a3, x3, y3⟩ := st_prim (hts _ (nc_tb_in (nc_at_in (p := (1, 151)) rfl rfl)))
  obtain ⟨a4, x4, y4⟩ := st_obj (st_AO hts)
  refine ⟨(fun k => if k = 0 then c0 else if k = 1 then c1 else if k = 2 then c2 else if k = 3 then c3 else if k = 4 then c4 else if k = 5 then c5 else if k = 6 then c6 else if k = 7 then c7 else if k = 8 then c8 else if k = 9 then c9 else if k = 10 then c10 else if k = 11 then c11 else if k = 12 then c12 else 0, fun k => if k = 0 then i0 else if k = 1 then i1 else if k = 2 then i2 else if k = 3 then i3 else if k = 4 then i4 else if k = 5 then i5 else if k = 6 then i6 else if k = 7 then i7 else if k = 8 then i8 else if k = 9 then i9 else if k = 10 then i10 else if k = 11 then i11 else if k = 12 then i12 else (fun _ => 0)), fun k => if k = 0 then a0 else if k = 1 then a1 else if k = 2 then a2 else if k = 3 then a3 else a4, ?_, ?_⟩
  · intro k q hq
    match k, hq with
    | 0, hq => cases hq; exact k0
    | 1, hq => cases hq; exact k1
    | 2, hq => cases hq; exact k2
    | 3, hq => cases hq; exact k3
    | 4, hq => cases hq; exact k4
    | 5, hq => cases hq; exact k5
    | 6, hq => cases hq; exact k6
    | 7, hq => cases hq; exact k7
    | 8, hq => cases hq; exact k8
    | 9, hq => cases hq; exact k9
    | 10, hq => cases hq; exact k10
    | 11, hq => cases hq; exact k11
    | 12, hq => cases hq; exact k12
    | k + 13, hq => simp [nc_cl] at hq
  · intro k q hq
    match k, hq with
    | 0, hq => cases hq; exact ⟨x0, y0⟩
    | 1, hq => cases hq; exact ⟨x1, y1⟩
    | 2, hq => cases hq; exact ⟨x2, y2⟩
    | 3, hq => cases hq; exact ⟨x3, y3⟩
    | 4, hq => cases hq; exact ⟨x4, y4⟩
    | k + 5, hq => simp [nc_tys] at hq
theorem st_low : ∀ a : Nat, a < s.heap.size → ¬ lw_A s a := fun a h => Nat.not_le.mpr h
theorem st_Z (hts : ∀ w ∈ lw_tbl, w.before args s = true) (hgv : (Jvm.Cond.and given_1 narrow_1).before args s = true) : va_Z "java/lang/String" "COMPACT_STRINGS" "Z" (.int 1) (lw_A s) s s.heap :=
  va_Zof (hts _ (nc_tk_in (List.mem_of_getElem? (i := 51) (show (nc_tk 1)[51]? = _ from rfl)))) (hts _ (nc_tb_in (nc_at_in (p := (1, 3)) rfl rfl))) (va_eqi (flat_of_before _ hgv _ (by decide +kernel))) st_low
theorem st_Q (hts : ∀ w ∈ lw_tbl, w.before args s = true) (hgv : (Jvm.Cond.and given_1 narrow_1).before args s = true) : va_Zq "jdk/internal/util/Preconditions" "SIOOBE_FORMATTER" "Ljava/util/function/BiFunction;" (lw_A s) s s.heap :=
  va_Zqof (hts _ (nc_tk_in (List.mem_of_getElem? (i := 67) (show (nc_tk 1)[67]? = _ from rfl)))) (hts _ (nc_tb_in (nc_at_in (p := (1, 5)) rfl rfl))) (flat_of_before _ hgv _ (by decide +kernel)) st_low
theorem st_t32 (hts : ∀ w ∈ lw_tbl, w.before args s = true) (hgv : (Jvm.Cond.and given_1 narrow_1).before args s = true) : ∃ a v, vk_R "NewsCows$Tape" 32 tpT a s ∧ vk_S 1 [tpB.length] [tpB] (fun _ => a) (fun _ => v) (lw_A s) s s.heap := by
  have hs := flat_of_before _ hgv
  obtain ⟨adK, adV, hS, he⟩ := vk_Sof (args := args) (s := s) (N := 1) (tm := fun _ => .string "NewsCows$Tape" 32) (len := [128]) (byt := [tpB]) (A := lw_A s) (fun i hi => by rw [show i = 0 by omega]; decide) (fun i hi => hs _ (by decide +kernel)) (fun i hi => hs _ (by decide +kernel)) (fun i hi => hs _ (by decide +kernel)) (fun i hi => by rw [show i = 0 by omega]; exact hs _ (by decide +kernel)) (fun i hi j hj => by
    obtain rfl : i = 0 := by omega
    exact hs _ (st_m st_32 hj)) (fun i j hi hj hij => absurd (show i = j by omega) hij) st_low
  refine ⟨adK 0, adV 0, vk_R.of (A := args) (hts _ (nc_tk_in (List.mem_of_getElem? (i := 41) (show (nc_tk 1)[41]? = _ from rfl)))) (he 0 (by decide)), ⟨fun i hi => ?_, fun i j hi hj _ => by omega⟩⟩
  obtain rfl : i = 0 := by omega
  exact hS.1 0 hi
theorem st_t88 (hts : ∀ w ∈ lw_tbl, w.before args s = true) (hgv : (Jvm.Cond.and given_1 narrow_1).before args s = true) : ∃ a v, vk_R "NewsCows$Tape" 88 ";<=>()" a s ∧ vk_S 1 [6] [[59, 60, 61, 62, 40, 41]] (fun _ => a) (fun _ => v) (lw_A s) s s.heap := by
  have hs := flat_of_before _ hgv
  obtain ⟨adK, adV, hS, he⟩ := vk_Sof (args := args) (s := s) (N := 1) (tm := fun _ => .string "NewsCows$Tape" 88) (len := [6]) (byt := [[59, 60, 61, 62, 40, 41]]) (A := lw_A s) (fun i hi => by rw [show i = 0 by omega]; decide) (fun i hi => hs _ (by decide +kernel)) (fun i hi => hs _ (by decide +kernel)) (fun i hi => hs _ (by decide +kernel)) (fun i hi => by rw [show i = 0 by omega]; exact hs _ (by decide +kernel)) (fun i hi j hj => by
    obtain rfl : i = 0 := by omega
    exact hs _ (st_m st_88 hj)) (fun i j hi hj hij => absurd (show i = j by omega) hij) st_low
  refine ⟨adK 0, adV 0, vk_R.of (A := args) (hts _ (nc_tk_in (List.mem_of_getElem? (i := 186) (show (nc_tk 3)[186]? = _ from rfl)))) (he 0 (by decide)), ⟨fun i hi => ?_, fun i j hi hj _ => by omega⟩⟩
  obtain rfl : i = 0 := by omega
  exact hS.1 0 hi
end ST
