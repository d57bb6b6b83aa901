/-! COW AND FARM, WHERE THEY THROW. -/
def exCe (s : State) (x : Addr) (t : State) : Prop := ∃ ce, t.heap[x]? = some ce ∧ ce.vm.isStatics = false ∧ s.vm.findClass "java/util/NoSuchElementException" = some ce.cls ∧ s.vm.assignable ce.cls ce.cls = true
def exQ (below : List Frame) (s : State) (mc ms : Nat) : State → Prop := fun t => ∃ x, t.status = .running ∧ Ended t below (.threw x) ∧ exCe s x t ∧ exE s t mc ms
def exM (l : Launch) (y : MethodName) (ws : List Cond) (rm : Room) (Pc : Array Value → State → Prop) (mc ms : Nat) : Prop := MetFree l y (headSpec ws rm) Pc (fun _ _ _ _ _ => True) (fun _ st o t => ∃ x, o = .threw x ∧ exCe st x t ∧ exE st t mc ms)
theorem exM.ofW {l : Launch} {y : MethodName} {ws ws' : List Cond} {rm : Room} {Pc : Array Value → State → Prop} {mc ms : Nat} {cc : ByteArray} {maxL : Nat} {ret : Option FieldType} (hy : plainName y.cls = true) (hw : ws = Cond.code y cc maxL ret :: ws')
    (body : ∀ p e s m args below meth c s₁, BodyLoose p l y (headSpec ws rm) cc maxL ret e s m args below meth c s₁ → c.maxLocals = maxL → Pc args s → W p l e (headSpec ws rm).room s m args below meth c s.heap [] 0 0 (exQ below s mc ms) (entryFrame m args maxL)) : exM l y ws rm Pc mc ms := by
  refine MetFree.of_bodyS (code := cc) (maxLocals := maxL) (ret := ret) hy ?_ ?_
  · intro args s m h hn
    obtain ⟨meth, c, h1, h2, h3, h4, h5, h6, -, -⟩ := Cond.code_spec hn (atoms_spec (ws := ws) h _ (by rw [hw]; exact List.mem_cons_self))
    exact ⟨meth, c, h1, h2, h3, h4, h5, h6⟩
  · intro p e s m args below meth c s₁ B hml hP _
    have hh0 : s₁.heap = s.heap := by rw [B.state]; rfl
    obtain ⟨t, a1, x, b1, b2, b3, b4⟩ := body p e s m args below meth c s₁ B hml hP s₁ hh0 (Stand.of_body B)
    exact ⟨t, .threw x, a1, b1, b2, x, rfl, b3, b4⟩
theorem nd_pre_same {D : va_G} {cA : Nat → ClassId} {ad : Nat → Nat → Nat} {sz : Nat} {w : nc_H} {s U : State} (h : nd_Pre D cA ad sz w s) (hU : U.heap = s.heap) (hW : s.WarmedH U.vm) : nd_Pre D cA ad sz w U := by
  obtain ⟨h1, h2, h3, h4, h5, h6, h7⟩ := h
  refine ⟨by rw [hU]; exact h1, by rw [hU]; exact h2, va_K.moved hW.alike h3, h4, vk_R.warm hW h5, ?_, fun e he => va_Nw.warmF hW (h7 e he)⟩
  rw [hU]
  exact ⟨vk_S.moved hW.alike h6.1, va_Z.moved hW.alike h6.2⟩
def exP (D : va_G) (cA : Nat → ClassId) (ad : Nat → Nat → Nat) (sz : Nat) (w : nc_H) (U : State) : Prop := nd_Pre D cA ad sz w U ∧ ∀ a ∈ exL, a.before #[] U = true
theorem exP_bl {D : va_G} {cA : Nat → ClassId} {ad : Nat → Nat → Nat} {sz : Nat} {w : nc_H} {av : List Value} : FrameBlind (va_Pc av (exP D cA ad sz w)) := by
  intro x U g mk q
  obtain ⟨q0, q1, q2⟩ := q
  exact ⟨q0, (nd_blind (av := av) x U g mk ⟨q0, q1⟩).2, exL_same (s := U) (U := U.calling g mk x) (State.WarmedH.refl U) (fun _ _ h _ => h) q2⟩
set_option maxRecDepth 100000 in
set_option maxHeartbeats 4000000 in
theorem ex_cow (l : Launch) (hoff : ∀ e, l.admits e → e.platform.stackTraces = false) (D : va_G) (cA : Nat → ClassId) (ad : Nat → Nat → Nat) (sz : Nat) (w : nc_H) (x y : Int32) (hbad : exC x (w.1 2 0 2) = 0 ∨ y < 0 ∨ ¬ y ≤ 7) : exM l yX11_cow (Cond.code yX11_cow cX11_cow 3 (some .int) :: nc_tb) { frames := 12, cells := 1, slots := 6, locals := 400 } (va_Pc [.ref (ad 11 0), .int x, .int y] (exP D cA ad sz w)) 1 6 := by
  refine exM.ofW (cc := cX11_cow) (maxL := 3) (ret := (some .int)) (by decide) rfl ?_
  intro p e s m args below meth c s₁ B hml hv
  obtain ⟨rfl, hnd, hat0⟩ := hv
  have hnd0 := hnd
  obtain ⟨hsz, hP, hK, hD, hStr⟩ := hnd0
  subst hsz
  have hx := B.exec
  have hb := B.bytes
  have hts := atoms_spec (ws := (Cond.code yX11_cow cX11_cow 3 (some .int) :: nc_tb)) B.pre
  have hown : s.vm.findClass RX11 = some m.cls := findClass_of_methodNamed B.named
  have hat := exL_same (a' := ([.ref (ad 11 0), .int x, .int y] : List Value).toArray) (State.WarmedH.refl s) (fun _ _ h _ => h) hat0
  have hno : c.exceptionTable.toList = [] := by
    have h := B.noHandlers (hts _ List.mem_cons_self)
    simpa [Array.isEmpty] using h
  have hSF : va_S (fun _ => False) s.heap s.heap [] := va_S.rf
  obtain ⟨k0, -, hk0⟩ := nc_W_at (ad := ad) (cA := cA) (q := (11, 0)) rfl
  have he0 := hk0 w
  rw [nd_cell_o (by decide)] at he0
  have hl := lv_entry ([.ref (ad 11 0), .int x, .int y]) (n := 3) (Nat.le_of_ble_eq_true rfl)
  rw [lg_entry_eq]
  generalize (lg_sl ([.ref (ad 11 0), .int x, .int y]) ++ List.replicate (3 - (lg_sl ([.ref (ad 11 0), .int x, .int y])).length) Slot.unset).toArray = ls at hl ⊢
  have hl : lv_has ls 3 [(0, .ref (ad 11 0)), (1, .int x), (2, .int y)] := hl
  have thr : ∀ H9 : Heap, W p l e { frames := 12, cells := 1, slots := 6, locals := 400 } s m ([.ref (ad 11 0), .int x, .int y] : List Value).toArray below meth c H9 [] 0 0 (exQ below s 1 6) (F0 m 18 ls []) := fun H9 => ex_thr hx hb (hoff e B.admits) hown hat (hts _ (List.mem_cons_of_mem _ (nc_at_in (p := (6, 119)) rfl rfl))) (hts _ (List.mem_cons_of_mem _ (nc_at_in (p := (1, 25)) rfl rfl))) B.notSynchronized (hl.1.trans hml.symm) hno (show decode cX11_cow 18 = .ok (.new 140, 3) by decide +kernel) (show decode cX11_cow 21 = .ok (.dup, 1) by decide +kernel) (show decode cX11_cow 22 = .ok (.invokespecial 142, 3) by decide +kernel) (show decode cX11_cow 25 = .ok (.athrow, 1) by decide +kernel) (Nat.le_of_ble_eq_true rfl) (Nat.le_of_ble_eq_true rfl) (Nat.le_of_ble_eq_true rfl) (Nat.le_of_ble_eq_true rfl) (fun a U h1 h2 h3 h4 h5 => ⟨a, h1, h2, h5, h3, h4⟩)
  refine lv_aload_n hx hb (show decode cX11_cow 0 = .ok (.aload_n 0, 1) by decide +kernel) rfl (lv_at hl 0 rfl) ?_
  refine lv_iload_n hx hb (show decode cX11_cow 1 = .ok (.iload_n 1, 1) by decide +kernel) rfl (lv_at hl 1 rfl) ?_
  refine va_calli (va_runV (C := "NewsCows") (As := [.int x]) (rest := []) ⟨hx, hb, hml, hown, hts⟩ (ex_isCow l D cA ad s.heap.size w x) ⟨callB_of 1 hts (gdc (nc_at_in (p := (4, 151)) rfl rfl)) rfl rfl rfl (hts _ (List.mem_cons_of_mem _ (nc_at_in (p := (1, 1)) rfl rfl))) (hts _ (List.mem_cons_of_mem _ (nc_at_in (p := (4, 148)) rfl rfl))) ⟨by decide +kernel, by decide +kernel, by decide +kernel⟩ ⟨Nat.le_of_ble_eq_true rfl, Nat.le_of_ble_eq_true rfl⟩, (hts _ (List.mem_cons_of_mem _ (nc_at_in (p := (4, 150)) rfl rfl))), (hts _ (List.mem_cons_of_mem _ ((nd_m_facts (M := m_X11_isCow) (by decide)).2.2.1.resolve_left (by decide))))⟩ ⟨nd_blind, va_recv hK hP (nd_cl_at (t := 11) (by decide)) he0, fun U hU hW => ⟨rfl, nd_pre_same hnd hU hW⟩⟩ rfl rfl hl.1 rfl (lv_room (Nat.le_of_ble_eq_true rfl)) (show decode cX11_cow 2 = .ok (.invokevirtual 136, 3) by decide +kernel) ⟨Nat.zero_le _, Nat.zero_le _⟩) hSF (fun q _ h => h.elim) (fun q h => h.elim) (fun r9 u9 t9 H9 locs9 ht9 hvm9 hw9 hB9 hz9 hk9 hSF => ?_)
  obtain rfl : locs9 = [] := List.eq_nil_iff_forall_not_mem.mpr (fun q h => hSF.2.2 q h)
  refine lv_if_eq (tgt := 18) hx hb (show decode cX11_cow 5 = .ok (.ifCond .eq 13, 3) by decide +kernel) (by decide) (fun _ => thr H9) (fun q9 => ?_)
  have hbad := hbad.resolve_left (fun z => q9 (hw9.trans z))
  refine lv_iload_n hx hb (show decode cX11_cow 8 = .ok (.iload_n 2, 1) by decide +kernel) rfl (lv_at hl 2 rfl) ?_
  refine lv_if_lt (tgt := 18) hx hb (show decode cX11_cow 9 = .ok (.ifCond .lt 9, 3) by decide +kernel) (by decide) (fun _ => thr H9) (fun q8 => ?_)
  refine lv_iload_n hx hb (show decode cX11_cow 12 = .ok (.iload_n 2, 1) by decide +kernel) rfl (lv_at hl 2 rfl) ?_
  refine lv_bipush (v := 7) hx hb (show decode cX11_cow 13 = .ok (.bipush 7, 2) by decide +kernel) (by decide) ?_
  refine lv_icmp_le (tgt := 26) hx hb (show decode cX11_cow 15 = .ok (.if_icmp .le 11, 3) by decide +kernel) (by decide) (fun q7 => absurd q7 (hbad.resolve_left q8)) (fun _ => thr H9)
set_option maxRecDepth 100000 in
set_option maxHeartbeats 4000000 in
theorem ex_farm (l : Launch) (hoff : ∀ e, l.admits e → e.platform.stackTraces = false) (D : va_G) (cA : Nat → ClassId) (ad : Nat → Nat → Nat) (sz : Nat) (w : nc_H) (x y : Int32) (hbad : exC x (w.1 2 0 1) = 0 ∨ y < 0 ∨ ¬ y ≤ 3) : exM l yX11_farm (Cond.code yX11_farm cX11_farm 3 (some .int) :: nc_tb) { frames := 12, cells := 1, slots := 6, locals := 400 } (va_Pc [.ref (ad 11 0), .int x, .int y] (exP D cA ad sz w)) 1 6 := by
  refine exM.ofW (cc := cX11_farm) (maxL := 3) (ret := (some .int)) (by decide) rfl ?_
  intro p e s m args below meth c s₁ B hml hv
  obtain ⟨rfl, hnd, hat0⟩ := hv
  have hnd0 := hnd
  obtain ⟨hsz, hP, hK, hD, hStr⟩ := hnd0
  subst hsz
  have hx := B.exec
  have hb := B.bytes
  have hts := atoms_spec (ws := (Cond.code yX11_farm cX11_farm 3 (some .int) :: nc_tb)) B.pre
  have hown : s.vm.findClass RX11 = some m.cls := findClass_of_methodNamed B.named
  have hat := exL_same (a' := ([.ref (ad 11 0), .int x, .int y] : List Value).toArray) (State.WarmedH.refl s) (fun _ _ h _ => h) hat0
  have hno : c.exceptionTable.toList = [] := by
    have h := B.noHandlers (hts _ List.mem_cons_self)
    simpa [Array.isEmpty] using h
  have hSF : va_S (fun _ => False) s.heap s.heap [] := va_S.rf
  obtain ⟨k0, -, hk0⟩ := nc_W_at (ad := ad) (cA := cA) (q := (11, 0)) rfl
  have he0 := hk0 w
  rw [nd_cell_o (by decide)] at he0
  have hl := lv_entry ([.ref (ad 11 0), .int x, .int y]) (n := 3) (Nat.le_of_ble_eq_true rfl)
  rw [lg_entry_eq]
  generalize (lg_sl ([.ref (ad 11 0), .int x, .int y]) ++ List.replicate (3 - (lg_sl ([.ref (ad 11 0), .int x, .int y])).length) Slot.unset).toArray = ls at hl ⊢
  have hl : lv_has ls 3 [(0, .ref (ad 11 0)), (1, .int x), (2, .int y)] := hl
  have thr : ∀ H9 : Heap, W p l e { frames := 12, cells := 1, slots := 6, locals := 400 } s m ([.ref (ad 11 0), .int x, .int y] : List Value).toArray below meth c H9 [] 0 0 (exQ below s 1 6) (F0 m 17 ls []) := fun H9 => ex_thr hx hb (hoff e B.admits) hown hat (hts _ (List.mem_cons_of_mem _ (nc_at_in (p := (6, 119)) rfl rfl))) (hts _ (List.mem_cons_of_mem _ (nc_at_in (p := (1, 25)) rfl rfl))) B.notSynchronized (hl.1.trans hml.symm) hno (show decode cX11_farm 17 = .ok (.new 140, 3) by decide +kernel) (show decode cX11_farm 20 = .ok (.dup, 1) by decide +kernel) (show decode cX11_farm 21 = .ok (.invokespecial 142, 3) by decide +kernel) (show decode cX11_farm 24 = .ok (.athrow, 1) by decide +kernel) (Nat.le_of_ble_eq_true rfl) (Nat.le_of_ble_eq_true rfl) (Nat.le_of_ble_eq_true rfl) (Nat.le_of_ble_eq_true rfl) (fun a U h1 h2 h3 h4 h5 => ⟨a, h1, h2, h5, h3, h4⟩)
  refine lv_aload_n hx hb (show decode cX11_farm 0 = .ok (.aload_n 0, 1) by decide +kernel) rfl (lv_at hl 0 rfl) ?_
  refine lv_iload_n hx hb (show decode cX11_farm 1 = .ok (.iload_n 1, 1) by decide +kernel) rfl (lv_at hl 1 rfl) ?_
  refine va_calli (va_runV (C := "NewsCows") (As := [.int x]) (rest := []) ⟨hx, hb, hml, hown, hts⟩ (ex_isFarm l D cA ad s.heap.size w x) ⟨callB_of 1 hts (gdc (nc_at_in (p := (5, 141)) rfl rfl)) rfl rfl rfl (hts _ (List.mem_cons_of_mem _ (nc_at_in (p := (1, 1)) rfl rfl))) (hts _ (List.mem_cons_of_mem _ (nc_at_in (p := (5, 138)) rfl rfl))) ⟨by decide +kernel, by decide +kernel, by decide +kernel⟩ ⟨Nat.le_of_ble_eq_true rfl, Nat.le_of_ble_eq_true rfl⟩, (hts _ (List.mem_cons_of_mem _ (nc_at_in (p := (5, 140)) rfl rfl))), (hts _ (List.mem_cons_of_mem _ ((nd_m_facts (M := m_X11_isFarm) (by decide)).2.2.1.resolve_left (by decide))))⟩ ⟨nd_blind, va_recv hK hP (nd_cl_at (t := 11) (by decide)) he0, fun U hU hW => ⟨rfl, nd_pre_same hnd hU hW⟩⟩ rfl rfl hl.1 rfl (lv_room (Nat.le_of_ble_eq_true rfl)) (show decode cX11_farm 2 = .ok (.invokevirtual 188, 3) by decide +kernel) ⟨Nat.zero_le _, Nat.zero_le _⟩) hSF (fun q _ h => h.elim) (fun q h => h.elim) (fun r9 u9 t9 H9 locs9 ht9 hvm9 hw9 hB9 hz9 hk9 hSF => ?_)
  obtain rfl : locs9 = [] := List.eq_nil_iff_forall_not_mem.mpr (fun q h => hSF.2.2 q h)
  refine lv_if_eq (tgt := 17) hx hb (show decode cX11_farm 5 = .ok (.ifCond .eq 12, 3) by decide +kernel) (by decide) (fun _ => thr H9) (fun q9 => ?_)
  have hbad := hbad.resolve_left (fun z => q9 (hw9.trans z))
  refine lv_iload_n hx hb (show decode cX11_farm 8 = .ok (.iload_n 2, 1) by decide +kernel) rfl (lv_at hl 2 rfl) ?_
  refine lv_if_lt (tgt := 17) hx hb (show decode cX11_farm 9 = .ok (.ifCond .lt 8, 3) by decide +kernel) (by decide) (fun _ => thr H9) (fun q8 => ?_)
  refine lv_iload_n hx hb (show decode cX11_farm 12 = .ok (.iload_n 2, 1) by decide +kernel) rfl (lv_at hl 2 rfl) ?_
  refine lv_iconst (v := 3) hx hb (show decode cX11_farm 13 = .ok (.iconst 3, 1) by decide +kernel) (by decide) ?_
  refine lv_icmp_le (tgt := 25) hx hb (show decode cX11_farm 14 = .ok (.if_icmp .le 11, 3) by decide +kernel) (by decide) (fun q7 => absurd q7 (hbad.resolve_left q8)) (fun _ => thr H9)
