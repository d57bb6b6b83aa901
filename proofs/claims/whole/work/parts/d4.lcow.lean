/-! THE LAW'S OWN cow AND farm. -/
def lc_ws (cA : Nat → ClassId) (ad : Nat → Nat → Nat) (q3 : Nat) (g : Nat → Int64) (w : nc_H) : va_W := nc_W ad cA w ++ lw_x cA q3 g
def lcP (D : va_G) (cA : Nat → ClassId) (ad : Nat → Nat → Nat) (q3 : Nat) (g : Nat → Int64) (sz : Nat) (w : nc_H) (U : State) : Prop := U.heap.size = sz ∧ va_P D nc_cl (lc_ws cA ad q3 g w) U.heap ∧ va_K D nc_cl (nc_tys cA) U ∧ va_D (fun _ => True) (lc_ws cA ad q3 g w) ∧ nd_Str ad (va_A (lc_ws cA ad q3 g w) sz) U U.heap ∧ ∀ a ∈ exL, a.before #[] U = true
def lcB (D : va_G) (cA : Nat → ClassId) (ad : Nat → Nat → Nat) (q3 : Nat) (g : Nat → Int64) (A : Nat → Prop) (w : nc_H) (t : State) : Prop := va_P D nc_cl (lc_ws cA ad q3 g w) t.heap ∧ va_K D nc_cl (nc_tys cA) t ∧ va_D A (lc_ws cA ad q3 g w)
theorem lcP_bl {D : va_G} {cA : Nat → ClassId} {ad : Nat → Nat → Nat} {q3 sz : Nat} {g : Nat → Int64} {w : nc_H} {av : List Value} : FrameBlind (va_Pc av (lcP D cA ad q3 g sz w)) := by
  intro a U g9 mk q
  obtain ⟨q0, q1, qP, qK, qD, ⟨qR, qS, qN⟩, qL⟩ := q
  exact ⟨q0, q1, qP, va_K.moved (u := U) (U := U.calling g9 mk a) (Vm.Alike.refl U.vm) qK, qD, ⟨vk_R.same (u := U) rfl qR, ⟨vk_S.moved (u := U) (U := U.calling g9 mk a) (Vm.Alike.refl U.vm) qS.1, va_Z.moved (u := U) (U := U.calling g9 mk a) (Vm.Alike.refl U.vm) qS.2⟩, fun e he => va_Nw.same rfl rfl (qN e he)⟩, exL_same (s := U) (U := U.calling g9 mk a) (State.WarmedH.refl U) (fun _ _ h _ => h) qL⟩
theorem lc_set {cA : Nat → ClassId} {ad : Nat → Nat → Nat} {q3 : Nat} {g g' : Nat → Int64} {w : nc_H} : (lc_ws cA ad q3 g w).set ((nc_W ad cA w).length + 0) (q3, .inl (cA 3, 1, .inr (.inl g'))) = lc_ws cA ad q3 g' w := by
  unfold lc_ws
  rw [List.set_append_right _ _ (Nat.le_add_right _ _), Nat.add_sub_cancel_left]
  rfl
def lcR (a b : Nat) : Room := { frames := 1000, cells := a, slots := b, locals := 62000 }
theorem lc_room (a b : Nat) : ∀ M, M < nc_many → M + 1 ≤ (lcR a b).frames ∧ 64 * M + 200 ≤ (lcR a b).locals := by
  intro M h
  have h2 : nc_many ≤ 900 := by decide +kernel
  show M + 1 ≤ 1000 ∧ 64 * M + 200 ≤ 62000
  omega
/-- a call of the class out of the law's own methods -/
theorem g_call (l : Launch) {p : Program} {e : Env} {R : Room} {s : State} {m : MethodId} {args : Array Value} {below : List Frame} {meth : Method} {c : Code} {cc : ByteArray} {nL : Nat} {D : va_G} {cA : Nat → ClassId} {ad : Nat → Nat → Nat} {A : Nat → Prop} (hx : p.tables.exec = Jvm.exec) (hb : c.code = cc) (hml : c.maxLocals = nL) (hown : s.vm.findClass R_law = some m.cls) (hts' : ∀ w ∈ nc_tb, w.before args s = true) (hK : va_K D nc_cl (nc_tys cA) s) (hStr : nd_Str ad A s s.heap) (hA : ∀ q, s.heap.size ≤ q → A q) (hR : ∀ M, M < nc_many → M + 1 ≤ R.frames ∧ 64 * M + 200 ≤ R.locals) {M pc k q3 : Nat} {g : Nat → Int64} {o : Nat × Nat} {is : List Int32} {r : Int32} {w w' : nc_H} {H : Heap} {locs : List Loc} {cells slots : Nat} {ls : Array Slot} {rest st0 : List Value} {Q : State → Prop}
    (hc : nc_Call M (.inr (.inr o) :: is.map .inl) w = some (some (.inl r), w')) (hM : M < nc_many) (hlk : Cond.methodLink R_law k (nc_y M) ∈ nc_tb) (hi0 : (nc_mq M).1 = 0) (ho : nc_ok o = true) (ho1 : nc_own M = o.1) (hn : is.length = (nc_mq M).2) (hd : decode cc pc = .ok (.invokevirtual k, 3)) (hls : ls.size = nL) (hst : st0 = (is.map Value.int).reverse ++ .ref (ad o.1 o.2) :: rest) (hrest : (rest.map fun v => v.category).sum ≤ 8) (hcs : cells ≤ R.cells ∧ slots ≤ R.slots)
    (hP : va_P D nc_cl (lc_ws cA ad q3 g w) H) (hD : va_D A (lc_ws cA ad q3 g w)) (hS : va_S A s.heap H locs) (kk : ∀ (H1 : Heap) (locs1 : List Loc), va_P D nc_cl (lc_ws cA ad q3 g w') H1 → va_D A (lc_ws cA ad q3 g w') → va_S A s.heap H1 locs1 → W p l e R s m args below meth c H1 locs1 cells slots Q (F0 m (pc + 3) ls (.int r :: rest))) : W p l e R s m args below meth c H locs cells slots Q (F0 m pc ls st0) := by
  obtain ⟨m1, m2, m3, m4, m5, m6, m7, m8, m9, m10, m11⟩ := nd_m_facts hM
  rw [if_pos hi0] at m2
  have m3 := m3.resolve_left (by omega)
  have hPc : va_P D nc_cl (nc_W ad cA w) H := fun k q h => hP k q (lw_l h)
  have hDc : va_D A (nc_W ad cA w) := ⟨fun i j p q h1 h2 e => hD.1 i j p q (lw_l h1) (lw_l h2) e, fun k q h => hD.2 k q (lw_l h)⟩
  have hF := nd_hF (s := s) (w := w) hA hDc hS
  have ht : o.1 < 13 := by
    rcases nd_ok_t ho with h1 | h1
    · exact h1
    · omega
  obtain ⟨t, a⟩ := o
  obtain ⟨q0, hq0, hq2⟩ := nc_W_at (ad := ad) (cA := cA) ho
  have he := hq2 w
  rw [nd_cell_o ht] at he
  have hcl : (nc_y M).cls = nc_cn t := by
    rw [m6]
    exact congrArg nc_cn ho1
  have hso : nc_Sok (.inr (.inr (t, a)) :: is.map .inl) := nc_so_c (Or.inl ho) (fun v hv => by
    obtain ⟨x, -, rfl⟩ := List.mem_map.mp hv
    trivial)
  have hcon := nd_sound l (nd_idx l) M hM _ _ _ hc hso D cA ad H.size
  have hrm := hR M hM
  subst hst
  have hmap : (is.map (fun x => (Sum.inl x : nc_V))).map (nc_v ad) = is.map Value.int := by
    rw [List.map_map]
    rfl
  refine va_calli (S := Unit) (post := fun y _ => y = r) (B := fun _ t => nd_B D cA ad (va_A (nc_W ad cA w) H.size) w' t) (A1 := va_A (nc_W ad cA w) H.size) (va_runV (C := (nc_y M).cls) (As := is.map Value.int) (rest := rest) ⟨hx, hb, hml, hown, hts'⟩ hcon ⟨callB_of _ hts' (nd_goodIn hM) rfl rfl rfl (hts' _ m4) (hts' _ hlk) ⟨m7, m8, m9⟩ ⟨hrm.1, ?_⟩, hts' _ m2, hts' _ m3⟩ ⟨nd_blind, ?_, fun U hU hW => ⟨?_, ?_⟩⟩ rfl (by rw [List.length_map]; exact hn) hls rfl (lv_room hrest) hd ⟨hcs.1, hcs.2⟩) hS (fun q _ h => hF q h) hF (fun z u t9 H1 locs1 ht9 hvm hw hB hz1 hk1 hS1 => ?_)
  · show 8 + (nc_mL M + 11) + 64 * M ≤ R.locals
    omega
  · rw [hcl]
    exact va_recv hK hPc (nd_cl_at ht) he
  · show _ = (List.map (nc_v ad) _).toArray
    rw [List.map_cons, hmap]
    rfl
  · refine ⟨by rw [hU], by rw [hU]; exact hPc, va_K.moved hW.alike hK, hDc.weaken (fun _ _ _ _ => trivial), vk_R.warm hW hStr.1, ?_, fun e he => va_Nw.warmF hW (hStr.2.2 e he)⟩
    rw [hU]
    exact ⟨vk_S.narrow (vk_S.moved hW.alike (vk_S.kept hStr.2.1.1 hS.2.1)) hF, va_Z.narrow (va_Z.moved hW.alike (va_Z.kept hStr.2.1.2 hS.2.1)) hF⟩
  · obtain ⟨hP1, hK1, hD1⟩ := hB
    rw [ht9] at hP1
    subst hw
    obtain ⟨hP2, hD2⟩ := lw_join hP hD hk1 hF hP1 hD1
    exact kk H1 locs1 hP2 hD2 hS1
abbrev yL_cow : MethodName := ({ cls := "NewsCowsLaw", name := "cow", desc := "(LNewsCows;II[J)I" } : Jvm.MethodName)
abbrev wL_cow : List Cond := Cond.codeWith yL_cow method_3_code 5 (some .int) [(0, 10, 13, 13)] :: nc_tb
set_option maxRecDepth 100000 in
set_option maxHeartbeats 4000000 in
theorem lc_ok_cow (l : Launch) (D : va_G) (cA : Nat → ClassId) (ad : Nat → Nat → Nat) (q3 : Nat) (g : Nat → Int64) (sz : Nat) (w : nc_H) (x y r : Int32) (hc : nc_Call m_X11_cow [cO, .inl x, .inl y] w = some (some (.inl r), w)) : Met l yL_cow wL_cow (lcR 0 0) (va_Pc [.ref (ad 11 0), .int x, .int y, .ref q3] (lcP D cA ad q3 g sz w)) (va_Qi (fun v (_ : Unit) => v = 0) (fun _ t => lcB D cA ad q3 (vp_updL g 0 r.toInt64) (va_A (lc_ws cA ad q3 g w) sz) w t) (va_A (lc_ws cA ad q3 g w) sz)) 0 0 (va_A (lc_ws cA ad q3 g w) sz) := by
  refine va_MetW (cc := method_3_code) (maxL := 5) (ret := (some .int)) (hh := [(0, 10, 13, 13)]) (by decide) rfl ?_
  intro p e s m args below meth c s₁ B hml hv
  obtain ⟨rfl, hsz, hP, hK, hD0, hStr, hat0⟩ := hv
  subst hsz
  have hx := B.exec
  have hb := B.bytes
  have hr := B.returns
  have hts := atoms_spec (ws := wL_cow) B.pre
  have hts' : ∀ w ∈ nc_tb, w.before ([.ref (ad 11 0), .int x, .int y, .ref q3] : List Value).toArray s = true := fun w h => hts w (List.mem_cons_of_mem _ h)
  have hown : s.vm.findClass R_law = some m.cls := findClass_of_methodNamed B.named
  have hD := hD0.self (sz := s.heap.size)
  generalize hAe : va_A (lc_ws cA ad q3 g w) s.heap.size = A at hD hStr ⊢
  have hA : ∀ q : Nat, s.heap.size ≤ q → A q := fun q h => by rw [← hAe]; exact Or.inr h
  have hS : va_S A s.heap s.heap [] := va_S.rf
  have hl := lv_entry ([.ref (ad 11 0), .int x, .int y, .ref q3]) (n := 5) (Nat.le_of_ble_eq_true rfl)
  rw [lg_entry_eq]
  generalize (lg_sl ([.ref (ad 11 0), .int x, .int y, .ref q3]) ++ List.replicate (5 - (lg_sl ([.ref (ad 11 0), .int x, .int y, .ref q3])).length) Slot.unset).toArray = ls at hl ⊢
  have hl : lv_has ls 5 [(0, .ref (ad 11 0)), (1, .int x), (2, .int y), (3, .ref q3)] := hl
  refine lv_aload_n hx hb (show decode method_3_code 0 = .ok (.aload_n 3, 1) by decide +kernel) rfl (lv_at hl 3 rfl) ?_
  refine lv_iconst (v := 0) hx hb (show decode method_3_code 1 = .ok (.iconst 0, 1) by decide +kernel) (by decide) ?_
  refine lv_aload_n hx hb (show decode method_3_code 2 = .ok (.aload_n 0, 1) by decide +kernel) rfl (lv_at hl 0 rfl) ?_
  refine lv_iload_n hx hb (show decode method_3_code 3 = .ok (.iload_n 1, 1) by decide +kernel) rfl (lv_at hl 1 rfl) ?_
  refine lv_iload_n hx hb (show decode method_3_code 4 = .ok (.iload_n 2, 1) by decide +kernel) rfl (lv_at hl 2 rfl) ?_
  refine g_call l hx hb hml hown hts' hK hStr hA (lc_room 0 0) (o := (11, 0)) (is := [x, y]) (rest := [.int 0, .ref q3]) hc (by decide) (nc_at_in (p := (6, 115)) rfl rfl) rfl rfl rfl rfl (show decode method_3_code 5 = .ok (.invokevirtual 7, 3) by decide +kernel) hl.1 rfl (Nat.le_of_ble_eq_true rfl) ⟨Nat.zero_le _, Nat.zero_le _⟩ hP hD hS (fun H locs hP hD hS => ?_)
  refine lv_i2l (v := r.toInt64) hx hb (show decode method_3_code 8 = .ok (.i2l, 1) by decide +kernel) rfl ?_
  refine va_last hx hb hK hP hD hS ((nc_W ad cA w).length + 0) 3 (lw_r rfl) rfl (show vp_in (nI 0) 1 from vp_in_nI (by decide) (by decide)) (show decode method_3_code 9 = .ok (.lastore, 1) by decide +kernel) (fun H locs hP hD hS => ?_)
  rw [lc_set] at hP hD
  refine lv_goto (tgt := 17) hx hb (show decode method_3_code 10 = .ok (.goto 7, 3) by decide +kernel) (by decide) ?_
  refine lv_iconst (v := 0) hx hb (show decode method_3_code 17 = .ok (.iconst 0, 1) by decide +kernel) (by decide) ?_
  exact W.iret (v := 0) hx hb hr (fun t ht hW => ⟨⟨0, (), rfl, rfl, by rw [ht]; exact hP, va_K.moved hW.alike hK, hD⟩, hS.F ht⟩) hS.2.2 (show decode method_3_code 18 = .ok (.ireturn, 1) by decide +kernel)
set_option maxRecDepth 100000 in
set_option maxHeartbeats 4000000 in
theorem lc_no_cow (l : Launch) (hoff : ∀ e, l.admits e → e.platform.stackTraces = false) (D : va_G) (cA : Nat → ClassId) (ad : Nat → Nat → Nat) (q3 : Nat) (g : Nat → Int64) (sz : Nat) (w : nc_H) (x y : Int32) (hbad : exC x (w.1 2 0 2) = 0 ∨ y < 0 ∨ ¬ y ≤ 7) : Met l yL_cow wL_cow (lcR 1 6) (va_Pc [.ref (ad 11 0), .int x, .int y, .ref q3] (lcP D cA ad q3 g sz w)) (va_Qi (fun v (_ : Unit) => v = 1) (fun _ t => lcB D cA ad q3 g (va_A (lc_ws cA ad q3 g w) sz) w t) (va_A (lc_ws cA ad q3 g w) sz)) 1 6 (va_A (lc_ws cA ad q3 g w) sz) := by
  refine va_MetW (cc := method_3_code) (maxL := 5) (ret := (some .int)) (hh := [(0, 10, 13, 13)]) (by decide) rfl ?_
  intro p e s m args below meth c s₁ B hml hv
  obtain ⟨rfl, hsz, hP, hK, hD0, hStr, hat0⟩ := hv
  subst hsz
  have hx := B.exec
  have hb := B.bytes
  have hr := B.returns
  have hts := atoms_spec (ws := wL_cow) B.pre
  have hts' : ∀ w ∈ nc_tb, w.before ([.ref (ad 11 0), .int x, .int y, .ref q3] : List Value).toArray s = true := fun w h => hts w (List.mem_cons_of_mem _ h)
  have hown : s.vm.findClass R_law = some m.cls := findClass_of_methodNamed B.named
  have hD := hD0.self (sz := s.heap.size)
  generalize hAe : va_A (lc_ws cA ad q3 g w) s.heap.size = A at hD hStr ⊢
  have hA : ∀ q : Nat, s.heap.size ≤ q → A q := fun q h => by rw [← hAe]; exact Or.inr h
  have hS : va_S A s.heap s.heap [] := va_S.rf
  have hl := lv_entry ([.ref (ad 11 0), .int x, .int y, .ref q3]) (n := 5) (Nat.le_of_ble_eq_true rfl)
  rw [lg_entry_eq]
  generalize (lg_sl ([.ref (ad 11 0), .int x, .int y, .ref q3]) ++ List.replicate (5 - (lg_sl ([.ref (ad 11 0), .int x, .int y, .ref q3])).length) Slot.unset).toArray = ls at hl ⊢
  have hl : lv_has ls 5 [(0, .ref (ad 11 0)), (1, .int x), (2, .int y), (3, .ref q3)] := hl
  obtain ⟨hrc, hrs, hfr, hlo, hws, hcw, hcode, hini, hy, hlen, hlk⟩ := (callB_of 2 hts' (gdc0 (nc_at_in (p := (6, 118)) rfl rfl)) rfl rfl rfl (hts' _ (nc_at_in (p := (1, 1)) rfl rfl)) (hts' _ (nc_at_in (p := (6, 115)) rfl rfl)) ⟨by decide +kernel, by decide +kernel, by decide +kernel⟩ ⟨Nat.le_of_ble_eq_true rfl, Nat.le_of_ble_eq_true rfl⟩ : CallB (lcR 1 6) s ([.ref (ad 11 0), .int x, .int y, .ref q3] : List Value).toArray R_law 7 yX11_cow cX11_cow 3 (some .int) (Cond.code yX11_cow cX11_cow 3 (some .int) :: nc_tb) { frames := 12, cells := 1, slots := 6, locals := 400 } 1 6 2)
  obtain ⟨m9, meth9, c9, hn9, hm9, hc9, -, -, ht9, -⟩ := Cond.codeWith_spec (hts _ List.mem_cons_self)
  cases B.named.symm.trans hn9
  cases B.method.symm.trans hm9
  cases (Stand.of_body B).code.symm.trans hc9
  have htab : c.exceptionTable.toList = [⟨0, 10, 13, 13⟩] := by
    have h := Jvm.table_eq c.exceptionTable.toList
    rw [ht9] at h
    exact h.symm
  obtain ⟨k0, -, hk0⟩ := nc_W_at (ad := ad) (cA := cA) (q := (11, 0)) rfl
  have he0 := hk0 w
  rw [nd_cell_o (by decide)] at he0
  have hPn : va_P D nc_cl (nc_W ad cA w) s.heap := fun k q h => hP k q (lw_l h)
  have hDn : va_D A (nc_W ad cA w) := ⟨fun i j p q h1 h2 e => hD.1 i j p q (lw_l h1) (lw_l h2) e, fun k q h => hD.2 k q (lw_l h)⟩
  have hF := nd_hF (s := s) (w := w) hA hDn hS
  refine lv_aload_n hx hb (show decode method_3_code 0 = .ok (.aload_n 3, 1) by decide +kernel) rfl (lv_at hl 3 rfl) ?_
  refine lv_iconst (v := 0) hx hb (show decode method_3_code 1 = .ok (.iconst 0, 1) by decide +kernel) (by decide) ?_
  refine lv_aload_n hx hb (show decode method_3_code 2 = .ok (.aload_n 0, 1) by decide +kernel) rfl (lv_at hl 0 rfl) ?_
  refine lv_iload_n hx hb (show decode method_3_code 3 = .ok (.iload_n 1, 1) by decide +kernel) rfl (lv_at hl 1 rfl) ?_
  refine lv_iload_n hx hb (show decode method_3_code 4 = .ok (.iload_n 2, 1) by decide +kernel) rfl (lv_at hl 2 rfl) ?_
  refine ex_catch (C := "NewsCows") (As := [.int x, .int y]) (rest := [.int 0, .ref q3]) (Pc := va_Pc [.ref (ad 11 0), .int x, .int y] (exP D cA ad s.heap.size w)) hx hb hml hown hlk (hts' _ (nc_at_in (p := (6, 116)) rfl rfl)) (hts' _ (nc_at_in (p := (6, 117)) rfl rfl)) hcode hy (ex_back (ex_cow l hoff D cA ad s.heap.size w x y hbad) exP_bl hrc hrs hfr hlo hws hcw (fun a' U hW => word_at hW (Or.inl (by first | rfl | simp [Cond.onTables, Cond.keeps, Cond.steady])) hini)) (va_recv hK hPn (nd_cl_at (t := 11) (by decide)) he0) hl.1 (fun sig h => (hlen sig h)) (Nat.le_of_ble_eq_true rfl) (show decode method_3_code 5 = .ok (.invokevirtual 7, 3) by decide +kernel) ⟨Nat.le_of_ble_eq_true rfl, Nat.le_of_ble_eq_true rfl⟩ (fun U hU hW => ⟨rfl, ?_, ?_⟩) htab (by decide) ⟨by decide, by decide⟩ (hts' _ (nc_at_in (p := (6, 114)) rfl rfl)) (exL_same (a' := ([.ref (ad 11 0), .int x, .int y, .ref q3] : List Value).toArray) (State.WarmedH.refl s) (fun _ _ h _ => h) hat0 _ (by simp [exL, Jvm.Bundle.ownAtoms0])) (fun a H1 hkeep => ?_)
  · refine ⟨by rw [hU], by rw [hU]; exact hPn, va_K.moved hW.alike hK, hDn.weaken (fun _ _ _ _ => trivial), vk_R.warm hW hStr.1, ?_, fun e he => va_Nw.warmF hW (hStr.2.2 e he)⟩
    rw [hU]
    exact ⟨vk_S.narrow (vk_S.moved hW.alike hStr.2.1.1) hF, va_Z.narrow (va_Z.moved hW.alike hStr.2.1.2) hF⟩
  · exact exL_same hW (fun y9 cy h _ => by rw [hU]; exact h) hat0
  have hsame : ∀ q : Nat, q < s.heap.size → H1[q]? = s.heap[q]? := fun q hq => by
    have h := Array.getElem?_eq_getElem hq
    rw [hkeep q _ h, h]
  have hz : s.heap.size ≤ H1.size := by
    rcases Nat.lt_or_ge H1.size s.heap.size with h | h
    · have h1 := hsame H1.size h
      rw [Array.getElem?_eq_none (Nat.le_refl _), Array.getElem?_eq_getElem h] at h1
      cases h1
    · exact h
  have hP1 : va_P D nc_cl (lc_ws cA ad q3 g w) H1 := fun k q h => (hP k q h).kept (hsame q.1 (nc_at_lt (hP k q h)))
  have hS1 : va_S A s.heap H1 [] := ⟨hz, fun q h1 _ => hsame q h1, fun q h => by cases h⟩
  refine lv_astore (lv' := [(4, .ref a), (0, .ref (ad 11 0)), (1, .int x), (2, .int y), (3, .ref q3)]) hx hb (show decode method_3_code 13 = .ok (.astore 4, 2) by decide +kernel) hl (by decide) rfl (fun ls hl => ?_)
  refine lv_iconst (v := 1) hx hb (show decode method_3_code 15 = .ok (.iconst 1, 1) by decide +kernel) (by decide) ?_
  exact W.iret (v := 1) hx hb hr (fun t ht hW => ⟨⟨1, (), rfl, rfl, by rw [ht]; exact hP1, va_K.moved hW.alike hK, hD⟩, hS1.F ht⟩) hS1.2.2 (show decode method_3_code 16 = .ok (.ireturn, 1) by decide +kernel)
abbrev yL_farm : MethodName := ({ cls := "NewsCowsLaw", name := "farm", desc := "(LNewsCows;II[J)I" } : Jvm.MethodName)
abbrev wL_farm : List Cond := Cond.codeWith yL_farm method_4_code 5 (some .int) [(0, 10, 13, 13)] :: nc_tb
set_option maxRecDepth 100000 in
set_option maxHeartbeats 4000000 in
theorem lc_ok_farm (l : Launch) (D : va_G) (cA : Nat → ClassId) (ad : Nat → Nat → Nat) (q3 : Nat) (g : Nat → Int64) (sz : Nat) (w : nc_H) (x y r : Int32) (hc : nc_Call m_X11_farm [cO, .inl x, .inl y] w = some (some (.inl r), w)) : Met l yL_farm wL_farm (lcR 0 0) (va_Pc [.ref (ad 11 0), .int x, .int y, .ref q3] (lcP D cA ad q3 g sz w)) (va_Qi (fun v (_ : Unit) => v = 0) (fun _ t => lcB D cA ad q3 (vp_updL g 0 r.toInt64) (va_A (lc_ws cA ad q3 g w) sz) w t) (va_A (lc_ws cA ad q3 g w) sz)) 0 0 (va_A (lc_ws cA ad q3 g w) sz) := by
  refine va_MetW (cc := method_4_code) (maxL := 5) (ret := (some .int)) (hh := [(0, 10, 13, 13)]) (by decide) rfl ?_
  intro p e s m args below meth c s₁ B hml hv
  obtain ⟨rfl, hsz, hP, hK, hD0, hStr, hat0⟩ := hv
  subst hsz
  have hx := B.exec
  have hb := B.bytes
  have hr := B.returns
  have hts := atoms_spec (ws := wL_farm) B.pre
  have hts' : ∀ w ∈ nc_tb, w.before ([.ref (ad 11 0), .int x, .int y, .ref q3] : List Value).toArray s = true := fun w h => hts w (List.mem_cons_of_mem _ h)
  have hown : s.vm.findClass R_law = some m.cls := findClass_of_methodNamed B.named
  have hD := hD0.self (sz := s.heap.size)
  generalize hAe : va_A (lc_ws cA ad q3 g w) s.heap.size = A at hD hStr ⊢
  have hA : ∀ q : Nat, s.heap.size ≤ q → A q := fun q h => by rw [← hAe]; exact Or.inr h
  have hS : va_S A s.heap s.heap [] := va_S.rf
  have hl := lv_entry ([.ref (ad 11 0), .int x, .int y, .ref q3]) (n := 5) (Nat.le_of_ble_eq_true rfl)
  rw [lg_entry_eq]
  generalize (lg_sl ([.ref (ad 11 0), .int x, .int y, .ref q3]) ++ List.replicate (5 - (lg_sl ([.ref (ad 11 0), .int x, .int y, .ref q3])).length) Slot.unset).toArray = ls at hl ⊢
  have hl : lv_has ls 5 [(0, .ref (ad 11 0)), (1, .int x), (2, .int y), (3, .ref q3)] := hl
  refine lv_aload_n hx hb (show decode method_4_code 0 = .ok (.aload_n 3, 1) by decide +kernel) rfl (lv_at hl 3 rfl) ?_
  refine lv_iconst (v := 0) hx hb (show decode method_4_code 1 = .ok (.iconst 0, 1) by decide +kernel) (by decide) ?_
  refine lv_aload_n hx hb (show decode method_4_code 2 = .ok (.aload_n 0, 1) by decide +kernel) rfl (lv_at hl 0 rfl) ?_
  refine lv_iload_n hx hb (show decode method_4_code 3 = .ok (.iload_n 1, 1) by decide +kernel) rfl (lv_at hl 1 rfl) ?_
  refine lv_iload_n hx hb (show decode method_4_code 4 = .ok (.iload_n 2, 1) by decide +kernel) rfl (lv_at hl 2 rfl) ?_
  refine g_call l hx hb hml hown hts' hK hStr hA (lc_room 0 0) (o := (11, 0)) (is := [x, y]) (rest := [.int 0, .ref q3]) hc (by decide) (nc_at_in (p := (6, 185)) rfl rfl) rfl rfl rfl rfl (show decode method_4_code 5 = .ok (.invokevirtual 15, 3) by decide +kernel) hl.1 rfl (Nat.le_of_ble_eq_true rfl) ⟨Nat.zero_le _, Nat.zero_le _⟩ hP hD hS (fun H locs hP hD hS => ?_)
  refine lv_i2l (v := r.toInt64) hx hb (show decode method_4_code 8 = .ok (.i2l, 1) by decide +kernel) rfl ?_
  refine va_last hx hb hK hP hD hS ((nc_W ad cA w).length + 0) 3 (lw_r rfl) rfl (show vp_in (nI 0) 1 from vp_in_nI (by decide) (by decide)) (show decode method_4_code 9 = .ok (.lastore, 1) by decide +kernel) (fun H locs hP hD hS => ?_)
  rw [lc_set] at hP hD
  refine lv_goto (tgt := 17) hx hb (show decode method_4_code 10 = .ok (.goto 7, 3) by decide +kernel) (by decide) ?_
  refine lv_iconst (v := 0) hx hb (show decode method_4_code 17 = .ok (.iconst 0, 1) by decide +kernel) (by decide) ?_
  exact W.iret (v := 0) hx hb hr (fun t ht hW => ⟨⟨0, (), rfl, rfl, by rw [ht]; exact hP, va_K.moved hW.alike hK, hD⟩, hS.F ht⟩) hS.2.2 (show decode method_4_code 18 = .ok (.ireturn, 1) by decide +kernel)
set_option maxRecDepth 100000 in
set_option maxHeartbeats 4000000 in
theorem lc_no_farm (l : Launch) (hoff : ∀ e, l.admits e → e.platform.stackTraces = false) (D : va_G) (cA : Nat → ClassId) (ad : Nat → Nat → Nat) (q3 : Nat) (g : Nat → Int64) (sz : Nat) (w : nc_H) (x y : Int32) (hbad : exC x (w.1 2 0 1) = 0 ∨ y < 0 ∨ ¬ y ≤ 3) : Met l yL_farm wL_farm (lcR 1 6) (va_Pc [.ref (ad 11 0), .int x, .int y, .ref q3] (lcP D cA ad q3 g sz w)) (va_Qi (fun v (_ : Unit) => v = 1) (fun _ t => lcB D cA ad q3 g (va_A (lc_ws cA ad q3 g w) sz) w t) (va_A (lc_ws cA ad q3 g w) sz)) 1 6 (va_A (lc_ws cA ad q3 g w) sz) := by
  refine va_MetW (cc := method_4_code) (maxL := 5) (ret := (some .int)) (hh := [(0, 10, 13, 13)]) (by decide) rfl ?_
  intro p e s m args below meth c s₁ B hml hv
  obtain ⟨rfl, hsz, hP, hK, hD0, hStr, hat0⟩ := hv
  subst hsz
  have hx := B.exec
  have hb := B.bytes
  have hr := B.returns
  have hts := atoms_spec (ws := wL_farm) B.pre
  have hts' : ∀ w ∈ nc_tb, w.before ([.ref (ad 11 0), .int x, .int y, .ref q3] : List Value).toArray s = true := fun w h => hts w (List.mem_cons_of_mem _ h)
  have hown : s.vm.findClass R_law = some m.cls := findClass_of_methodNamed B.named
  have hD := hD0.self (sz := s.heap.size)
  generalize hAe : va_A (lc_ws cA ad q3 g w) s.heap.size = A at hD hStr ⊢
  have hA : ∀ q : Nat, s.heap.size ≤ q → A q := fun q h => by rw [← hAe]; exact Or.inr h
  have hS : va_S A s.heap s.heap [] := va_S.rf
  have hl := lv_entry ([.ref (ad 11 0), .int x, .int y, .ref q3]) (n := 5) (Nat.le_of_ble_eq_true rfl)
  rw [lg_entry_eq]
  generalize (lg_sl ([.ref (ad 11 0), .int x, .int y, .ref q3]) ++ List.replicate (5 - (lg_sl ([.ref (ad 11 0), .int x, .int y, .ref q3])).length) Slot.unset).toArray = ls at hl ⊢
  have hl : lv_has ls 5 [(0, .ref (ad 11 0)), (1, .int x), (2, .int y), (3, .ref q3)] := hl
  obtain ⟨hrc, hrs, hfr, hlo, hws, hcw, hcode, hini, hy, hlen, hlk⟩ := (callB_of 2 hts' (gdc0 (nc_at_in (p := (6, 188)) rfl rfl)) rfl rfl rfl (hts' _ (nc_at_in (p := (1, 1)) rfl rfl)) (hts' _ (nc_at_in (p := (6, 185)) rfl rfl)) ⟨by decide +kernel, by decide +kernel, by decide +kernel⟩ ⟨Nat.le_of_ble_eq_true rfl, Nat.le_of_ble_eq_true rfl⟩ : CallB (lcR 1 6) s ([.ref (ad 11 0), .int x, .int y, .ref q3] : List Value).toArray R_law 15 yX11_farm cX11_farm 3 (some .int) (Cond.code yX11_farm cX11_farm 3 (some .int) :: nc_tb) { frames := 12, cells := 1, slots := 6, locals := 400 } 1 6 2)
  obtain ⟨m9, meth9, c9, hn9, hm9, hc9, -, -, ht9, -⟩ := Cond.codeWith_spec (hts _ List.mem_cons_self)
  cases B.named.symm.trans hn9
  cases B.method.symm.trans hm9
  cases (Stand.of_body B).code.symm.trans hc9
  have htab : c.exceptionTable.toList = [⟨0, 10, 13, 13⟩] := by
    have h := Jvm.table_eq c.exceptionTable.toList
    rw [ht9] at h
    exact h.symm
  obtain ⟨k0, -, hk0⟩ := nc_W_at (ad := ad) (cA := cA) (q := (11, 0)) rfl
  have he0 := hk0 w
  rw [nd_cell_o (by decide)] at he0
  have hPn : va_P D nc_cl (nc_W ad cA w) s.heap := fun k q h => hP k q (lw_l h)
  have hDn : va_D A (nc_W ad cA w) := ⟨fun i j p q h1 h2 e => hD.1 i j p q (lw_l h1) (lw_l h2) e, fun k q h => hD.2 k q (lw_l h)⟩
  have hF := nd_hF (s := s) (w := w) hA hDn hS
  refine lv_aload_n hx hb (show decode method_4_code 0 = .ok (.aload_n 3, 1) by decide +kernel) rfl (lv_at hl 3 rfl) ?_
  refine lv_iconst (v := 0) hx hb (show decode method_4_code 1 = .ok (.iconst 0, 1) by decide +kernel) (by decide) ?_
  refine lv_aload_n hx hb (show decode method_4_code 2 = .ok (.aload_n 0, 1) by decide +kernel) rfl (lv_at hl 0 rfl) ?_
  refine lv_iload_n hx hb (show decode method_4_code 3 = .ok (.iload_n 1, 1) by decide +kernel) rfl (lv_at hl 1 rfl) ?_
  refine lv_iload_n hx hb (show decode method_4_code 4 = .ok (.iload_n 2, 1) by decide +kernel) rfl (lv_at hl 2 rfl) ?_
  refine ex_catch (C := "NewsCows") (As := [.int x, .int y]) (rest := [.int 0, .ref q3]) (Pc := va_Pc [.ref (ad 11 0), .int x, .int y] (exP D cA ad s.heap.size w)) hx hb hml hown hlk (hts' _ (nc_at_in (p := (6, 186)) rfl rfl)) (hts' _ (nc_at_in (p := (6, 187)) rfl rfl)) hcode hy (ex_back (ex_farm l hoff D cA ad s.heap.size w x y hbad) exP_bl hrc hrs hfr hlo hws hcw (fun a' U hW => word_at hW (Or.inl (by first | rfl | simp [Cond.onTables, Cond.keeps, Cond.steady])) hini)) (va_recv hK hPn (nd_cl_at (t := 11) (by decide)) he0) hl.1 (fun sig h => (hlen sig h)) (Nat.le_of_ble_eq_true rfl) (show decode method_4_code 5 = .ok (.invokevirtual 15, 3) by decide +kernel) ⟨Nat.le_of_ble_eq_true rfl, Nat.le_of_ble_eq_true rfl⟩ (fun U hU hW => ⟨rfl, ?_, ?_⟩) htab (by decide) ⟨by decide, by decide⟩ (hts' _ (nc_at_in (p := (6, 114)) rfl rfl)) (exL_same (a' := ([.ref (ad 11 0), .int x, .int y, .ref q3] : List Value).toArray) (State.WarmedH.refl s) (fun _ _ h _ => h) hat0 _ (by simp [exL, Jvm.Bundle.ownAtoms0])) (fun a H1 hkeep => ?_)
  · refine ⟨by rw [hU], by rw [hU]; exact hPn, va_K.moved hW.alike hK, hDn.weaken (fun _ _ _ _ => trivial), vk_R.warm hW hStr.1, ?_, fun e he => va_Nw.warmF hW (hStr.2.2 e he)⟩
    rw [hU]
    exact ⟨vk_S.narrow (vk_S.moved hW.alike hStr.2.1.1) hF, va_Z.narrow (va_Z.moved hW.alike hStr.2.1.2) hF⟩
  · exact exL_same hW (fun y9 cy h _ => by rw [hU]; exact h) hat0
  have hsame : ∀ q : Nat, q < s.heap.size → H1[q]? = s.heap[q]? := fun q hq => by
    have h := Array.getElem?_eq_getElem hq
    rw [hkeep q _ h, h]
  have hz : s.heap.size ≤ H1.size := by
    rcases Nat.lt_or_ge H1.size s.heap.size with h | h
    · have h1 := hsame H1.size h
      rw [Array.getElem?_eq_none (Nat.le_refl _), Array.getElem?_eq_getElem h] at h1
      cases h1
    · exact h
  have hP1 : va_P D nc_cl (lc_ws cA ad q3 g w) H1 := fun k q h => (hP k q h).kept (hsame q.1 (nc_at_lt (hP k q h)))
  have hS1 : va_S A s.heap H1 [] := ⟨hz, fun q h1 _ => hsame q h1, fun q h => by cases h⟩
  refine lv_astore (lv' := [(4, .ref a), (0, .ref (ad 11 0)), (1, .int x), (2, .int y), (3, .ref q3)]) hx hb (show decode method_4_code 13 = .ok (.astore 4, 2) by decide +kernel) hl (by decide) rfl (fun ls hl => ?_)
  refine lv_iconst (v := 1) hx hb (show decode method_4_code 15 = .ok (.iconst 1, 1) by decide +kernel) (by decide) ?_
  exact W.iret (v := 1) hx hb hr (fun t ht hW => ⟨⟨1, (), rfl, rfl, by rw [ht]; exact hP1, va_K.moved hW.alike hK, hD⟩, hS1.F ht⟩) hS1.2.2 (show decode method_4_code 16 = .ok (.ireturn, 1) by decide +kernel)
