/-! THE TWO CASES OF THE LAW THAT MAY THROW. -/
section RSW
variable {p : Program} {l : Launch} {e : Env} {R : Room} {s : State} {m : MethodId} {args : Array Value} {below : List Frame} {meth : Method} {c : Code} {H : Heap} {locs : List Loc} {cells slots : Nat}
theorem lw_runSW {y : MethodName} {bytes cc : ByteArray} {maxL nL mc ms index : Nat} {ret : Option FieldType} {hh : List (Nat × Nat × Nat × Nat)} {ws ws' : List Cond} {rm : Room} {Pc : Array Value → State → Prop} {Qc : Array Value → State → Outcome → State → Prop} {free : Addr → Prop} {own : String} {As rest : List Value} {g : JFrame} (hx : p.tables.exec = Jvm.exec) (hb : c.code = cc) (hml : c.maxLocals = nL) (ho : s.vm.findClass own = some m.cls) (hM : Met l y ws rm Pc Qc mc ms free) (hw : ws = Cond.codeWith y bytes maxL ret hh :: ws') (hws : ∀ w ∈ ws, ∀ a' U, s.WarmedH U.vm → w.before a' U = true) (hrc : rm.cells = mc) (hrs : rm.slots = ms) (hfr : rm.frames + 1 ≤ R.frames) (hlo : 8 + (maxL + 11) + rm.locals ≤ R.locals) (hini : (Cond.initialized y.cls).before args s = true) (hl : (Cond.methodLink own index y).before args s = true) (hstt : (Cond.static y).before args s = true) (hy : y.cls ≠ "java/lang/invoke/MethodHandle" ∧ y.cls ≠ "java/lang/invoke/VarHandle") (hlen : ∀ sig, parseMethodDescriptor y.desc = some sig → As.length = sig.parameters.length) (hbl : FrameBlind Pc) (hPc : ∀ U : State, U.heap = H → s.WarmedH U.vm → Pc As.toArray U)
    (hg : g.method = m) (hsize : g.locals.size = nL) (hstack : g.stack = As.reverse ++ rest) (hW : 2 * g.monitorRoom + (rest.map fun v => v.category).sum ≤ 8) (hdg : decode cc g.pc = .ok (.invokestatic index, 3)) (hf : cells + mc ≤ R.cells ∧ slots + ms ≤ R.slots) : va_Run p l e R s m args below meth c H locs cells slots mc ms g rest (Qc As.toArray) free := by
  have hcw : Cond.codeWith y bytes maxL ret hh ∈ ws := by rw [hw]; exact List.mem_cons_self
  have hK : Back l R p e below s args y 3 8 (PreOf R mc ms Pc) (PostOf Qc mc ms free) := va_backW (bytes := bytes) (maxL := maxL) (ret := ret) (hh := hh) hM hbl hrc hrs hfr hlo hws hcw (fun a' U hW => word_at hW (Or.inl (by first | rfl | simp [Cond.onTables, Cond.keeps, Cond.steady])) hini)
  intro T hT X
  obtain ⟨mk, methM, cM, hnamed, hmethM, -, -, -, -, -, -, hsigM⟩ := Cond.codeWith_spec (hws _ hcw args s (State.WarmedH.refl s))
  have hstatic : methM.isStatic = true := Cond.static_spec hnamed hmethM hstt
  obtain ⟨kP, hkP, -⟩ := className_of_methodNamed hnamed
  have hinitP : kP.init = .initialized := Cond.initialized_spec (findClass_of_methodNamed hnamed) hkP hini
  obtain ⟨vm₁, X₁, hstep₁⟩ := X.invokestatic hx ho hl hnamed hmethM hstatic hkP hinitP hy (g := g) hg (argsL := As) (rest := rest) (hlen _ hsigM) hstack (by rw [hb]; exact hdg)
  obtain ⟨v, ⟨U', l2, c2, s2⟩, X', ⟨g', mk', t, L, e1, e2, hq, h1, hL, h2, h3⟩, hsteps⟩ := hK m meth c ⟨T.setVm vm₁, locs, cells, slots⟩ { g with stack := rest } (.invokestatic index) mk As.toArray X₁ hg (hsize.trans hml.symm) (by rw [hb]; exact hdg) hW (X₁.named hnamed) ⟨hf.1, hf.2, hPc _ hT X₁.warmed⟩
  dsimp only [Pt.U, Pt.locs, Pt.cells, Pt.slots] at X' e1 e2 h1 h2 h3 hsteps
  subst h1; subst h2; subst h3
  exact ⟨v, (T.setVm vm₁).calling g' mk' As.toArray, t, U', L, hT, X', hL, e1, e2, hq, fun target h => hstep₁ _ fun acts => by rw [doInvoke_state]; exact hsteps.trans h⟩
end RSW
theorem exC_rng {x : Int32} {n : Nat} (hn : n < 2 ^ 30) (h : ¬ exC x (nI n) = 0) : rng x n := by
  unfold exC at h
  by_cases h1 : x < 0
  · rw [if_pos h1] at h
    exact absurd rfl h
  · rw [if_neg h1] at h
    by_cases h2 : nI n ≤ x
    · rw [if_pos h2] at h
      exact absurd rfl h
    · exact (rng_C hn).mp ⟨h1, h2⟩
set_option maxRecDepth 100000 in
set_option maxHeartbeats 4000000 in
theorem lw_tc_cow (l : Launch) (hoff : ∀ e, l.admits e → e.platform.stackTraces = false) {p : Program} {e : Env} {s : State} {m : MethodId} {below : List Frame} {meth : Method} {c : Code} {b L : Nat} {xs : Nat → Int32} {D : va_G} {cA : Nat → ClassId} {ad : Nat → Nat → Nat} {q3 : Nat} (hL : L ≤ 3072) (C : lw_C p s m meth c b L xs D cA ad) (hex : ∀ a ∈ exL, a.before #[Value.ref b] s = true) : lw_TC l p e s m below meth c b L xs D cA ad q3 332 := by
  intro g w H locs cells slots ls Q i hi hI hcs hl hT kk
  have C0 := C
  obtain ⟨⟨hx, hb, hr, hml, hown, hts, hX, hbl, hlocks, hgv⟩, hK, hStr⟩ := C0
  have hts' : ∀ w ∈ nc_tb, w.before #[Value.ref b] s = true := fun w h => hts w (nc_tb_in h)
  have hbA : ¬ lw_A s b := Nat.not_le.mpr hbl
  have h1 : vp_in (nI i + 1) L := lw_in (k := 1) (by omega) hL
  have h2 : vp_in (nI i + 2) L := lw_in (k := 2) (by omega) hL
  have hI0 := hI
  obtain ⟨⟨f, Cn, N, h9, d9, hNW⟩, -⟩ := hI0
  have hS0 := hNW
  obtain ⟨⟨-, -, x3, -, -, -⟩, -⟩ := hS0
  have tail : ∀ (v rr : Int32) (g2 : Nat → Int64) (H : Heap) (locs : List Loc) (c2 s2 : Nat), c2 ≤ cells + 1000 → s2 ≤ slots + 10000 → nc_Call m_X12_cow [mO, .inl (xs (nI i + 1).toNatClampNeg), .inl (xs (nI i + 2).toNatClampNeg)] w = some (some (.inl rr), thr w v) → (v = 0 → g2 0 = rr.toInt64) → lw_S s D cA ad q3 g2 w H locs → W p l e room_1 s m #[Value.ref b] below meth c H locs c2 s2 Q (F0 m 349 ls [.int v]) := by
    intro v rr g2 H locs c2 s2 hc2 hs2 hcall hg2 hT
    refine lv_istore (lv' := [(5, .int v), (4, .int (nI i)), (3, .ref q3), (2, .ref (ad 12 0)), (1, .ref (ad 11 0)), (0, .ref b)]) hx hb (show decode code 349 = .ok (.istore 5, 2) by decide +kernel) hl (by decide) rfl (fun ls hl => ?_)
    refine lv_aload_n hx hb (show decode code 351 = .ok (.aload_n 2, 1) by decide +kernel) rfl (lv_at hl 3 rfl) ?_
    refine lv_aload_n hx hb (show decode code 352 = .ok (.aload_n 0, 1) by decide +kernel) rfl (lv_at hl 5 rfl) ?_
    refine lv_iload hx hb (show decode code 353 = .ok (.iload 4, 2) by decide +kernel) (lv_at hl 1 rfl) ?_
    refine lv_iconst (v := 1) hx hb (show decode code 355 = .ok (.iconst 1, 1) by decide +kernel) (by decide) ?_
    refine lv_iadd hx hb (show decode code 356 = .ok (.iadd, 1) by decide +kernel) ?_
    refine va_sld hx hb hX hbl hbA hT.2.2 h1 (show decode code 357 = .ok (.iaload, 1) by decide +kernel) ?_
    refine lv_aload_n hx hb (show decode code 358 = .ok (.aload_n 0, 1) by decide +kernel) rfl (lv_at hl 5 rfl) ?_
    refine lv_iload hx hb (show decode code 359 = .ok (.iload 4, 2) by decide +kernel) (lv_at hl 1 rfl) ?_
    refine lv_iconst (v := 2) hx hb (show decode code 361 = .ok (.iconst 2, 1) by decide +kernel) (by decide) ?_
    refine lv_iadd hx hb (show decode code 362 = .ok (.iadd, 1) by decide +kernel) ?_
    refine va_sld hx hb hX hbl hbA hT.2.2 h2 (show decode code 363 = .ok (.iaload, 1) by decide +kernel) ?_
    refine lw_call l C (o := (12, 0)) (is := [(xs (nI i + 1).toNatClampNeg), (xs (nI i + 2).toNatClampNeg)]) (rest := []) hcall (by decide) (nc_at_in (p := (7, 238)) rfl rfl) rfl rfl rfl rfl (show decode code 364 = .ok (.invokevirtual 46, 3) by decide +kernel) hl.1 rfl (Nat.le_of_ble_eq_true rfl) ⟨by omega, by omega⟩ hT (fun H locs hT => ?_)
    refine lv_istore (lv' := [(6, .int rr), (5, .int v), (4, .int (nI i)), (3, .ref q3), (2, .ref (ad 12 0)), (1, .ref (ad 11 0)), (0, .ref b)]) hx hb (show decode code 367 = .ok (.istore 6, 2) by decide +kernel) hl (by decide) rfl (fun ls hl => ?_)
    refine lv_aload_n hx hb (show decode code 369 = .ok (.aload_n 2, 1) by decide +kernel) rfl (lv_at hl 4 rfl) ?_
    refine lw_call l C (o := (12, 0)) (is := []) (rest := []) (show nc_Call m_X12_thrown [mO] (thr w v) = some (some (.inl v), thr w v) by rw [sm_thrown, thr_0]) (by decide) (nc_at_in (p := (6, 194)) rfl rfl) rfl rfl rfl rfl (show decode code 370 = .ok (.invokevirtual 47, 3) by decide +kernel) hl.1 rfl (Nat.le_of_ble_eq_true rfl) ⟨by omega, by omega⟩ hT (fun H locs hT => ?_)
    refine lv_iload hx hb (show decode code 373 = .ok (.iload 5, 2) by decide +kernel) (lv_at hl 1 rfl) ?_
    refine lv_icmp_eq (tgt := 380) hx hb (show decode code 375 = .ok (.if_icmp .eq 5, 3) by decide +kernel) (by decide) (fun _ => ?_) (fun q9 => absurd rfl q9)
    have fin : ∀ H locs, lw_S s D cA ad q3 g2 (thr w v) H locs → W p l e room_1 s m #[Value.ref b] below meth c H locs c2 s2 Q (F0 m 397 _ []) := fun H locs hT => lv_goto (tgt := 1316) hx hb (show decode code 397 = .ok (.goto 919, 3) by decide +kernel) (by decide) (W.widen (k := cells + 1000) (n := slots + 10000) hc2 hs2 (kk g2 _ H locs _ (Inv_thr hI) hT (lv_sub hl [2, 3, 4, 5, 6] rfl)))
    refine lv_iload hx hb (show decode code 380 = .ok (.iload 5, 2) by decide +kernel) (lv_at hl 1 rfl) ?_
    refine lv_if_ne (tgt := 397) hx hb (show decode code 382 = .ok (.ifCond .ne 15, 3) by decide +kernel) (by decide) (fun _ => fin _ _ hT) (fun q8 => ?_)
    refine lv_aload_n hx hb (show decode code 385 = .ok (.aload_n 3, 1) by decide +kernel) rfl (lv_at hl 3 rfl) ?_
    refine lv_iconst (v := 0) hx hb (show decode code 386 = .ok (.iconst 0, 1) by decide +kernel) (by decide) ?_
    refine va_lald hx hb hK hT.1 ((nc_W ad cA (thr w v)).length + 0) 3 (lw_r rfl) rfl (show vp_in (nI 0) 1 from vp_in_nI (by decide) (by decide)) (show decode code 387 = .ok (.laload, 1) by decide +kernel) ?_
    refine lv_iload hx hb (show decode code 388 = .ok (.iload 6, 2) by decide +kernel) (lv_at hl 0 rfl) ?_
    refine lv_i2l (v := rr.toInt64) hx hb (show decode code 390 = .ok (.i2l, 1) by decide +kernel) rfl ?_
    refine W.lcmp hx hb (show decode code 391 = .ok (.lcmp, 1) by decide +kernel) ?_
    exact lv_if_eq (tgt := 397) hx hb (show decode code 392 = .ok (.ifCond .eq 5, 3) by decide +kernel) (by decide) (fun _ => fin _ _ hT) (fun q7 => absurd (lg0.mpr (hg2 q8)) q7)
  have hA : ∀ q : Nat, s.heap.size ≤ q → lw_A s q := fun _ h => h
  have hws : ∀ w ∈ wL_cow, ∀ a' U, s.WarmedH U.vm → w.before a' U = true := fun w hw a' U hW => by
    have hm : w ∈ nc_tb := by
      rcases List.mem_cons.mp hw with e9 | e9
      · rw [e9]
        exact (nc_at_in (p := (6, 113)) rfl rfl)
      · exact e9
    exact word_at hW (good_of_word (nc_good hm)) (hts' w hm)
  have hFx : ∀ q, va_A (lc_ws cA ad q3 g w) H.size q → lw_A s q := fun q h => by
    rcases h with ⟨k9, e9, h⟩ | h
    · exact hT.2.1.2 k9 _ h
    · exact Nat.le_trans hT.2.2.1 h
  have hpre : ∀ U : State, U.heap = H → s.WarmedH U.vm → va_Pc [.ref (ad 11 0), .int (xs (nI i + 1).toNatClampNeg), .int (xs (nI i + 2).toNatClampNeg), .ref q3] (lcP D cA ad q3 g H.size w) [.ref (ad 11 0), .int (xs (nI i + 1).toNatClampNeg), .int (xs (nI i + 2).toNatClampNeg), .ref q3].toArray U := fun U hU hW => by
    refine ⟨rfl, by rw [hU], by rw [hU]; exact hT.1, va_K.moved hW.alike hK, hT.2.1.weaken (fun _ _ _ _ => trivial), ⟨vk_R.warm hW hStr.1, ?_, fun e he => va_Nw.warmF hW (hStr.2.2 e he)⟩, exL_same hW (fun y9 cy h _ => ?_) hex⟩
    · rw [hU]
      exact ⟨vk_S.narrow (vk_S.moved hW.alike (vk_S.kept hStr.2.1.1 hT.2.2.2.1)) hFx, va_Z.narrow (va_Z.moved hW.alike (va_Z.kept hStr.2.1.2 hT.2.2.2.1)) hFx⟩
    · rw [hU, hT.2.2.2.1 y9 (Array.getElem?_eq_some_iff.mp h).1 (Nat.not_le.mpr (Array.getElem?_eq_some_iff.mp h).1)]
      exact h
  refine lv_aload_n hx hb (show decode code 332 = .ok (.aload_n 1, 1) by decide +kernel) rfl (lv_at hl 3 rfl) ?_
  refine lv_aload_n hx hb (show decode code 333 = .ok (.aload_n 0, 1) by decide +kernel) rfl (lv_at hl 4 rfl) ?_
  refine lv_iload hx hb (show decode code 334 = .ok (.iload 4, 2) by decide +kernel) (lv_at hl 0 rfl) ?_
  refine lv_iconst (v := 1) hx hb (show decode code 336 = .ok (.iconst 1, 1) by decide +kernel) (by decide) ?_
  refine lv_iadd hx hb (show decode code 337 = .ok (.iadd, 1) by decide +kernel) ?_
  refine va_sld hx hb hX hbl hbA hT.2.2 h1 (show decode code 338 = .ok (.iaload, 1) by decide +kernel) ?_
  refine lv_aload_n hx hb (show decode code 339 = .ok (.aload_n 0, 1) by decide +kernel) rfl (lv_at hl 4 rfl) ?_
  refine lv_iload hx hb (show decode code 340 = .ok (.iload 4, 2) by decide +kernel) (lv_at hl 0 rfl) ?_
  refine lv_iconst (v := 2) hx hb (show decode code 342 = .ok (.iconst 2, 1) by decide +kernel) (by decide) ?_
  refine lv_iadd hx hb (show decode code 343 = .ok (.iadd, 1) by decide +kernel) ?_
  refine va_sld hx hb hX hbl hbA hT.2.2 h2 (show decode code 344 = .ok (.iaload, 1) by decide +kernel) ?_
  refine lv_aload_n hx hb (show decode code 345 = .ok (.aload_n 3, 1) by decide +kernel) rfl (lv_at hl 1 rfl) ?_
  by_cases hv : rng (xs (nI i + 1).toNatClampNeg) Cn ∧ rng (xs (nI i + 2).toNatClampNeg) 8
  · obtain ⟨r, k1, k2⟩ := op_cow_t hNW hv.1 hv.2
    refine va_calli (lw_runSW (As := [.ref (ad 11 0), .int (xs (nI i + 1).toNatClampNeg), .int (xs (nI i + 2).toNatClampNeg), .ref q3]) (rest := []) hx hb hml hown (lc_ok_cow l D cA ad q3 g H.size w (xs (nI i + 1).toNatClampNeg) (xs (nI i + 2).toNatClampNeg) r k1) rfl hws rfl rfl (Nat.le_of_ble_eq_true rfl) (Nat.le_of_ble_eq_true rfl) (hts' _ (nc_at_in (p := (1, 0)) rfl rfl)) (hts' _ (nc_at_in (p := (6, 111)) rfl rfl)) (hts' _ (nc_at_in (p := (6, 112)) rfl rfl)) ⟨by decide +kernel, by decide +kernel⟩ (fun sig h => by rw [show parseMethodDescriptor "(LNewsCows;II[J)I" = _ from rfl] at h; cases h; rfl) lcP_bl hpre rfl hl.1 rfl (lv_room (Nat.le_of_ble_eq_true rfl)) (show decode code 346 = .ok (.invokestatic 41, 3) by decide +kernel) ⟨show cells + 0 ≤ 601024 by omega, show slots + 0 ≤ 7293034 by omega⟩) hT.2.2 (fun q _ h => hFx q h) hFx (fun v9 u9 t9 H9 locs9 ht9 hvm9 hw9 hB9 hz9 hk9 hS9 => ?_)
    obtain ⟨hP1, hK1, hD1⟩ := hB9
    rw [ht9] at hP1
    subst hw9
    exact tail 0 r (vp_updL g 0 r.toInt64) H9 locs9 _ _ (by omega) (by omega) k2 (fun _ => if_pos rfl) ⟨hP1, hD1.weaken (fun _ q _ h => hFx q.1 h), hS9⟩
  · have k2 := op_cow_f hNW hv
    have hbad : exC (xs (nI i + 1).toNatClampNeg) (w.1 2 0 2) = 0 ∨ (xs (nI i + 2).toNatClampNeg) < 0 ∨ ¬ (xs (nI i + 2).toNatClampNeg) ≤ 7 := by
      by_cases z1 : exC (xs (nI i + 1).toNatClampNeg) (w.1 2 0 2) = 0
      · exact Or.inl z1
      · by_cases z2 : (xs (nI i + 2).toNatClampNeg) < 0
        · exact Or.inr (Or.inl z2)
        · refine Or.inr (Or.inr (fun z3 => hv ⟨?_, ?_⟩))
          · have e9 : w.1 2 0 2 = nI Cn := x3.2.1.2.1
            rw [e9] at z1
            exact exC_rng (by have := x3.1; unfold shp at this; omega) z1
          · exact (rng_M (by decide)).mp ⟨Int32.not_lt.mp z2, z3⟩
    refine va_calli (lw_runSW (As := [.ref (ad 11 0), .int (xs (nI i + 1).toNatClampNeg), .int (xs (nI i + 2).toNatClampNeg), .ref q3]) (rest := []) hx hb hml hown (lc_no_cow l hoff D cA ad q3 g H.size w (xs (nI i + 1).toNatClampNeg) (xs (nI i + 2).toNatClampNeg) hbad) rfl hws rfl rfl (Nat.le_of_ble_eq_true rfl) (Nat.le_of_ble_eq_true rfl) (hts' _ (nc_at_in (p := (1, 0)) rfl rfl)) (hts' _ (nc_at_in (p := (6, 111)) rfl rfl)) (hts' _ (nc_at_in (p := (6, 112)) rfl rfl)) ⟨by decide +kernel, by decide +kernel⟩ (fun sig h => by rw [show parseMethodDescriptor "(LNewsCows;II[J)I" = _ from rfl] at h; cases h; rfl) lcP_bl hpre rfl hl.1 rfl (lv_room (Nat.le_of_ble_eq_true rfl)) (show decode code 346 = .ok (.invokestatic 41, 3) by decide +kernel) ⟨show cells + 1 ≤ 601024 by omega, show slots + 6 ≤ 7293034 by omega⟩) hT.2.2 (fun q _ h => hFx q h) hFx (fun v9 u9 t9 H9 locs9 ht9 hvm9 hw9 hB9 hz9 hk9 hS9 => ?_)
    obtain ⟨hP1, hK1, hD1⟩ := hB9
    rw [ht9] at hP1
    subst hw9
    exact tail 1 0 g H9 locs9 _ _ (by omega) (by omega) k2 (fun z => absurd z (by decide)) ⟨hP1, hD1.weaken (fun _ q _ h => hFx q.1 h), hS9⟩
set_option maxRecDepth 100000 in
set_option maxHeartbeats 4000000 in
theorem lw_tc_farm (l : Launch) (hoff : ∀ e, l.admits e → e.platform.stackTraces = false) {p : Program} {e : Env} {s : State} {m : MethodId} {below : List Frame} {meth : Method} {c : Code} {b L : Nat} {xs : Nat → Int32} {D : va_G} {cA : Nat → ClassId} {ad : Nat → Nat → Nat} {q3 : Nat} (hL : L ≤ 3072) (C : lw_C p s m meth c b L xs D cA ad) (hex : ∀ a ∈ exL, a.before #[Value.ref b] s = true) : lw_TC l p e s m below meth c b L xs D cA ad q3 437 := by
  intro g w H locs cells slots ls Q i hi hI hcs hl hT kk
  have C0 := C
  obtain ⟨⟨hx, hb, hr, hml, hown, hts, hX, hbl, hlocks, hgv⟩, hK, hStr⟩ := C0
  have hts' : ∀ w ∈ nc_tb, w.before #[Value.ref b] s = true := fun w h => hts w (nc_tb_in h)
  have hbA : ¬ lw_A s b := Nat.not_le.mpr hbl
  have h1 : vp_in (nI i + 1) L := lw_in (k := 1) (by omega) hL
  have h2 : vp_in (nI i + 2) L := lw_in (k := 2) (by omega) hL
  have hI0 := hI
  obtain ⟨⟨f, Cn, N, h9, d9, hNW⟩, -⟩ := hI0
  have hS0 := hNW
  obtain ⟨⟨-, -, x3, -, -, -⟩, -⟩ := hS0
  have tail : ∀ (v rr : Int32) (g2 : Nat → Int64) (H : Heap) (locs : List Loc) (c2 s2 : Nat), c2 ≤ cells + 1000 → s2 ≤ slots + 10000 → nc_Call m_X12_farm [mO, .inl (xs (nI i + 1).toNatClampNeg), .inl (xs (nI i + 2).toNatClampNeg)] w = some (some (.inl rr), thr w v) → (v = 0 → g2 0 = rr.toInt64) → lw_S s D cA ad q3 g2 w H locs → W p l e room_1 s m #[Value.ref b] below meth c H locs c2 s2 Q (F0 m 454 ls [.int v]) := by
    intro v rr g2 H locs c2 s2 hc2 hs2 hcall hg2 hT
    refine lv_istore (lv' := [(5, .int v), (4, .int (nI i)), (3, .ref q3), (2, .ref (ad 12 0)), (1, .ref (ad 11 0)), (0, .ref b)]) hx hb (show decode code 454 = .ok (.istore 5, 2) by decide +kernel) hl (by decide) rfl (fun ls hl => ?_)
    refine lv_aload_n hx hb (show decode code 456 = .ok (.aload_n 2, 1) by decide +kernel) rfl (lv_at hl 3 rfl) ?_
    refine lv_aload_n hx hb (show decode code 457 = .ok (.aload_n 0, 1) by decide +kernel) rfl (lv_at hl 5 rfl) ?_
    refine lv_iload hx hb (show decode code 458 = .ok (.iload 4, 2) by decide +kernel) (lv_at hl 1 rfl) ?_
    refine lv_iconst (v := 1) hx hb (show decode code 460 = .ok (.iconst 1, 1) by decide +kernel) (by decide) ?_
    refine lv_iadd hx hb (show decode code 461 = .ok (.iadd, 1) by decide +kernel) ?_
    refine va_sld hx hb hX hbl hbA hT.2.2 h1 (show decode code 462 = .ok (.iaload, 1) by decide +kernel) ?_
    refine lv_aload_n hx hb (show decode code 463 = .ok (.aload_n 0, 1) by decide +kernel) rfl (lv_at hl 5 rfl) ?_
    refine lv_iload hx hb (show decode code 464 = .ok (.iload 4, 2) by decide +kernel) (lv_at hl 1 rfl) ?_
    refine lv_iconst (v := 2) hx hb (show decode code 466 = .ok (.iconst 2, 1) by decide +kernel) (by decide) ?_
    refine lv_iadd hx hb (show decode code 467 = .ok (.iadd, 1) by decide +kernel) ?_
    refine va_sld hx hb hX hbl hbA hT.2.2 h2 (show decode code 468 = .ok (.iaload, 1) by decide +kernel) ?_
    refine lw_call l C (o := (12, 0)) (is := [(xs (nI i + 1).toNatClampNeg), (xs (nI i + 2).toNatClampNeg)]) (rest := []) hcall (by decide) (nc_at_in (p := (8, 60)) rfl rfl) rfl rfl rfl rfl (show decode code 469 = .ok (.invokevirtual 56, 3) by decide +kernel) hl.1 rfl (Nat.le_of_ble_eq_true rfl) ⟨by omega, by omega⟩ hT (fun H locs hT => ?_)
    refine lv_istore (lv' := [(6, .int rr), (5, .int v), (4, .int (nI i)), (3, .ref q3), (2, .ref (ad 12 0)), (1, .ref (ad 11 0)), (0, .ref b)]) hx hb (show decode code 472 = .ok (.istore 6, 2) by decide +kernel) hl (by decide) rfl (fun ls hl => ?_)
    refine lv_aload_n hx hb (show decode code 474 = .ok (.aload_n 2, 1) by decide +kernel) rfl (lv_at hl 4 rfl) ?_
    refine lw_call l C (o := (12, 0)) (is := []) (rest := []) (show nc_Call m_X12_thrown [mO] (thr w v) = some (some (.inl v), thr w v) by rw [sm_thrown, thr_0]) (by decide) (nc_at_in (p := (6, 194)) rfl rfl) rfl rfl rfl rfl (show decode code 475 = .ok (.invokevirtual 47, 3) by decide +kernel) hl.1 rfl (Nat.le_of_ble_eq_true rfl) ⟨by omega, by omega⟩ hT (fun H locs hT => ?_)
    refine lv_iload hx hb (show decode code 478 = .ok (.iload 5, 2) by decide +kernel) (lv_at hl 1 rfl) ?_
    refine lv_icmp_eq (tgt := 485) hx hb (show decode code 480 = .ok (.if_icmp .eq 5, 3) by decide +kernel) (by decide) (fun _ => ?_) (fun q9 => absurd rfl q9)
    have fin : ∀ H locs, lw_S s D cA ad q3 g2 (thr w v) H locs → W p l e room_1 s m #[Value.ref b] below meth c H locs c2 s2 Q (F0 m 502 _ []) := fun H locs hT => lv_goto (tgt := 1316) hx hb (show decode code 502 = .ok (.goto 814, 3) by decide +kernel) (by decide) (W.widen (k := cells + 1000) (n := slots + 10000) hc2 hs2 (kk g2 _ H locs _ (Inv_thr hI) hT (lv_sub hl [2, 3, 4, 5, 6] rfl)))
    refine lv_iload hx hb (show decode code 485 = .ok (.iload 5, 2) by decide +kernel) (lv_at hl 1 rfl) ?_
    refine lv_if_ne (tgt := 502) hx hb (show decode code 487 = .ok (.ifCond .ne 15, 3) by decide +kernel) (by decide) (fun _ => fin _ _ hT) (fun q8 => ?_)
    refine lv_aload_n hx hb (show decode code 490 = .ok (.aload_n 3, 1) by decide +kernel) rfl (lv_at hl 3 rfl) ?_
    refine lv_iconst (v := 0) hx hb (show decode code 491 = .ok (.iconst 0, 1) by decide +kernel) (by decide) ?_
    refine va_lald hx hb hK hT.1 ((nc_W ad cA (thr w v)).length + 0) 3 (lw_r rfl) rfl (show vp_in (nI 0) 1 from vp_in_nI (by decide) (by decide)) (show decode code 492 = .ok (.laload, 1) by decide +kernel) ?_
    refine lv_iload hx hb (show decode code 493 = .ok (.iload 6, 2) by decide +kernel) (lv_at hl 0 rfl) ?_
    refine lv_i2l (v := rr.toInt64) hx hb (show decode code 495 = .ok (.i2l, 1) by decide +kernel) rfl ?_
    refine W.lcmp hx hb (show decode code 496 = .ok (.lcmp, 1) by decide +kernel) ?_
    exact lv_if_eq (tgt := 502) hx hb (show decode code 497 = .ok (.ifCond .eq 5, 3) by decide +kernel) (by decide) (fun _ => fin _ _ hT) (fun q7 => absurd (lg0.mpr (hg2 q8)) q7)
  have hA : ∀ q : Nat, s.heap.size ≤ q → lw_A s q := fun _ h => h
  have hws : ∀ w ∈ wL_farm, ∀ a' U, s.WarmedH U.vm → w.before a' U = true := fun w hw a' U hW => by
    have hm : w ∈ nc_tb := by
      rcases List.mem_cons.mp hw with e9 | e9
      · rw [e9]
        exact (nc_at_in (p := (6, 184)) rfl rfl)
      · exact e9
    exact word_at hW (good_of_word (nc_good hm)) (hts' w hm)
  have hFx : ∀ q, va_A (lc_ws cA ad q3 g w) H.size q → lw_A s q := fun q h => by
    rcases h with ⟨k9, e9, h⟩ | h
    · exact hT.2.1.2 k9 _ h
    · exact Nat.le_trans hT.2.2.1 h
  have hpre : ∀ U : State, U.heap = H → s.WarmedH U.vm → va_Pc [.ref (ad 11 0), .int (xs (nI i + 1).toNatClampNeg), .int (xs (nI i + 2).toNatClampNeg), .ref q3] (lcP D cA ad q3 g H.size w) [.ref (ad 11 0), .int (xs (nI i + 1).toNatClampNeg), .int (xs (nI i + 2).toNatClampNeg), .ref q3].toArray U := fun U hU hW => by
    refine ⟨rfl, by rw [hU], by rw [hU]; exact hT.1, va_K.moved hW.alike hK, hT.2.1.weaken (fun _ _ _ _ => trivial), ⟨vk_R.warm hW hStr.1, ?_, fun e he => va_Nw.warmF hW (hStr.2.2 e he)⟩, exL_same hW (fun y9 cy h _ => ?_) hex⟩
    · rw [hU]
      exact ⟨vk_S.narrow (vk_S.moved hW.alike (vk_S.kept hStr.2.1.1 hT.2.2.2.1)) hFx, va_Z.narrow (va_Z.moved hW.alike (va_Z.kept hStr.2.1.2 hT.2.2.2.1)) hFx⟩
    · rw [hU, hT.2.2.2.1 y9 (Array.getElem?_eq_some_iff.mp h).1 (Nat.not_le.mpr (Array.getElem?_eq_some_iff.mp h).1)]
      exact h
  refine lv_aload_n hx hb (show decode code 437 = .ok (.aload_n 1, 1) by decide +kernel) rfl (lv_at hl 3 rfl) ?_
  refine lv_aload_n hx hb (show decode code 438 = .ok (.aload_n 0, 1) by decide +kernel) rfl (lv_at hl 4 rfl) ?_
  refine lv_iload hx hb (show decode code 439 = .ok (.iload 4, 2) by decide +kernel) (lv_at hl 0 rfl) ?_
  refine lv_iconst (v := 1) hx hb (show decode code 441 = .ok (.iconst 1, 1) by decide +kernel) (by decide) ?_
  refine lv_iadd hx hb (show decode code 442 = .ok (.iadd, 1) by decide +kernel) ?_
  refine va_sld hx hb hX hbl hbA hT.2.2 h1 (show decode code 443 = .ok (.iaload, 1) by decide +kernel) ?_
  refine lv_aload_n hx hb (show decode code 444 = .ok (.aload_n 0, 1) by decide +kernel) rfl (lv_at hl 4 rfl) ?_
  refine lv_iload hx hb (show decode code 445 = .ok (.iload 4, 2) by decide +kernel) (lv_at hl 0 rfl) ?_
  refine lv_iconst (v := 2) hx hb (show decode code 447 = .ok (.iconst 2, 1) by decide +kernel) (by decide) ?_
  refine lv_iadd hx hb (show decode code 448 = .ok (.iadd, 1) by decide +kernel) ?_
  refine va_sld hx hb hX hbl hbA hT.2.2 h2 (show decode code 449 = .ok (.iaload, 1) by decide +kernel) ?_
  refine lv_aload_n hx hb (show decode code 450 = .ok (.aload_n 3, 1) by decide +kernel) rfl (lv_at hl 1 rfl) ?_
  by_cases hv : rng (xs (nI i + 1).toNatClampNeg) f ∧ rng (xs (nI i + 2).toNatClampNeg) 4
  · obtain ⟨r, k1, k2⟩ := op_farm_t hNW hv.1 hv.2
    refine va_calli (lw_runSW (As := [.ref (ad 11 0), .int (xs (nI i + 1).toNatClampNeg), .int (xs (nI i + 2).toNatClampNeg), .ref q3]) (rest := []) hx hb hml hown (lc_ok_farm l D cA ad q3 g H.size w (xs (nI i + 1).toNatClampNeg) (xs (nI i + 2).toNatClampNeg) r k1) rfl hws rfl rfl (Nat.le_of_ble_eq_true rfl) (Nat.le_of_ble_eq_true rfl) (hts' _ (nc_at_in (p := (1, 0)) rfl rfl)) (hts' _ (nc_at_in (p := (6, 182)) rfl rfl)) (hts' _ (nc_at_in (p := (6, 183)) rfl rfl)) ⟨by decide +kernel, by decide +kernel⟩ (fun sig h => by rw [show parseMethodDescriptor "(LNewsCows;II[J)I" = _ from rfl] at h; cases h; rfl) lcP_bl hpre rfl hl.1 rfl (lv_room (Nat.le_of_ble_eq_true rfl)) (show decode code 451 = .ok (.invokestatic 54, 3) by decide +kernel) ⟨show cells + 0 ≤ 601024 by omega, show slots + 0 ≤ 7293034 by omega⟩) hT.2.2 (fun q _ h => hFx q h) hFx (fun v9 u9 t9 H9 locs9 ht9 hvm9 hw9 hB9 hz9 hk9 hS9 => ?_)
    obtain ⟨hP1, hK1, hD1⟩ := hB9
    rw [ht9] at hP1
    subst hw9
    exact tail 0 r (vp_updL g 0 r.toInt64) H9 locs9 _ _ (by omega) (by omega) k2 (fun _ => if_pos rfl) ⟨hP1, hD1.weaken (fun _ q _ h => hFx q.1 h), hS9⟩
  · have k2 := op_farm_f hNW hv
    have hbad : exC (xs (nI i + 1).toNatClampNeg) (w.1 2 0 1) = 0 ∨ (xs (nI i + 2).toNatClampNeg) < 0 ∨ ¬ (xs (nI i + 2).toNatClampNeg) ≤ 3 := by
      by_cases z1 : exC (xs (nI i + 1).toNatClampNeg) (w.1 2 0 1) = 0
      · exact Or.inl z1
      · by_cases z2 : (xs (nI i + 2).toNatClampNeg) < 0
        · exact Or.inr (Or.inl z2)
        · refine Or.inr (Or.inr (fun z3 => hv ⟨?_, ?_⟩))
          · have e9 : w.1 2 0 1 = nI f := x3.2.1.1
            rw [e9] at z1
            exact exC_rng (by have := x3.1; unfold shp at this; omega) z1
          · exact (rng_M (by decide)).mp ⟨Int32.not_lt.mp z2, z3⟩
    refine va_calli (lw_runSW (As := [.ref (ad 11 0), .int (xs (nI i + 1).toNatClampNeg), .int (xs (nI i + 2).toNatClampNeg), .ref q3]) (rest := []) hx hb hml hown (lc_no_farm l hoff D cA ad q3 g H.size w (xs (nI i + 1).toNatClampNeg) (xs (nI i + 2).toNatClampNeg) hbad) rfl hws rfl rfl (Nat.le_of_ble_eq_true rfl) (Nat.le_of_ble_eq_true rfl) (hts' _ (nc_at_in (p := (1, 0)) rfl rfl)) (hts' _ (nc_at_in (p := (6, 182)) rfl rfl)) (hts' _ (nc_at_in (p := (6, 183)) rfl rfl)) ⟨by decide +kernel, by decide +kernel⟩ (fun sig h => by rw [show parseMethodDescriptor "(LNewsCows;II[J)I" = _ from rfl] at h; cases h; rfl) lcP_bl hpre rfl hl.1 rfl (lv_room (Nat.le_of_ble_eq_true rfl)) (show decode code 451 = .ok (.invokestatic 54, 3) by decide +kernel) ⟨show cells + 1 ≤ 601024 by omega, show slots + 6 ≤ 7293034 by omega⟩) hT.2.2 (fun q _ h => hFx q h) hFx (fun v9 u9 t9 H9 locs9 ht9 hvm9 hw9 hB9 hz9 hk9 hS9 => ?_)
    obtain ⟨hP1, hK1, hD1⟩ := hB9
    rw [ht9] at hP1
    subst hw9
    exact tail 1 0 g H9 locs9 _ _ (by omega) (by omega) k2 (fun z => absurd z (by decide)) ⟨hP1, hD1.weaken (fun _ q _ h => hFx q.1 h), hS9⟩
