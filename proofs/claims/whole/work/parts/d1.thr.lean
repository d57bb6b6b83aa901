/-! A THROW AND A CATCH, in our own words, over the short library alone. -/
section EXO
variable {p : Program} {l : Launch} {e : Env} {R : Room} {s : State} {m : MethodId} {args : Array Value} {below : List Frame} {meth : Method} {c : Code} {T : State} {locs : List Loc} {cells slots : Nat}
/-- what a method that threw has left: warmer tables, new cells, nothing else -/
def exE (s t : State) (mc ms : Nat) : Prop := s.WarmedH t.vm ∧ s.sameButNew ({ t with vm := s.vm } : State) [] mc ms
theorem ex_note {T : State} {g0 : JFrame} {below : List Frame} (h : T.frames = .java g0 :: below) (g : JFrame) (a : Addr) : (T.setTop g).pushFrame (.throwing a) = T.setFrames (.throwing a :: .java g :: below) := by
  rw [State.pushFrame, State.frames_setTop g h, State.setTop_of_frames g h, State.setFrames_setFrames]
/-- a table of one row, whose class may not be resolved yet -/
theorem ex_find {s : State} {f : JFrame} {a : Addr} {x : ExceptionTableEntry} {ct : ClassId} {cell : Cell} (hm : s.vm.method? f.method = some meth) (hc : meth.code = some c) (hT : c.exceptionTable.toList = [x]) (hx : covers x f.pc = true) (h0 : x.catchType ≠ 0) (hl : s.vm.ClassLinks e.platform f.method.cls x.catchType ct) (hcell : s.heap[a]? = some cell) (hob : cell.vm.isStatics = false) (hfit : s.vm.assignable cell.cls ct = true) (Q : Handler → Bool → List Action → State → Prop) (E : CtlPost) (d : Bool) (acts : List Action) : wp (findHandler f a) Q E e d acts s ↔ Q (.found x.handlerPc) d acts (s.setVm (s.vm.noted f.method.cls x.catchType (.cls ct))) := by
  have hx' : (decide (x.startPc ≤ f.pc) && decide (f.pc < x.endPc)) = true := hx
  have hal : s.vm.Alike (s.vm.noted f.method.cls x.catchType (.cls ct)) := (Vm.Alike.refl s.vm).noted _ _ _
  have hfit' : (s.vm.noted f.method.cls x.catchType (.cls ct)).assignable cell.cls ct = true := by
    rw [hal.assignable]
    exact hfit
  obtain ⟨_, _, _, _, _, _, _, _, hfc, _⟩ := hl.here
  have h2 : ∃ k, (s.vm.noted f.method.cls x.catchType (.cls ct)).classes[ct]? = some k := Vm.classAt_of_findClass (by rw [hal.findClass]; exact hfc)
  obtain ⟨k1, hk1⟩ := Vm.classAt_of_assignable hfit' h2
  obtain ⟨k2, hk2⟩ := h2
  obtain ⟨ha, hb⟩ := (resolveClass_links e.toSetting hl).op (op := VmOp.resolveClass f.method.cls x.catchType) rfl
  have hno := VmData.ne_statics_of hob
  rw [_root_.Jvm.W.findHandler_eq hm hc, hT]
  simp [findHandler.go, hx', h0, ha, hb, hcell, hno, hk1, hk2, hfit', VmOp.dirties, VmOp.acts]
theorem ex_caught (X : Stand p l e R s m args below meth c T locs cells slots) (a : Addr) {g : JFrame} (hg : g.method = m) {own nm : String} (hown : s.vm.findClass own = some m.cls) {x : ExceptionTableEntry} (hT : c.exceptionTable.toList = [x]) (hx : covers x g.pc = true) (h0 : x.catchType ≠ 0) (hlink : (Cond.classLink own x.catchType nm).before args s = true) {ct : ClassId} (hct : s.vm.findClass nm = some ct) {cell : Cell} (hcell : T.heap[a]? = some cell) (hob : cell.vm.isStatics = false) (hfit : s.vm.assignable cell.cls ct = true) :
    ∃ vm', Stand p l e R s m args below meth c (T.setVm vm') locs cells slots ∧ Steps p.tables e below (T.setFrames (.throwing a :: .java g :: below)) ((T.setVm vm').setTop { g with pc := x.handlerPc, stack := [.ref a] }) := by
  subst hg
  obtain ⟨g0, hfr⟩ := X.frames_eq
  obtain ⟨c9, hc9, hcl⟩ := Cond.classLink_spec hown hlink e.platform (by rw [X.admits.platform])
  cases hct.symm.trans hc9
  obtain ⟨dk, _, _, _, hd, _, _, _, _, _, _, hop⟩ := hcl.here
  have hW : s.WarmedH (T.vm.noted g.method.cls x.catchType (.cls ct)) := X.warmed.noted hd hop (State.rightAt_cls hcl)
  have hfit' : T.vm.assignable cell.cls ct = true := by
    rw [X.warmed.alike.assignable]
    exact hfit
  refine ⟨_, X.noted hW, ?_⟩
  obtain ⟨hgo, hw⟩ := At.throwing (g := g) X.here a
  rw [ex_note hfr g a] at hgo hw
  refine Steps.head hgo hw ?_
  rw [stepThread_throwing (State.frames_setFrames _ (State.cur_lt_of_frames hfr))]
  have hst : (stepThrowing e (T.setFrames (.throwing a :: .java g :: below)) a (.java g :: below)).Is (((T.setVm (T.vm.noted g.method.cls x.catchType (.cls ct))).setFrames (.throwing a :: .java g :: below)).setFrames (.java { g with pc := x.handlerPc, stack := [.ref a] } :: below)) [] := by
    simp only [stepThrowing, searchFrame, vmDo]
    generalize hr : Sem.go _ e false [] _ = res
    obtain ⟨as, rfl, ha⟩ := Sem.eq_ok_of hr (a := Handler.found x.handlerPc) (s' := (T.setVm (T.vm.noted g.method.cls x.catchType (.cls ct))).setFrames (.throwing a :: .java g :: below)) (acts' := []) (by
      have hf := ex_find (e := e) (s := T.setFrames (.throwing a :: .java g :: below)) (f := g) (a := a) (meth := meth) (c := c) X.method' X.code hT hx h0 (X.warmed.classLinks hcl) hcell hob hfit'
      simp [hf]
      rfl)
    exact ⟨rfl, ha⟩
  rw [hst.1, State.setFrames_setFrames, State.setTop_of_frames _ (show (T.setVm (T.vm.noted g.method.cls x.catchType (.cls ct))).frames = .java g0 :: below from hfr)]
  exact Steps.refl _
end EXO
/-! new NoSuchElementException(), thrown. -/
def exN : String := "java/util/NoSuchElementException"
abbrev exL : List Cond := Jvm.Bundle.ownAtoms0 "NewsCows" 142 "java/util/NoSuchElementException" ["java/lang/RuntimeException", "java/lang/Exception"]
/-- but for four words on two statics the words speak of the tables alone -/
theorem exL_cut : exL.filter (fun w => !w.tabsOnly) = [.laysStatic "java/lang/Throwable" "UNASSIGNED_STACK" "[Ljava/lang/StackTraceElement;", .laysStatic "java/lang/Throwable" "SUPPRESSED_SENTINEL" "Ljava/util/List;", .isRef (.static "java/lang/Throwable" "UNASSIGNED_STACK" "[Ljava/lang/StackTraceElement;"), .isRef (.static "java/lang/Throwable" "SUPPRESSED_SENTINEL" "Ljava/util/List;")] := by rfl
theorem ex_lays {s U : State} {a a' : Array Value} {C n d : String} (hW : s.WarmedH U.vm) (hk : ∀ (y : Addr) (cy : Cell), s.heap[y]? = some cy → cy.vm.isStatics = true → U.heap[y]? = some cy) (h : (Cond.laysStatic C n d).before a s = true) : (Cond.laysStatic C n d).before a' U = true := by
  obtain ⟨c, k, i, f, q, cell, h1, h2, h3, h4, h5, h6, h7, h8, h9⟩ := Cond.laysStatic_spec h
  obtain ⟨k', g1, g2⟩ := State.fieldFound?_setVm hW.alike h2
  exact Cond.laysStatic_of (s := U) (by rw [hW.alike.findClass]; exact h1) g1 h3 (by rw [g2]; exact h4) (hk q cell h5 h6) h6 h7 h8 (by rw [g2]; exact h9)
theorem ex_refs {s U : State} {a a' : Array Value} {C n d : String} (hW : s.WarmedH U.vm) (hk : ∀ (y : Addr) (cy : Cell), s.heap[y]? = some cy → cy.vm.isStatics = true → U.heap[y]? = some cy) (hl : (Cond.laysStatic C n d).before a s = true) (h : (Cond.isRef (.static C n d)).before a s = true) : (Cond.isRef (.static C n d)).before a' U = true := by
  obtain ⟨c, k, i, f, q, cell, h1, h2, h3, h4, h5, h6, h7, h8, h9⟩ := Cond.laysStatic_spec hl
  obtain ⟨v, hv, hr⟩ := Cond.isRef_spec h
  obtain ⟨-, q', cell', e1, e2, -, e3⟩ := Term.static_spec h2 hv
  cases h4.symm.trans e1
  cases h5.symm.trans e2
  obtain ⟨k', g1, g2⟩ := State.fieldFound?_setVm hW.alike h2
  have hv' : (Term.static C n d).eval a' U none [] U = some v := Term.static_eval (s := U) g1 h3 (by rw [g2]; exact h4) (hk q cell h5 h6) h6 e3
  simp only [Cond.before, Cond.holds, Cond.value, hv, hv'] at h ⊢
  exact h
theorem exL_same {s U : State} {a a' : Array Value} (hW : s.WarmedH U.vm) (hk : ∀ (y : Addr) (cy : Cell), s.heap[y]? = some cy → cy.vm.isStatics = true → U.heap[y]? = some cy) (h : ∀ w ∈ exL, w.before a s = true) : ∀ w ∈ exL, w.before a' U = true := by
  intro w hw
  cases ht : w.tabsOnly with
  | true => exact Cond.tabsOnly_warm (args' := a') (T := U) hW w ht (h w hw)
  | false =>
    have hm : w ∈ exL.filter (fun w => !w.tabsOnly) := List.mem_filter.mpr ⟨hw, by rw [ht]; rfl⟩
    have hin : ∀ v ∈ exL.filter (fun w => !w.tabsOnly), v.before a s = true := fun v hv => h v (List.mem_filter.mp hv).1
    rw [exL_cut] at hm hin
    simp only [List.mem_cons, List.not_mem_nil, or_false] at hm
    rcases hm with rfl | rfl | rfl | rfl
    · exact ex_lays hW hk (hin _ (by simp))
    · exact ex_lays hW hk (hin _ (by simp))
    · exact ex_refs hW hk (hin (.laysStatic "java/lang/Throwable" "UNASSIGNED_STACK" "[Ljava/lang/StackTraceElement;") (by simp)) (hin _ (by simp))
    · exact ex_refs hW hk (hin (.laysStatic "java/lang/Throwable" "SUPPRESSED_SENTINEL" "Ljava/util/List;") (by simp)) (hin _ (by simp))
set_option maxHeartbeats 2000000 in
theorem ex_thr {p : Program} {l : Launch} {e : Env} {R : Room} {s : State} {m : MethodId} {args : Array Value} {below : List Frame} {meth : Method} {c : Code} {H : Heap} {cells slots : Nat} {cc : ByteArray} {ls : Array Slot} {pc : Nat} {Q : State → Prop} (hexec : p.tables.exec = Jvm.exec) (hb : c.code = cc) (htr : e.platform.stackTraces = false) (hown : s.vm.findClass "NewsCows" = some m.cls) (hat : ∀ a ∈ exL, a.before args s = true) (hcl : (Cond.classLink "NewsCows" 140 "java/util/NoSuchElementException").before args s = true) (hini : (Cond.initialized "java/util/NoSuchElementException").before args s = true) (hlocks : meth.locks = false) (hls : ls.size = c.maxLocals) (hout : c.exceptionTable.toList = [])
    (d1 : decode cc pc = .ok (.new 140, 3)) (d2 : decode cc (pc + 3) = .ok (.dup, 1)) (d3 : decode cc (pc + 4) = .ok (.invokespecial 142, 3)) (d4 : decode cc (pc + 7) = .ok (.athrow, 1)) (hcells : cells + 1 ≤ R.cells) (hslots : slots + 6 ≤ R.slots) (hfr : 10 ≤ R.frames) (hlo : 300 ≤ R.locals)
    (hQ : ∀ (a : Addr) (U : State), U.status = .running → Ended U below (.threw a) → s.WarmedH U.vm → s.sameButNew ({ U with vm := s.vm } : State) [] (cells + 1) (slots + 6) → (∃ ce, U.heap[a]? = some ce ∧ ce.vm.isStatics = false ∧ s.vm.findClass "java/util/NoSuchElementException" = some ce.cls ∧ s.vm.assignable ce.cls ce.cls = true) → Q U) : W p l e R s m args below meth c H [] cells slots Q (F0 m pc ls []) := by
  subst hb
  intro T hT X
  have hins : (Cond.instantiable "java/util/NoSuchElementException" 6).before args s = true := hat _ (by simp [exL, Jvm.Bundle.ownAtoms0])
  obtain ⟨vm', cC, kC, hfc, hkC, hkind, hsize, X2, st2⟩ := X.newCold hexec hown hcl hins hini (g := F0 m pc ls []) rfl d1 hcells hslots
  have hw : W p l e R s m args below meth c ((T.setVm vm').pushCell { cls := cC, slots := kC.instanceTypes.map defaultValue, vm := .none }).heap [] (cells + 1) (slots + 6) Q (F0 m (pc + 3) ls [.ref (T.setVm vm').heap.size]) := by
    refine lv_dup hexec rfl d2 rfl ?_
    intro T3 hT3 X3
    obtain ⟨U, s1, s2, s3, s4, s5, ce, s6, s7⟩ := Jvm.Stand.ctorThrow0 X3 hexec htr (own := "NewsCows") (cls := "java/util/NoSuchElementException") (names := ["java/lang/RuntimeException", "java/lang/Exception"]) (ic := 142) hown (by decide) (by decide) hat (fun x hx => by cases hx) hfc hkC (a := (T.setVm vm').heap.size) (by rw [hT3]; simp [State.pushCell]) X.same.2.1 (g := F0 m (pc + 3 + 1) ls [.ref (T.setVm vm').heap.size, .ref (T.setVm vm').heap.size]) rfl hls rfl rfl (rest := []) rfl d3 d4 (fun x hx => by rw [hout] at hx; cases hx) (by simp; omega) (by simp [F0, JFrame.monitorRoom, Value.category]; omega) hlocks
    exact ⟨U, s1, hQ _ U s2 s3 s4 s5 ⟨ce, s6, by rw [s7.vm]; rfl, s7.cls, s7.self⟩⟩
  obtain ⟨t, a1, b1⟩ := hw _ rfl X2
  exact ⟨t, st2 t a1, b1⟩
