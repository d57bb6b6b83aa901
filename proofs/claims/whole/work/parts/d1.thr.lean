/-! new NoSuchElementException(), thrown. -/
def exN : String := "java/util/NoSuchElementException"
abbrev exL : List Cond := Jvm.Bundle.ownAtoms0 "NewsCows" 142 "java/util/NoSuchElementException" ["java/lang/RuntimeException", "java/lang/Exception"]
theorem exL_rides : exL.all Jvm.Cond.ridesK = true := by decide +kernel
set_option maxHeartbeats 2000000 in
theorem ex_thr {p : Program} {l : Launch} {e : Env} {R : Room} {s : State} {m : MethodId} {args : Array Value} {below : List Frame} {meth : Method} {c : Code} {H : Heap} {cells slots : Nat} {cc : ByteArray} {ls : Array Slot} {pc : Nat} {Q : State → Prop} (hexec : p.tables.exec = Jvm.exec) (hb : c.code = cc) (htr : e.platform.stackTraces = false) (hown : s.vm.findClass "NewsCows" = some m.cls) (hat : ∀ a ∈ exL, a.before args s = true) (hcl : (Cond.classLink "NewsCows" 140 "java/util/NoSuchElementException").before args s = true) (hini : (Cond.initialized "java/util/NoSuchElementException").before args s = true) (hlocks : meth.locks = false) (hls : ls.size = c.maxLocals) (hout : c.exceptionTable.toList = [])
    (d1 : decode cc pc = .ok (.new 140, 3)) (d2 : decode cc (pc + 3) = .ok (.dup, 1)) (d3 : decode cc (pc + 4) = .ok (.invokespecial 142, 3)) (d4 : decode cc (pc + 7) = .ok (.athrow, 1)) (hcells : cells + 1 ≤ R.cells) (hslots : slots + 6 ≤ R.slots) (hfr : 10 ≤ R.frames) (hlo : 300 ≤ R.locals)
    (hQ : ∀ (a : Addr) (U : State), U.status = .running → Ended U below (.threw a) → s.WarmedH U.vm → s.sameButNew ({ U with vm := s.vm } : State) [] (cells + 1) (slots + 6) → (∃ ce, U.heap[a]? = some ce ∧ ce.vm.isStatics = false ∧ s.vm.findClass "java/util/NoSuchElementException" = some ce.cls ∧ s.vm.assignable ce.cls ce.cls = true) → Q U) : W p l e R s m args below meth c H [] cells slots Q (F0 m pc ls []) := by
  subst hb
  intro T hT X
  have hins : (Cond.instantiable "java/util/NoSuchElementException" 6).before args s = true := hat _ (by simp [exL, Jvm.Bundle.ownAtoms0])
  obtain ⟨vm', cC, kC, hfc, hkC, hkind, hsize, X2, st2⟩ := X.newCold hexec hown hcl hins hini (g := F0 m pc ls []) rfl d1 hcells hslots
  have hw : W p l e R s m args below meth c ((T.setVm vm').pushCell { cls := cC, slots := kC.instanceTypes.map defaultValue, vm := .none }).heap [] (cells + 1) (slots + 6) Q (F0 m (pc + 3) ls [.ref (T.setVm vm').heap.size]) := by
    refine lv_dup hexec rfl d2 rfl ?_
    intro T3 hT3 X3
    obtain ⟨U, s1, s2, s3, s4, s5, ce, s6, s7⟩ := Jvm.Stand.ctorThrow0 X3 hexec htr (own := "NewsCows") (cls := "java/util/NoSuchElementException") (names := ["java/lang/RuntimeException", "java/lang/Exception"]) (ic := 142) hown (by decide) (by decide) hat (fun x hx => by cases hx) hfc hkC (a := (T.setVm vm').heap.size) (by rw [hT3]; simp [State.pushCell]) X.same.2.1 (g := F0 m (pc + 3 + 1) ls [.ref (T.setVm vm').heap.size, .ref (T.setVm vm').heap.size]) rfl hls rfl rfl (rest := []) rfl d3 d4 (fun x hx => by rw [hout] at hx; cases hx) (by simp; omega) (by simp [F0, JFrame.monitorRoom, Value.category]; omega) hlocks
    exact ⟨U, s1, hQ _ U s2 s3 s4 s5 ⟨ce, s6, by rw [s7.vm]; rfl, s7.cls, s7.self⟩⟩
  obtain ⟨t, a1, b1⟩ := hw _ rfl X2
  exact ⟨t, st2 t a1, b1⟩
