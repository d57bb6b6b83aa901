/-! A CALL THAT THROWS, AND IS CAUGHT. -/
section EXC
variable {p : Program} {l : Launch} {e : Env} {R : Room} {s : State} {m : MethodId} {args : Array Value} {below : List Frame} {meth : Method} {c : Code} {H : Heap} {locs : List Loc} {cells slots : Nat} {Q : State → Prop}
/-- what a call of a method that throws comes to -/
def exBk (l : Launch) (R : Room) (p : Program) (e : Env) (below : List Frame) (s : State) (sargs : Array Value) (y : MethodName) (Pc : Array Value → State → Prop) : Prop :=
  ∀ (m : MethodId) (meth : Method) (c : Code) (T : State) (locs : List Loc) (cells slots : Nat) (g : JFrame) (ig : Instr) (mk : MethodId) (a : Array Value), Stand p l e R s m sargs below meth c T locs cells slots → g.method = m → g.locals.size = c.maxLocals → decode c.code g.pc = .ok (ig, 3) → 2 * g.monitorRoom + (g.stack.map fun v => v.category).sum ≤ 8 → T.methodNamed? y = some mk → cells + 1 ≤ R.cells → slots + 6 ≤ R.slots → Pc a T →
    ∃ (v : Addr) (B : State), Stand p l e R s m sargs below meth c B locs (cells + 1) (slots + 6) ∧ exCe T v B ∧ (∀ (q : Nat) (cq : Cell), T.heap[q]? = some cq → B.heap[q]? = some cq) ∧ Steps p.tables e below (doInvoke e (T.setTop g) [] mk a).1 (B.setFrames (.throwing v :: .java g :: below))
theorem ex_back {y : MethodName} {ws : List Cond} {rm : Room} {Pc : Array Value → State → Prop} {bytes : ByteArray} {maxL : Nat} {ret : Option FieldType} (hM : exM l y ws rm Pc 1 6) (hbl : FrameBlind Pc) (hrc : rm.cells = 1) (hrs : rm.slots = 6) (hframes : rm.frames + 1 ≤ R.frames) (hlocals : 8 + (maxL + 11) + rm.locals ≤ R.locals) (hws : ∀ w ∈ ws, ∀ a' U, s.WarmedH U.vm → w.before a' U = true) (hcode : Cond.code y bytes maxL ret ∈ ws) (hinit : ∀ a' U, s.WarmedH U.vm → (Cond.initialized y.cls).before a' U = true) : exBk l R p e below s args y Pc := by
  intro m meth c T locs cells slots g ig mk a X hg hsz hdg hst hn hc1 hs1 hp
  subst hg
  obtain ⟨g0, hfr⟩ := X.frames_eq
  have hw : ∀ w ∈ ws, w.before a T = true := fun w h => hws w h _ _ X.warmed
  obtain ⟨mY, cY, hmY, hcY, -, hlY, -⟩ := Cond.code_spec hn (hw _ hcode)
  obtain ⟨kY, hkY, -⟩ := className_of_methodNamed hn
  have hroom := X.room_calling (g := g) (m' := mk) (args' := a) (R' := (headSpec ws rm).room) hsz hmY hcY hframes (by rw [hlY]; show _ + _ + rm.locals ≤ _; omega) (by rw [show (headSpec ws rm).room.cells = 1 from hrc]; exact hc1) (by rw [show (headSpec ws rm).room.slots = 6 from hrs]; exact hs1)
  have happ : (headSpec ws rm).appliesLoose y e.platform (T.calling g mk a) = true := Spec.appliesLoose_calling (g := g) X.here hdg hn hkY (Cond.initialized_spec (findClass_of_methodNamed hn) hkY (hinit a _ X.warmed)) hroom (atoms_intro hw)
  obtain ⟨o, t, hsteps, -, hend, x, ho, hce, hW, hsame⟩ := Steps.callFree hM p X.admits X.cas X.clock (acts := []) (s := T.setTop g) (mid := [.java g]) (below := below) (by rw [State.frames_setTop g hfr]; rfl) happ (hbl _ _ _ _ hp) trivial
  subst ho
  have hft : t.frames = .throwing x :: .java g :: below := by
    have h9 : t.frames = .throwing x :: (T.setTop g).frames := hend
    rw [h9, State.frames_setTop g hfr]
  have hcl : (T.setTop g).pushFrame (.invoking mk a) = T.setFrames (.invoking mk a :: .java g :: below) := by
    rw [State.pushFrame, State.frames_setTop g hfr, State.setTop_of_frames g hfr, State.setFrames_setFrames]
  have hWT : T.WarmedH t.vm := hW
  rw [hcl] at hsame
  obtain ⟨q1, q2, q3, q4, q5, q6⟩ := hsame
  have q7 : t = ((({ T with heap := t.heap, slotsUsed := t.slotsUsed } : State).setVm t.vm)).setFrames (.throwing x :: .java g :: below) := by
    have h9 : ({ t with vm := T.vm } : State) = ({ (T.setFrames (.throwing x :: .java g :: below)) with heap := t.heap, slotsUsed := t.slotsUsed } : State) := by
      refine Eq.trans q1 ?_
      rw [State.setFrames_setFrames]
      show ({ (T.setFrames t.frames) with heap := t.heap, slotsUsed := t.slotsUsed } : State) = _
      rw [hft]
    exact congrArg (fun u : State => u.setVm t.vm) h9
  obtain ⟨th, hth, -⟩ := State.frames_cons hfr
  have hsB : T.sameButNew ((({ T with heap := t.heap, slotsUsed := t.slotsUsed } : State).setVm t.vm).setVm T.vm) [] 1 6 := by
    refine ⟨?_, q2, q3, q4, q5, q6⟩
    show ({ T with heap := t.heap, slotsUsed := t.slotsUsed } : State) = { T.setFrames T.frames with heap := t.heap, slotsUsed := t.slotsUsed }
    rw [State.setFrames_self hth]
  have X' := X.moved (T₂ := ({ T with heap := t.heap, slotsUsed := t.slotsUsed } : State).setVm t.vm) ((X.here.setHeapUsed t.heap t.slotsUsed).setVm hWT.alike) X.tail rfl rfl hWT hsB
  rw [List.append_nil] at X'
  refine ⟨x, _, X', hce, fun q cq h => Jvm.State.sameButNew.kept_nil hsB h, ?_⟩
  rw [← q7]
  exact hsteps
theorem ex_catch {cc : ByteArray} {nL : Nat} {y : MethodName} {bytes : ByteArray} {maxL : Nat} {ret : Option FieldType} {Pc : Array Value → State → Prop} {own C : String} {k pc b ct : Nat} {ls : Array Slot} {As rest : List Value} (hx : p.tables.exec = Jvm.exec) (hb : c.code = cc) (hml : c.maxLocals = nL) (hown : s.vm.findClass own = some m.cls) (hlink : (Cond.methodLink own k y).before args s = true) (hinst : (Cond.instanceMethod y).before args s = true) (hsel : (Cond.selects C y y).before args s = true) (hcode : (Cond.code y bytes maxL ret).before args s = true) (hy : y.cls ≠ "java/lang/invoke/MethodHandle" ∧ y.cls ≠ "java/lang/invoke/VarHandle")
    (hK : exBk l R p e below s args y Pc) (hrecv : ∃ cell : Cell, H[b]? = some cell ∧ cell.vm.isStatics = false ∧ s.vm.findClass C = some cell.cls) (hls : ls.size = nL) (hlen : ∀ sig, parseMethodDescriptor y.desc = some sig → As.length = sig.parameters.length) (hW8 : (rest.map fun v => v.category).sum ≤ 8) (hdg : decode cc pc = .ok (.invokevirtual k, 3)) (hf : cells + 1 ≤ R.cells ∧ slots + 6 ≤ R.slots) (hpre : ∀ U : State, U.heap = H → s.WarmedH U.vm → Pc (.ref b :: As).toArray U)
    {sp ep hp : Nat} (htab : c.exceptionTable.toList = [⟨sp, ep, hp, ct⟩]) (hct : ct ≠ 0) (hcov : sp ≤ pc ∧ pc < ep) (hclink : (Cond.classLink own ct "java/util/NoSuchElementException").before args s = true) (hcast : (Cond.castable "java/util/NoSuchElementException" "java/util/NoSuchElementException").before args s = true)
    (kk : ∀ (a : Addr) (H1 : Heap), (∀ (q : Nat) (cq : Cell), H[q]? = some cq → H1[q]? = some cq) → W p l e R s m args below meth c H1 locs (cells + 1) (slots + 6) Q (F0 m hp ls [.ref a])) : W p l e R s m args below meth c H locs cells slots Q (F0 m pc ls (As.reverse ++ .ref b :: rest)) := by
  subst hb
  intro T hT X
  obtain ⟨cellB, hcell, hobj, hcls⟩ := hrecv
  obtain ⟨mk, methM, hnamed, hmethM, hstM, habM⟩ := Cond.instanceMethod_spec hinst
  obtain ⟨methM', cM, hmethM', -, -, -, -, -, -, hsigM⟩ := Cond.code_spec hnamed hcode
  cases hmethM.symm.trans hmethM'
  obtain ⟨c2, r2, m2, q1, q2, q3, q4, kP, hkP, hkPi⟩ := Cond.selects_spec hsel
  cases hcls.symm.trans q1
  cases (State.methodFound?_of_named hnamed hy).symm.trans q2
  cases hnamed.symm.trans q3
  have hselP : selectMethod e.platform s.vm cellB.cls mk = .method mk := by rw [Launch.admits_selectMethod X.admits]; exact q4
  obtain ⟨vm₁, X₁, hstep₁⟩ := X.invokevirtual hx hown hlink hnamed hmethM hstM hkP hkPi hy (a := b) (cell := cellB) (by rw [hT]; exact hcell) (fun z h => by rw [h] at hobj; cases hobj) hselP hmethM habM hkP hkPi (g := F0 m pc ls (As.reverse ++ .ref b :: rest)) rfl (argsL := As) (rest := rest) (hlen _ hsigM) rfl hdg
  obtain ⟨v, B, X', ⟨ce, c1, c2, c3, c4⟩, k1, hsteps⟩ := hK m meth c (T.setVm vm₁) locs cells slots { F0 m pc ls (As.reverse ++ .ref b :: rest) with stack := rest } (.invokevirtual k) mk (Value.ref b :: As).toArray X₁ rfl (hls.trans hml.symm) hdg (lv_room hW8) (X₁.named hnamed) hf.1 hf.2 (hpre _ hT X₁.warmed)
  have hfc : s.vm.findClass "java/util/NoSuchElementException" = some ce.cls := by
    rw [← X₁.warmed.alike.findClass]
    exact c3
  obtain ⟨d1, d2, hd1, hd2, hasg⟩ := Cond.castable_spec hcast
  cases Option.some.inj (hd1.symm.trans hfc)
  cases Option.some.inj (hd2.symm.trans hfc)
  have hcome : Steps p.tables e below (T.setTop (F0 m pc ls (As.reverse ++ .ref b :: rest))) (B.setFrames (.throwing v :: .java { F0 m pc ls (As.reverse ++ .ref b :: rest) with stack := rest } :: below)) := hstep₁ _ fun acts => by rw [doInvoke_state]; exact hsteps
  obtain ⟨vm2, X2, st2⟩ := ex_caught X' v (g := { F0 m pc ls (As.reverse ++ .ref b :: rest) with stack := rest }) rfl hown htab (by simp [covers, F0, hcov.1, hcov.2]) hct hclink hfc c1 c2 hasg
  obtain ⟨t, a1, b1⟩ := kk v B.heap (fun q cq h => k1 q cq (by rw [← hT] at h; exact h)) (B.setVm vm2) rfl X2
  exact ⟨t, hcome.trans (st2.trans a1), b1⟩
end EXC
