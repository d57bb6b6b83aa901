/-! A CALL THAT THROWS, AND IS CAUGHT. -/
section EXC
variable {p : Program} {l : Launch} {e : Env} {R : Room} {s : State} {m : MethodId} {args : Array Value} {below : List Frame} {meth : Method} {c : Code} {H : Heap} {locs : List Loc} {cells slots : Nat} {Q : State → Prop}
abbrev exPost : Pt → Array Value → Addr → Pt → Prop := fun A _ v B => exCe A.U v B.U ∧ (∀ (q : Nat) (cq : Cell), A.U.heap[q]? = some cq → B.U.heap[q]? = some cq) ∧ B.locs = A.locs ∧ B.cells = A.cells + 1 ∧ B.slots = A.slots + 6
theorem ex_back {y : MethodName} {ws : List Cond} {rm : Room} {Pc : Array Value → State → Prop} {bytes : ByteArray} {maxL : Nat} {ret : Option FieldType} (hM : exM l y ws rm Pc 1 6) (hbl : FrameBlind Pc) (hrc : rm.cells = 1) (hrs : rm.slots = 6) (hframes : rm.frames + 1 ≤ R.frames) (hlocals : 8 + (maxL + 11) + rm.locals ≤ R.locals) (hws : ∀ w ∈ ws, ∀ a' U, s.WarmedH U.vm → w.before a' U = true) (hcode : Cond.code y bytes maxL ret ∈ ws) (hinit : ∀ a' U, s.WarmedH U.vm → (Cond.initialized y.cls).before a' U = true) : Jvm.Free.BackT l R p e below s args y 3 8 (PreOf R 1 6 Pc) exPost := by
  refine Jvm.Free.BackT.of_free (S := headSpec ws rm) (P := Pc) (K := fun _ _ _ _ _ => True) (Q := fun _ st o t => ∃ x, o = .threw x ∧ exCe st x t ∧ Jvm.Free.FrameEndT st o t [] 1 6) (bytes := bytes) (maxL := maxL) (ret := ret) (E := fun _ _ _ _ L k n => L = [] ∧ k = 1 ∧ n = 6) hM hframes hlocals ?_ ?_ (fun _ _ _ _ _ _ _ _ _ => trivial) ?_ ?_
  · intro m meth c A a X hp
    exact ⟨atoms_intro fun w hw => hws w hw _ _ X.warmed, hws _ hcode _ _ X.warmed, hinit _ _ X.warmed, by rw [show (headSpec ws rm).room.cells = 1 from hrc]; exact hp.1, by rw [show (headSpec ws rm).room.slots = 6 from hrs]; exact hp.2.1⟩
  · intro m meth c A a g mk X hp
    exact hbl _ _ _ _ hp.2.2
  · intro a st o t ⟨x, h1, h2, h3⟩
    exact ⟨[], 1, 6, h3, rfl, rfl, rfl⟩
  · intro m meth c A a g mk v t L k n X hp hq hF ⟨e1, e2, e3⟩
    subst e1; subst e2; subst e3
    obtain ⟨x, hx, hce, hFT⟩ := hq
    cases hx
    refine ⟨hce, fun q cq h => ?_, by simp, rfl, rfl⟩
    exact Jvm.State.sameButNew.kept_nil hFT.2.2 h
theorem ex_catch {cc : ByteArray} {nL : Nat} {y : MethodName} {bytes : ByteArray} {maxL : Nat} {ret : Option FieldType} {Pc : Array Value → State → Prop} {own C : String} {k pc b ct : Nat} {ls : Array Slot} {As rest : List Value} (hx : p.tables.exec = Jvm.exec) (hb : c.code = cc) (hml : c.maxLocals = nL) (hown : s.vm.findClass own = some m.cls) (hlink : (Cond.methodLink own k y).before args s = true) (hinst : (Cond.instanceMethod y).before args s = true) (hsel : (Cond.selects C y y).before args s = true) (hcode : (Cond.code y bytes maxL ret).before args s = true) (hy : y.cls ≠ "java/lang/invoke/MethodHandle" ∧ y.cls ≠ "java/lang/invoke/VarHandle")
    (hK : Jvm.Free.BackT l R p e below s args y 3 8 (PreOf R 1 6 Pc) exPost) (hrecv : ∃ cell : Cell, H[b]? = some cell ∧ cell.vm.isStatics = false ∧ s.vm.findClass C = some cell.cls) (hls : ls.size = nL) (hlen : ∀ sig, parseMethodDescriptor y.desc = some sig → As.length = sig.parameters.length) (hW8 : (rest.map fun v => v.category).sum ≤ 8) (hdg : decode cc pc = .ok (.invokevirtual k, 3)) (hf : cells + 1 ≤ R.cells ∧ slots + 6 ≤ R.slots) (hpre : ∀ U : State, U.heap = H → s.WarmedH U.vm → Pc (.ref b :: As).toArray U)
    {sp ep hp : Nat} (htab : c.exceptionTable.toList = [⟨sp, ep, hp, ct⟩]) (hct : ct ≠ 0) (hcov : sp ≤ pc ∧ pc < ep) (hclink : (Cond.classLink own ct "java/util/NoSuchElementException").before args s = true) (hcast : (Cond.castable "java/util/NoSuchElementException" "java/util/NoSuchElementException").before args s = true)
    (kk : ∀ (a : Addr) (H1 : Heap), (∀ (q : Nat) (cq : Cell), H[q]? = some cq → H1[q]? = some cq) → W p l e R s m args below meth c H1 locs (cells + 1) (slots + 6) Q (F0 m hp ls [.ref a])) : W p l e R s m args below meth c H locs cells slots Q (F0 m pc ls (As.reverse ++ .ref b :: rest)) := by
  subst hb
  intro T hT X
  obtain ⟨cellB, hcell, hobj, hcls⟩ := hrecv
  obtain ⟨mk, methM, hnamed, hmethM, hstM, habM⟩ := Cond.instanceMethod_spec hinst
  obtain ⟨methM', cM, hmethM', -, -, -, -, -, -, hsigM⟩ := Cond.code_spec hnamed hcode
  cases hmethM.symm.trans hmethM'
  obtain ⟨c2, r2, m2, q1, q2, q3, q4, kP, hkP, hkPi⟩ := Cond.selects_spec hsel
  cases hcls.symm.trans q1
  cases (State.methodFound?_of_named hnamed hy).symm.trans q2
  cases hnamed.symm.trans q3
  have hselP : selectMethod e.platform s.vm cellB.cls mk = .method mk := by rw [Launch.admits_selectMethod X.admits]; exact q4
  obtain ⟨vm₁, X₁, hstep₁⟩ := X.invokevirtual hx hown hlink hnamed hmethM hstM hkP hkPi hy (a := b) (cell := cellB) (by rw [hT]; exact hcell) (fun z h => by rw [h] at hobj; cases hobj) hselP hmethM habM hkP hkPi (g := F0 m pc ls (As.reverse ++ .ref b :: rest)) rfl (argsL := As) (rest := rest) (hlen _ hsigM) rfl hdg
  obtain ⟨v, ⟨BU, Bl, Bc, Bs⟩, X', hpost, hsteps⟩ := hK m meth c ⟨T.setVm vm₁, locs, cells, slots⟩ { F0 m pc ls (As.reverse ++ .ref b :: rest) with stack := rest } (.invokevirtual k) mk (Value.ref b :: As).toArray X₁ rfl (hls.trans hml.symm) hdg (lv_room hW8) (X₁.named hnamed) ⟨hf.1, hf.2, hpre _ hT X₁.warmed⟩
  obtain ⟨⟨ce, c1, c2, c3, c4⟩, k1, k2, k3, k4⟩ := hpost
  dsimp only [Pt.U, Pt.locs, Pt.cells, Pt.slots] at X' k1 k2 k3 k4 c1 c3 hsteps
  subst k2; subst k3; subst k4
  have hfc : s.vm.findClass "java/util/NoSuchElementException" = some ce.cls := by
    rw [← X₁.warmed.alike.findClass]
    exact c3
  obtain ⟨d1, d2, hd1, hd2, hasg⟩ := Cond.castable_spec hcast
  cases Option.some.inj (hd1.symm.trans hfc)
  cases Option.some.inj (hd2.symm.trans hfc)
  obtain ⟨hrc, hk0⟩ := Jvm.Stand.catches_of_link X' hown (x := ⟨sp, ep, hp, ct⟩) hct hclink hfc hasg
  have hcome : Steps p.tables e below (T.setTop (F0 m pc ls (As.reverse ++ .ref b :: rest))) ((BU.setTop { F0 m pc ls (As.reverse ++ .ref b :: rest) with stack := rest }).pushFrame (.throwing v)) := hstep₁ _ fun acts => by rw [doInvoke_state]; exact hsteps
  obtain ⟨vm2, X2, st2⟩ := Jvm.Stand.thenCaughtThrough X' v (g := { F0 m pc ls (As.reverse ++ .ref b :: rest) with stack := rest }) rfl hcome c1 c2 hk0 [] ⟨sp, ep, hp, ct⟩ [] htab (fun y h => by cases h) (by simp [covers, F0, hcov.1, hcov.2]) hrc
  obtain ⟨t, a1, b1⟩ := kk v BU.heap (fun q cq h => k1 q cq (by rw [← hT] at h; exact h)) (BU.setVm vm2) rfl X2
  exact ⟨t, st2.trans a1, b1⟩
end EXC
