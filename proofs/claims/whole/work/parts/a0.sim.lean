/-! A ROW AN INSTRUCTION: where the machine goes on, the bytecode goes on. -/
def nd_rm (M : Nat) : Room := { frames := M, cells := 0, slots := 0, locals := 64 * M }
def nd_ws (M : Nat) : List Cond := Cond.code (nc_y M) (nc_b M) (nc_mL M) (nc_rt (nc_rk M)) :: nc_tb
def nd_Str (ad : Nat → Nat → Nat) (A : Nat → Prop) (U : State) (H : Heap) : Prop := vk_R "NewsCows$Tape" 88 ";<=>()" (ad 90 0) U ∧ (vk_S 1 [6] [[59, 60, 61, 62, 40, 41]] (fun _ => ad 90 0) (fun _ => ad 91 0) A U H ∧ va_Z "java/lang/String" "COMPACT_STRINGS" "Z" (.int 1) A U H) ∧ ∀ e ∈ nc_nT, va_Nw (nc_nW e) U
def nd_Pre (D : va_G) (cA : Nat → ClassId) (ad : Nat → Nat → Nat) (sz : Nat) (w : nc_H) (U : State) : Prop := U.heap.size = sz ∧ va_P D nc_cl (nc_W ad cA w) U.heap ∧ va_K D nc_cl (nc_tys cA) U ∧ va_D (fun _ => True) (nc_W ad cA w) ∧ nd_Str ad (va_A (nc_W ad cA w) sz) U U.heap
def nd_B (D : va_G) (cA : Nat → ClassId) (ad : Nat → Nat → Nat) (A : Nat → Prop) (w : nc_H) (t : State) : Prop := va_P D nc_cl (nc_W ad cA w) t.heap ∧ va_K D nc_cl (nc_tys cA) t ∧ va_D A (nc_W ad cA w)
def nd_Q (D : va_G) (cA : Nat → ClassId) (ad : Nat → Nat → Nat) (A : Nat → Prop) (r : nc_R) : Array Value → State → Outcome → State → Prop := match r.1 with
  | none => va_Qv (fun _ : Unit => True) (fun _ t => nd_B D cA ad A r.2 t) A
  | some (.inl x) => va_Qi (fun y (_ : Unit) => y = x) (fun _ t => nd_B D cA ad A r.2 t) A
  | some (.inr (.inl x)) => va_Ql (fun y (_ : Unit) => y = x) (fun _ t => nd_B D cA ad A r.2 t) A
  | some (.inr (.inr _)) => fun _ _ _ _ => False
/-- method M's contract at what the machine gives -/
def nd_Con (l : Launch) (M : Nat) (as : List nc_V) (w : nc_H) (r : nc_R) : Prop := ∀ (D : va_G) (cA : Nat → ClassId) (ad : Nat → Nat → Nat) (sz : Nat), Met l (nc_y M) (nd_ws M) (nd_rm M) (va_Pc (as.map (nc_v ad)) (nd_Pre D cA ad sz w)) (nd_Q D cA ad (va_A (nc_W ad cA w) sz) r) 0 0 (va_A (nc_W ad cA w) sz)
/-- the contract of ";<=>()".indexOf -/
def nd_IdxC (l : Launch) : Prop := ∀ (a v sz : Nat) (x : Int32) (A : Nat → Prop), Met l nc_idx (Cond.code nc_idx cJ0_indexOf_0f7a4 2 (some .int) :: nc_tb) { frames := 20, cells := 0, slots := 0, locals := 1000 } (va_Pc [.ref a, .int x] (fun U => U.heap.size = sz ∧ vk_S 1 [6] [[59, 60, 61, 62, 40, 41]] (fun _ => a) (fun _ => v) A U U.heap ∧ va_Z "java/lang/String" "COMPACT_STRINGS" "Z" (.int 1) A U U.heap)) (va_Qi (fun y (_ : Unit) => y = nc_sig x) (fun _ _ => True) (fun _ => False)) 0 0 (fun _ => False)
section SIM
variable {p : Program} {l : Launch} {e : Env} {R : Room} {s : State} {m : MethodId} {args : Array Value} {below : List Frame} {meth : Method} {c : Code} {D : va_G} {cA : Nat → ClassId} {ad : Nat → Nat → Nat} {A : Nat → Prop} {M : Nat}
  {call : Nat → List nc_V → nc_H → Option nc_R} {pc : Nat} {L : nc_L} {st : List nc_V} {w : nc_H} {κ : nc_K} {r : nc_R}
def nd_Cx (p : Program) (R : Room) (s : State) (m : MethodId) (args : Array Value) (meth : Method) (c : Code) (D : va_G) (cA : Nat → ClassId) (ad : Nat → Nat → Nat) (A : Nat → Prop) (M : Nat) : Prop :=
  p.tables.exec = Jvm.exec ∧ c.code = nc_b M ∧ c.maxLocals = nc_mL M ∧ s.vm.findClass (nc_cn (nc_own M)) = some m.cls ∧ (∀ w ∈ nc_tb, w.before args s = true) ∧ va_K D nc_cl (nc_tys cA) s ∧ (∀ q, s.heap.size ≤ q → A q) ∧ M < nc_many ∧ R = nd_rm M ∧ nd_Str ad A s s.heap ∧ meth.locks = false ∧ meth.sig.returnType = nc_rt (nc_rk M)
def nd_G (p : Program) (l : Launch) (e : Env) (R : Room) (s : State) (m : MethodId) (args : Array Value) (below : List Frame) (meth : Method) (c : Code) (D : va_G) (cA : Nat → ClassId) (ad : Nat → Nat → Nat) (A : Nat → Prop) (M : Nat) (r : nc_R) (pc : Nat) (L : nc_L) (st : List nc_V) (w : nc_H) : Prop :=
  ∀ (ls : Array Slot) (H : Heap) (locs : List Loc), lv_has ls (nc_mL M) (nc_lv ad 0 L) → nc_Lok (nc_mL M) L → nc_Sok st → va_P D nc_cl (nc_W ad cA w) H → va_D A (nc_W ad cA w) → va_S A s.heap H locs →
    W p l e R s m args below meth c H locs 0 0 (MQ below (nd_Q D cA ad A r) args s 0 0 A) (F0 m pc ls (st.map (nc_v ad)))
theorem nd_s_iadd (C : nd_Cx p R s m args meth c D cA ad A M) (hk : ∀ pc L st w, κ pc L st w = some r → nd_G p l e R s m args below meth c D cA ad A M r pc L st w)  (hd : decode (nc_b M) pc = .ok (.iadd, 1)) (h : nc_ex call M (.iadd) pc L st w κ = some r) : nd_G p l e R s m args below meth c D cA ad A M r pc L st w := by
  intro ls H locs hl hL hS hP hD hV
  simp only [nc_ex] at h
  split at h
  next y x r =>
    exact lv_iadd C.1 C.2.1 hd (hk _ _ _ _ h ls H locs hl hL (nc_so_c trivial (nc_so_t (nc_so_t hS))) hP hD hV)
  next => cases h
theorem nd_s_isub (C : nd_Cx p R s m args meth c D cA ad A M) (hk : ∀ pc L st w, κ pc L st w = some r → nd_G p l e R s m args below meth c D cA ad A M r pc L st w)  (hd : decode (nc_b M) pc = .ok (.isub, 1)) (h : nc_ex call M (.isub) pc L st w κ = some r) : nd_G p l e R s m args below meth c D cA ad A M r pc L st w := by
  intro ls H locs hl hL hS hP hD hV
  simp only [nc_ex] at h
  split at h
  next y x r =>
    exact lv_isub C.1 C.2.1 hd (hk _ _ _ _ h ls H locs hl hL (nc_so_c trivial (nc_so_t (nc_so_t hS))) hP hD hV)
  next => cases h
theorem nd_s_imul (C : nd_Cx p R s m args meth c D cA ad A M) (hk : ∀ pc L st w, κ pc L st w = some r → nd_G p l e R s m args below meth c D cA ad A M r pc L st w)  (hd : decode (nc_b M) pc = .ok (.imul, 1)) (h : nc_ex call M (.imul) pc L st w κ = some r) : nd_G p l e R s m args below meth c D cA ad A M r pc L st w := by
  intro ls H locs hl hL hS hP hD hV
  simp only [nc_ex] at h
  split at h
  next y x r =>
    exact lv_imul C.1 C.2.1 hd (hk _ _ _ _ h ls H locs hl hL (nc_so_c trivial (nc_so_t (nc_so_t hS))) hP hD hV)
  next => cases h
theorem nd_s_iand (C : nd_Cx p R s m args meth c D cA ad A M) (hk : ∀ pc L st w, κ pc L st w = some r → nd_G p l e R s m args below meth c D cA ad A M r pc L st w)  (hd : decode (nc_b M) pc = .ok (.iand, 1)) (h : nc_ex call M (.iand) pc L st w κ = some r) : nd_G p l e R s m args below meth c D cA ad A M r pc L st w := by
  intro ls H locs hl hL hS hP hD hV
  simp only [nc_ex] at h
  split at h
  next y x r =>
    exact lv_iand C.1 C.2.1 hd (hk _ _ _ _ h ls H locs hl hL (nc_so_c trivial (nc_so_t (nc_so_t hS))) hP hD hV)
  next => cases h
theorem nd_s_ior (C : nd_Cx p R s m args meth c D cA ad A M) (hk : ∀ pc L st w, κ pc L st w = some r → nd_G p l e R s m args below meth c D cA ad A M r pc L st w)  (hd : decode (nc_b M) pc = .ok (.ior, 1)) (h : nc_ex call M (.ior) pc L st w κ = some r) : nd_G p l e R s m args below meth c D cA ad A M r pc L st w := by
  intro ls H locs hl hL hS hP hD hV
  simp only [nc_ex] at h
  split at h
  next y x r =>
    exact lv_ior C.1 C.2.1 hd (hk _ _ _ _ h ls H locs hl hL (nc_so_c trivial (nc_so_t (nc_so_t hS))) hP hD hV)
  next => cases h
theorem nd_s_ixor (C : nd_Cx p R s m args meth c D cA ad A M) (hk : ∀ pc L st w, κ pc L st w = some r → nd_G p l e R s m args below meth c D cA ad A M r pc L st w)  (hd : decode (nc_b M) pc = .ok (.ixor, 1)) (h : nc_ex call M (.ixor) pc L st w κ = some r) : nd_G p l e R s m args below meth c D cA ad A M r pc L st w := by
  intro ls H locs hl hL hS hP hD hV
  simp only [nc_ex] at h
  split at h
  next y x r =>
    exact lv_ixor C.1 C.2.1 hd (hk _ _ _ _ h ls H locs hl hL (nc_so_c trivial (nc_so_t (nc_so_t hS))) hP hD hV)
  next => cases h
theorem nd_s_ishl (C : nd_Cx p R s m args meth c D cA ad A M) (hk : ∀ pc L st w, κ pc L st w = some r → nd_G p l e R s m args below meth c D cA ad A M r pc L st w)  (hd : decode (nc_b M) pc = .ok (.ishl, 1)) (h : nc_ex call M (.ishl) pc L st w κ = some r) : nd_G p l e R s m args below meth c D cA ad A M r pc L st w := by
  intro ls H locs hl hL hS hP hD hV
  simp only [nc_ex] at h
  split at h
  next y x r =>
    exact lv_ishl C.1 C.2.1 hd (hk _ _ _ _ h ls H locs hl hL (nc_so_c trivial (nc_so_t (nc_so_t hS))) hP hD hV)
  next => cases h
theorem nd_s_ishr (C : nd_Cx p R s m args meth c D cA ad A M) (hk : ∀ pc L st w, κ pc L st w = some r → nd_G p l e R s m args below meth c D cA ad A M r pc L st w)  (hd : decode (nc_b M) pc = .ok (.ishr, 1)) (h : nc_ex call M (.ishr) pc L st w κ = some r) : nd_G p l e R s m args below meth c D cA ad A M r pc L st w := by
  intro ls H locs hl hL hS hP hD hV
  simp only [nc_ex] at h
  split at h
  next y x r =>
    exact lv_ishr C.1 C.2.1 hd (hk _ _ _ _ h ls H locs hl hL (nc_so_c trivial (nc_so_t (nc_so_t hS))) hP hD hV)
  next => cases h
theorem nd_s_iushr (C : nd_Cx p R s m args meth c D cA ad A M) (hk : ∀ pc L st w, κ pc L st w = some r → nd_G p l e R s m args below meth c D cA ad A M r pc L st w)  (hd : decode (nc_b M) pc = .ok (.iushr, 1)) (h : nc_ex call M (.iushr) pc L st w κ = some r) : nd_G p l e R s m args below meth c D cA ad A M r pc L st w := by
  intro ls H locs hl hL hS hP hD hV
  simp only [nc_ex] at h
  split at h
  next y x r =>
    exact lv_iushr C.1 C.2.1 hd rfl (hk _ _ _ _ h ls H locs hl hL (nc_so_c trivial (nc_so_t (nc_so_t hS))) hP hD hV)
  next => cases h
theorem nd_s_idiv (C : nd_Cx p R s m args meth c D cA ad A M) (hk : ∀ pc L st w, κ pc L st w = some r → nd_G p l e R s m args below meth c D cA ad A M r pc L st w)  (hd : decode (nc_b M) pc = .ok (.idiv, 1)) (h : nc_ex call M (.idiv) pc L st w κ = some r) : nd_G p l e R s m args below meth c D cA ad A M r pc L st w := by
  intro ls H locs hl hL hS hP hD hV
  simp only [nc_ex] at h
  split at h
  next y x r =>
    by_cases hz : y = 0
    · rw [if_pos hz] at h
      cases h
    · rw [if_neg hz] at h
      exact lv_idiv C.1 C.2.1 hd hz (hk _ _ _ _ h ls H locs hl hL (nc_so_c trivial (nc_so_t (nc_so_t hS))) hP hD hV)
  next => cases h
theorem nd_s_irem (C : nd_Cx p R s m args meth c D cA ad A M) (hk : ∀ pc L st w, κ pc L st w = some r → nd_G p l e R s m args below meth c D cA ad A M r pc L st w)  (hd : decode (nc_b M) pc = .ok (.irem, 1)) (h : nc_ex call M (.irem) pc L st w κ = some r) : nd_G p l e R s m args below meth c D cA ad A M r pc L st w := by
  intro ls H locs hl hL hS hP hD hV
  simp only [nc_ex] at h
  split at h
  next y x r =>
    by_cases hz : y = 0
    · rw [if_pos hz] at h
      cases h
    · rw [if_neg hz] at h
      exact lv_irem C.1 C.2.1 hd hz (hk _ _ _ _ h ls H locs hl hL (nc_so_c trivial (nc_so_t (nc_so_t hS))) hP hD hV)
  next => cases h
theorem nd_s_ineg (C : nd_Cx p R s m args meth c D cA ad A M) (hk : ∀ pc L st w, κ pc L st w = some r → nd_G p l e R s m args below meth c D cA ad A M r pc L st w)  (hd : decode (nc_b M) pc = .ok (.ineg, 1)) (h : nc_ex call M (.ineg) pc L st w κ = some r) : nd_G p l e R s m args below meth c D cA ad A M r pc L st w := by
  intro ls H locs hl hL hS hP hD hV
  simp only [nc_ex] at h
  split at h
  next x r =>
    exact lv_ineg C.1 C.2.1 hd (hk _ _ _ _ h ls H locs hl hL (nc_so_c trivial (nc_so_t hS)) hP hD hV)
  next => cases h
theorem nd_s_i2l (C : nd_Cx p R s m args meth c D cA ad A M) (hk : ∀ pc L st w, κ pc L st w = some r → nd_G p l e R s m args below meth c D cA ad A M r pc L st w)  (hd : decode (nc_b M) pc = .ok (.i2l, 1)) (h : nc_ex call M (.i2l) pc L st w κ = some r) : nd_G p l e R s m args below meth c D cA ad A M r pc L st w := by
  intro ls H locs hl hL hS hP hD hV
  simp only [nc_ex] at h
  split at h
  next x r =>
    exact lv_i2l C.1 C.2.1 hd rfl (hk _ _ _ _ h ls H locs hl hL (nc_so_c trivial (nc_so_t hS)) hP hD hV)
  next => cases h
theorem nd_s_i2b (C : nd_Cx p R s m args meth c D cA ad A M) (hk : ∀ pc L st w, κ pc L st w = some r → nd_G p l e R s m args below meth c D cA ad A M r pc L st w)  (hd : decode (nc_b M) pc = .ok (.i2b, 1)) (h : nc_ex call M (.i2b) pc L st w κ = some r) : nd_G p l e R s m args below meth c D cA ad A M r pc L st w := by
  intro ls H locs hl hL hS hP hD hV
  simp only [nc_ex] at h
  split at h
  next x r =>
    exact lv_i2b C.1 C.2.1 hd rfl (hk _ _ _ _ h ls H locs hl hL (nc_so_c trivial (nc_so_t hS)) hP hD hV)
  next => cases h
theorem nd_s_i2c (C : nd_Cx p R s m args meth c D cA ad A M) (hk : ∀ pc L st w, κ pc L st w = some r → nd_G p l e R s m args below meth c D cA ad A M r pc L st w)  (hd : decode (nc_b M) pc = .ok (.i2c, 1)) (h : nc_ex call M (.i2c) pc L st w κ = some r) : nd_G p l e R s m args below meth c D cA ad A M r pc L st w := by
  intro ls H locs hl hL hS hP hD hV
  simp only [nc_ex] at h
  split at h
  next x r =>
    exact lv_i2c C.1 C.2.1 hd rfl (hk _ _ _ _ h ls H locs hl hL (nc_so_c trivial (nc_so_t hS)) hP hD hV)
  next => cases h
theorem nd_s_lshl (C : nd_Cx p R s m args meth c D cA ad A M) (hk : ∀ pc L st w, κ pc L st w = some r → nd_G p l e R s m args below meth c D cA ad A M r pc L st w)  (hd : decode (nc_b M) pc = .ok (.lshl, 1)) (h : nc_ex call M (.lshl) pc L st w κ = some r) : nd_G p l e R s m args below meth c D cA ad A M r pc L st w := by
  intro ls H locs hl hL hS hP hD hV
  simp only [nc_ex] at h
  split at h
  next y x r =>
    exact lv_lshl C.1 C.2.1 hd rfl (hk _ _ _ _ h ls H locs hl hL (nc_so_c trivial (nc_so_t (nc_so_t hS))) hP hD hV)
  next => cases h
theorem nd_s_lor (C : nd_Cx p R s m args meth c D cA ad A M) (hk : ∀ pc L st w, κ pc L st w = some r → nd_G p l e R s m args below meth c D cA ad A M r pc L st w)  (hd : decode (nc_b M) pc = .ok (.lor, 1)) (h : nc_ex call M (.lor) pc L st w κ = some r) : nd_G p l e R s m args below meth c D cA ad A M r pc L st w := by
  intro ls H locs hl hL hS hP hD hV
  simp only [nc_ex] at h
  split at h
  next y x r =>
    exact lv_lor C.1 C.2.1 hd (hk _ _ _ _ h ls H locs hl hL (nc_so_c trivial (nc_so_t (nc_so_t hS))) hP hD hV)
  next => cases h
theorem nd_s_lcmp (C : nd_Cx p R s m args meth c D cA ad A M) (hk : ∀ pc L st w, κ pc L st w = some r → nd_G p l e R s m args below meth c D cA ad A M r pc L st w)  (hd : decode (nc_b M) pc = .ok (.lcmp, 1)) (h : nc_ex call M (.lcmp) pc L st w κ = some r) : nd_G p l e R s m args below meth c D cA ad A M r pc L st w := by
  intro ls H locs hl hL hS hP hD hV
  simp only [nc_ex] at h
  split at h
  next y x r =>
    exact W.lcmp C.1 C.2.1 hd (hk _ _ _ _ h ls H locs hl hL (nc_so_c trivial (nc_so_t (nc_so_t hS))) hP hD hV)
  next => cases h
theorem nd_s_iconst (C : nd_Cx p R s m args meth c D cA ad A M) (hk : ∀ pc L st w, κ pc L st w = some r → nd_G p l e R s m args below meth c D cA ad A M r pc L st w) {n : Int} (hd : decode (nc_b M) pc = .ok (.iconst n, 1)) (h : nc_ex call M (.iconst n) pc L st w κ = some r) : nd_G p l e R s m args below meth c D cA ad A M r pc L st w := by
  intro ls H locs hl hL hS hP hD hV
  simp only [nc_ex] at h
  exact lv_iconst C.1 C.2.1 hd rfl (hk _ _ _ _ h ls H locs hl hL (nc_so_c trivial hS) hP hD hV)
theorem nd_s_bipush (C : nd_Cx p R s m args meth c D cA ad A M) (hk : ∀ pc L st w, κ pc L st w = some r → nd_G p l e R s m args below meth c D cA ad A M r pc L st w) {n : Int} (hd : decode (nc_b M) pc = .ok (.bipush n, 2)) (h : nc_ex call M (.bipush n) pc L st w κ = some r) : nd_G p l e R s m args below meth c D cA ad A M r pc L st w := by
  intro ls H locs hl hL hS hP hD hV
  simp only [nc_ex] at h
  exact lv_bipush C.1 C.2.1 hd rfl (hk _ _ _ _ h ls H locs hl hL (nc_so_c trivial hS) hP hD hV)
theorem nd_s_sipush (C : nd_Cx p R s m args meth c D cA ad A M) (hk : ∀ pc L st w, κ pc L st w = some r → nd_G p l e R s m args below meth c D cA ad A M r pc L st w) {n : Int} (hd : decode (nc_b M) pc = .ok (.sipush n, 3)) (h : nc_ex call M (.sipush n) pc L st w κ = some r) : nd_G p l e R s m args below meth c D cA ad A M r pc L st w := by
  intro ls H locs hl hL hS hP hD hV
  simp only [nc_ex] at h
  exact lv_sipush C.1 C.2.1 hd rfl (hk _ _ _ _ h ls H locs hl hL (nc_so_c trivial hS) hP hD hV)
theorem nd_s_lconst (C : nd_Cx p R s m args meth c D cA ad A M) (hk : ∀ pc L st w, κ pc L st w = some r → nd_G p l e R s m args below meth c D cA ad A M r pc L st w) {n : Fin 2} (hd : decode (nc_b M) pc = .ok (.lconst n, 1)) (h : nc_ex call M (.lconst n) pc L st w κ = some r) : nd_G p l e R s m args below meth c D cA ad A M r pc L st w := by
  intro ls H locs hl hL hS hP hD hV
  simp only [nc_ex] at h
  exact lv_lconst C.1 C.2.1 hd rfl (hk _ _ _ _ h ls H locs hl hL (nc_so_c trivial hS) hP hD hV)
theorem nd_look2_mem {α : Type} {i j : Nat} {x : α} : ∀ {l : List ((Nat × Nat) × α)}, nc_look2 i j l = some x → ((i, j), x) ∈ l
  | [], h => by cases h
  | q :: t, h => by
    unfold nc_look2 at h
    rcases hb : (Nat.beq q.1.1 i && Nat.beq q.1.2 j) with _ | _
    · rw [hb] at h
      exact List.mem_cons_of_mem _ (nd_look2_mem h)
    · rw [hb] at h
      have e := Option.some.inj h
      rw [Bool.and_eq_true] at hb
      have e1 := Nat.eq_of_beq_eq_true hb.1
      have e2 := Nat.eq_of_beq_eq_true hb.2
      rcases q with ⟨⟨a, b⟩, v⟩
      subst e1; subst e2; subst e
      exact List.mem_cons_self
theorem nd_ci_w {ow k : Nat} {x : Int32} (h : nc_look2 ow k nc_ciT = some x) : Cond.constant (nc_cn ow) k x ∈ nc_tb := nc_ci_all _ (nd_look2_mem h)
theorem nd_cl_w {ow k : Nat} {x : Int64} (h : nc_look2 ow k nc_clT = some x) : Cond.constantLong (nc_cn ow) k x ∈ nc_tb := nc_cl_all _ (nd_look2_mem h)
theorem nd_s_ldc (C : nd_Cx p R s m args meth c D cA ad A M) (hk : ∀ pc L st w, κ pc L st w = some r → nd_G p l e R s m args below meth c D cA ad A M r pc L st w) {k : Nat} (hd : decode (nc_b M) pc = .ok (.ldc k, 2)) (h : nc_ex call M (.ldc k) pc L st w κ = some r) : nd_G p l e R s m args below meth c D cA ad A M r pc L st w := by
  intro ls H locs hl hL hS hP hD hV
  simp only [nc_ex] at h
  split at h
  next x hx =>
    exact lv_ldc C.1 C.2.1 C.2.2.2.1 (C.2.2.2.2.1 _ (nd_ci_w hx)) hd (hk _ _ _ _ h ls H locs hl hL (nc_so_c trivial hS) hP hD hV)
  next =>
    rcases hb : (Nat.beq (nc_own M) 10 && Nat.beq k 88) with _ | _
    · rw [hb] at h
      cases h
    · rw [hb] at h
      rw [Bool.and_eq_true] at hb
      have e1 := Nat.eq_of_beq_eq_true hb.1
      have e2 := Nat.eq_of_beq_eq_true hb.2
      subst e2
      refine va_ldcS C.1 C.2.1 (own := "NewsCows$Tape") (q := ad 90 0) ?_ C.2.2.2.2.2.2.2.2.2.1.1 hd (hk _ _ _ _ h ls H locs hl hL (nc_so_c (Or.inr rfl) hS) hP hD hV)
      have ho := C.2.2.2.1
      rw [e1] at ho
      exact ho
theorem nd_s_ldc_w (C : nd_Cx p R s m args meth c D cA ad A M) (hk : ∀ pc L st w, κ pc L st w = some r → nd_G p l e R s m args below meth c D cA ad A M r pc L st w) {k : Nat} (hd : decode (nc_b M) pc = .ok (.ldc_w k, 3)) (h : nc_ex call M (.ldc_w k) pc L st w κ = some r) : nd_G p l e R s m args below meth c D cA ad A M r pc L st w := by
  intro ls H locs hl hL hS hP hD hV
  simp only [nc_ex] at h
  split at h
  next x hx =>
    exact lv_ldcw C.1 C.2.1 C.2.2.2.1 (C.2.2.2.2.1 _ (nd_ci_w hx)) hd (hk _ _ _ _ h ls H locs hl hL (nc_so_c trivial hS) hP hD hV)
  next => cases h
theorem nd_s_ldc2_w (C : nd_Cx p R s m args meth c D cA ad A M) (hk : ∀ pc L st w, κ pc L st w = some r → nd_G p l e R s m args below meth c D cA ad A M r pc L st w) {k : Nat} (hd : decode (nc_b M) pc = .ok (.ldc2_w k, 3)) (h : nc_ex call M (.ldc2_w k) pc L st w κ = some r) : nd_G p l e R s m args below meth c D cA ad A M r pc L st w := by
  intro ls H locs hl hL hS hP hD hV
  simp only [nc_ex] at h
  split at h
  next x hx =>
    exact lv_ldc2 C.1 C.2.1 C.2.2.2.1 (C.2.2.2.2.1 _ (nd_cl_w hx)) hd (hk _ _ _ _ h ls H locs hl hL (nc_so_c trivial hS) hP hD hV)
  next => cases h
theorem nd_at_l {ls : Array Slot} {n k : Nat} {v : nc_V} (hl : lv_has ls n (nc_lv ad 0 L)) (h : nc_get L k = some v) : ls[k]? = some (.val (nc_v ad v)) := by
  have h1 := nc_lv_of (ad := ad) (i := 0) h
  rw [Nat.zero_add] at h1
  exact hl.2.2 _ h1
theorem nd_s_iload_n (C : nd_Cx p R s m args meth c D cA ad A M) (hk : ∀ pc L st w, κ pc L st w = some r → nd_G p l e R s m args below meth c D cA ad A M r pc L st w) {k : Fin 4} (hd : decode (nc_b M) pc = .ok (.iload_n k, 1)) (h : nc_ex call M (.iload_n k) pc L st w κ = some r) : nd_G p l e R s m args below meth c D cA ad A M r pc L st w := by
  intro ls H locs hl hL hS hP hD hV
  simp only [nc_ex] at h
  split at h
  next x hg =>
    exact lv_iload_n C.1 C.2.1 hd rfl (nd_at_l hl hg) (hk _ _ _ _ h ls H locs hl hL (nc_so_c trivial hS) hP hD hV)
  next => cases h
theorem nd_s_iload (C : nd_Cx p R s m args meth c D cA ad A M) (hk : ∀ pc L st w, κ pc L st w = some r → nd_G p l e R s m args below meth c D cA ad A M r pc L st w) {k : Nat} (hd : decode (nc_b M) pc = .ok (.iload k, 2)) (h : nc_ex call M (.iload k) pc L st w κ = some r) : nd_G p l e R s m args below meth c D cA ad A M r pc L st w := by
  intro ls H locs hl hL hS hP hD hV
  simp only [nc_ex] at h
  split at h
  next x hg =>
    exact lv_iload C.1 C.2.1 hd (nd_at_l hl hg) (hk _ _ _ _ h ls H locs hl hL (nc_so_c trivial hS) hP hD hV)
  next => cases h
theorem nd_s_lload_n (C : nd_Cx p R s m args meth c D cA ad A M) (hk : ∀ pc L st w, κ pc L st w = some r → nd_G p l e R s m args below meth c D cA ad A M r pc L st w) {k : Fin 4} (hd : decode (nc_b M) pc = .ok (.lload_n k, 1)) (h : nc_ex call M (.lload_n k) pc L st w κ = some r) : nd_G p l e R s m args below meth c D cA ad A M r pc L st w := by
  intro ls H locs hl hL hS hP hD hV
  simp only [nc_ex] at h
  split at h
  next x hg =>
    exact lv_lload_n C.1 C.2.1 hd rfl (nd_at_l hl hg) (hk _ _ _ _ h ls H locs hl hL (nc_so_c trivial hS) hP hD hV)
  next => cases h
theorem nd_s_lload (C : nd_Cx p R s m args meth c D cA ad A M) (hk : ∀ pc L st w, κ pc L st w = some r → nd_G p l e R s m args below meth c D cA ad A M r pc L st w) {k : Nat} (hd : decode (nc_b M) pc = .ok (.lload k, 2)) (h : nc_ex call M (.lload k) pc L st w κ = some r) : nd_G p l e R s m args below meth c D cA ad A M r pc L st w := by
  intro ls H locs hl hL hS hP hD hV
  simp only [nc_ex] at h
  split at h
  next x hg =>
    exact lv_lload C.1 C.2.1 hd (nd_at_l hl hg) (hk _ _ _ _ h ls H locs hl hL (nc_so_c trivial hS) hP hD hV)
  next => cases h
theorem nd_s_aload_n (C : nd_Cx p R s m args meth c D cA ad A M) (hk : ∀ pc L st w, κ pc L st w = some r → nd_G p l e R s m args below meth c D cA ad A M r pc L st w) {k : Fin 4} (hd : decode (nc_b M) pc = .ok (.aload_n k, 1)) (h : nc_ex call M (.aload_n k) pc L st w κ = some r) : nd_G p l e R s m args below meth c D cA ad A M r pc L st w := by
  intro ls H locs hl hL hS hP hD hV
  simp only [nc_ex] at h
  split at h
  next x hg =>
    exact lv_aload_n C.1 C.2.1 hd rfl (nd_at_l hl hg) (hk _ _ _ _ h ls H locs hl hL (nc_so_c (hL.2 _ _ hg) hS) hP hD hV)
  next => cases h
theorem nd_s_aload (C : nd_Cx p R s m args meth c D cA ad A M) (hk : ∀ pc L st w, κ pc L st w = some r → nd_G p l e R s m args below meth c D cA ad A M r pc L st w) {k : Nat} (hd : decode (nc_b M) pc = .ok (.aload k, 2)) (h : nc_ex call M (.aload k) pc L st w κ = some r) : nd_G p l e R s m args below meth c D cA ad A M r pc L st w := by
  intro ls H locs hl hL hS hP hD hV
  simp only [nc_ex] at h
  split at h
  next x hg =>
    exact lv_aload C.1 C.2.1 hd (nd_at_l hl hg) (hk _ _ _ _ h ls H locs hl hL (nc_so_c (hL.2 _ _ hg) hS) hP hD hV)
  next => cases h
theorem nd_s_istore_n (C : nd_Cx p R s m args meth c D cA ad A M) (hk : ∀ pc L st w, κ pc L st w = some r → nd_G p l e R s m args below meth c D cA ad A M r pc L st w) {k : Fin 4} (hn : k.val < nc_mL M) (hd : decode (nc_b M) pc = .ok (.istore_n k, 1)) (h : nc_ex call M (.istore_n k) pc L st w κ = some r) : nd_G p l e R s m args below meth c D cA ad A M r pc L st w := by
  intro ls H locs hl hL hS hP hD hV
  simp only [nc_ex] at h
  split at h
  next x r =>
    exact lv_istore_n C.1 C.2.1 hd rfl hl hn rfl (fun ls hl => hk _ _ _ _ h ls H locs (nc_lv_put1 hl) (nc_lo_put1 trivial hL) (nc_so_t hS) hP hD hV)
  next => cases h
theorem nd_s_istore (C : nd_Cx p R s m args meth c D cA ad A M) (hk : ∀ pc L st w, κ pc L st w = some r → nd_G p l e R s m args below meth c D cA ad A M r pc L st w) {k : Nat} (hn : k < nc_mL M) (hd : decode (nc_b M) pc = .ok (.istore k, 2)) (h : nc_ex call M (.istore k) pc L st w κ = some r) : nd_G p l e R s m args below meth c D cA ad A M r pc L st w := by
  intro ls H locs hl hL hS hP hD hV
  simp only [nc_ex] at h
  split at h
  next x r =>
    exact lv_istore C.1 C.2.1 hd hl hn rfl (fun ls hl => hk _ _ _ _ h ls H locs (nc_lv_put1 hl) (nc_lo_put1 trivial hL) (nc_so_t hS) hP hD hV)
  next => cases h
theorem nd_s_astore_n (C : nd_Cx p R s m args meth c D cA ad A M) (hk : ∀ pc L st w, κ pc L st w = some r → nd_G p l e R s m args below meth c D cA ad A M r pc L st w) {k : Fin 4} (hn : k.val < nc_mL M) (hd : decode (nc_b M) pc = .ok (.astore_n k, 1)) (h : nc_ex call M (.astore_n k) pc L st w κ = some r) : nd_G p l e R s m args below meth c D cA ad A M r pc L st w := by
  intro ls H locs hl hL hS hP hD hV
  simp only [nc_ex] at h
  split at h
  next x r =>
    exact lv_astore_n C.1 C.2.1 hd rfl hl hn rfl (fun ls hl => hk _ _ _ _ h ls H locs (nc_lv_put1 hl) (nc_lo_put1 (nc_so_h hS) hL) (nc_so_t hS) hP hD hV)
  next => cases h
theorem nd_s_astore (C : nd_Cx p R s m args meth c D cA ad A M) (hk : ∀ pc L st w, κ pc L st w = some r → nd_G p l e R s m args below meth c D cA ad A M r pc L st w) {k : Nat} (hn : k < nc_mL M) (hd : decode (nc_b M) pc = .ok (.astore k, 2)) (h : nc_ex call M (.astore k) pc L st w κ = some r) : nd_G p l e R s m args below meth c D cA ad A M r pc L st w := by
  intro ls H locs hl hL hS hP hD hV
  simp only [nc_ex] at h
  split at h
  next x r =>
    exact lv_astore C.1 C.2.1 hd hl hn rfl (fun ls hl => hk _ _ _ _ h ls H locs (nc_lv_put1 hl) (nc_lo_put1 (nc_so_h hS) hL) (nc_so_t hS) hP hD hV)
  next => cases h
theorem nd_s_lstore_n (C : nd_Cx p R s m args meth c D cA ad A M) (hk : ∀ pc L st w, κ pc L st w = some r → nd_G p l e R s m args below meth c D cA ad A M r pc L st w) {k : Fin 4} (hn : k.val + 1 < nc_mL M) (hd : decode (nc_b M) pc = .ok (.lstore_n k, 1)) (h : nc_ex call M (.lstore_n k) pc L st w κ = some r) : nd_G p l e R s m args below meth c D cA ad A M r pc L st w := by
  intro ls H locs hl hL hS hP hD hV
  simp only [nc_ex] at h
  split at h
  next x r =>
    exact lv_lstore_n C.1 C.2.1 hd rfl hl hn rfl (fun ls hl => hk _ _ _ _ h ls H locs (nc_lv_put2 (by rw [hL.1]; exact hn) hl) (nc_lo_put2 hn trivial hL) (nc_so_t hS) hP hD hV)
  next => cases h
theorem nd_s_lstore (C : nd_Cx p R s m args meth c D cA ad A M) (hk : ∀ pc L st w, κ pc L st w = some r → nd_G p l e R s m args below meth c D cA ad A M r pc L st w) {k : Nat} (hn : k + 1 < nc_mL M) (hd : decode (nc_b M) pc = .ok (.lstore k, 2)) (h : nc_ex call M (.lstore k) pc L st w κ = some r) : nd_G p l e R s m args below meth c D cA ad A M r pc L st w := by
  intro ls H locs hl hL hS hP hD hV
  simp only [nc_ex] at h
  split at h
  next x r =>
    exact lv_lstore C.1 C.2.1 hd hl hn rfl (fun ls hl => hk _ _ _ _ h ls H locs (nc_lv_put2 (by rw [hL.1]; exact hn) hl) (nc_lo_put2 hn trivial hL) (nc_so_t hS) hP hD hV)
  next => cases h
theorem nd_s_iinc (C : nd_Cx p R s m args meth c D cA ad A M) (hk : ∀ pc L st w, κ pc L st w = some r → nd_G p l e R s m args below meth c D cA ad A M r pc L st w) {k : Nat} {n : Int} (hn : k < nc_mL M) (hd : decode (nc_b M) pc = .ok (.iinc k n, 3)) (h : nc_ex call M (.iinc k n) pc L st w κ = some r) : nd_G p l e R s m args below meth c D cA ad A M r pc L st w := by
  intro ls H locs hl hL hS hP hD hV
  simp only [nc_ex] at h
  split at h
  next x hg =>
    have h1 := nc_lv_of (ad := ad) (i := 0) hg
    rw [Nat.zero_add] at h1
    obtain ⟨j, hj⟩ := List.getElem?_of_mem h1
    exact lv_iinc C.1 C.2.1 hd hl hj rfl hn rfl (fun ls hl => hk _ _ _ _ h ls H locs (nc_lv_put1 (v := .inl (x + Int32.ofInt n)) hl) (nc_lo_put1 trivial hL) hS hP hD hV)
  next => cases h
theorem nd_s_dup (C : nd_Cx p R s m args meth c D cA ad A M) (hk : ∀ pc L st w, κ pc L st w = some r → nd_G p l e R s m args below meth c D cA ad A M r pc L st w)  (hd : decode (nc_b M) pc = .ok (.dup, 1)) (h : nc_ex call M (.dup) pc L st w κ = some r) : nd_G p l e R s m args below meth c D cA ad A M r pc L st w := by
  intro ls H locs hl hL hS hP hD hV
  simp only [nc_ex] at h
  split at h
  next x r => exact lv_dup C.1 C.2.1 hd rfl (hk _ _ _ _ h ls H locs hl hL (nc_so_c trivial hS) hP hD hV)
  next x r => exact lv_dup C.1 C.2.1 hd rfl (hk _ _ _ _ h ls H locs hl hL (nc_so_c (nc_so_h hS) hS) hP hD hV)
  next => cases h
theorem nd_s_dup2 (C : nd_Cx p R s m args meth c D cA ad A M) (hk : ∀ pc L st w, κ pc L st w = some r → nd_G p l e R s m args below meth c D cA ad A M r pc L st w)  (hd : decode (nc_b M) pc = .ok (.dup2, 1)) (h : nc_ex call M (.dup2) pc L st w κ = some r) : nd_G p l e R s m args below meth c D cA ad A M r pc L st w := by
  intro ls H locs hl hL hS hP hD hV
  simp only [nc_ex] at h
  split at h
  next y x r => exact lv_dup2_11 C.1 C.2.1 hd rfl rfl (hk _ _ _ _ h ls H locs hl hL (nc_so_c trivial (nc_so_c (nc_so_h (nc_so_t hS)) hS)) hP hD hV)
  next => cases h
theorem nd_s_pop (C : nd_Cx p R s m args meth c D cA ad A M) (hk : ∀ pc L st w, κ pc L st w = some r → nd_G p l e R s m args below meth c D cA ad A M r pc L st w)  (hd : decode (nc_b M) pc = .ok (.pop, 1)) (h : nc_ex call M (.pop) pc L st w κ = some r) : nd_G p l e R s m args below meth c D cA ad A M r pc L st w := by
  intro ls H locs hl hL hS hP hD hV
  simp only [nc_ex] at h
  split at h
  next x r => exact lv_pop C.1 C.2.1 hd rfl (hk _ _ _ _ h ls H locs hl hL (nc_so_t hS) hP hD hV)
  next x r => exact lv_pop C.1 C.2.1 hd rfl (hk _ _ _ _ h ls H locs hl hL (nc_so_t hS) hP hD hV)
  next => cases h
theorem nd_jmp_some {off : Int} {f : Nat → Option nc_R} (h : nc_jmp pc off f = some r) : ∃ t : Nat, (pc : Int) + off = (t : Int) ∧ f t = some r := by
  unfold nc_jmp at h
  split at h
  next t ht => exact ⟨t, ht, h⟩
  next => cases h
theorem nd_s_goto (C : nd_Cx p R s m args meth c D cA ad A M) (hk : ∀ pc L st w, κ pc L st w = some r → nd_G p l e R s m args below meth c D cA ad A M r pc L st w) {off : Int} (hd : decode (nc_b M) pc = .ok (.goto off, 3)) (h : nc_ex call M (.goto off) pc L st w κ = some r) : nd_G p l e R s m args below meth c D cA ad A M r pc L st w := by
  intro ls H locs hl hL hS hP hD hV
  simp only [nc_ex] at h
  obtain ⟨t, ht, h⟩ := nd_jmp_some h
  exact lv_goto C.1 C.2.1 hd ht (hk _ _ _ _ h ls H locs hl hL hS hP hD hV)
theorem nd_s_ifnull (C : nd_Cx p R s m args meth c D cA ad A M) (hk : ∀ pc L st w, κ pc L st w = some r → nd_G p l e R s m args below meth c D cA ad A M r pc L st w) {off : Int} (hd : decode (nc_b M) pc = .ok (.ifnull off, 3)) (h : nc_ex call M (.ifnull off) pc L st w κ = some r) : nd_G p l e R s m args below meth c D cA ad A M r pc L st w := by
  intro ls H locs hl hL hS hP hD hV
  simp only [nc_ex] at h
  split at h
  next x r => exact lv_ifnull C.1 C.2.1 hd (hk _ _ _ _ h ls H locs hl hL (nc_so_t hS) hP hD hV)
  next => cases h
theorem nd_s_ifnonnull (C : nd_Cx p R s m args meth c D cA ad A M) (hk : ∀ pc L st w, κ pc L st w = some r → nd_G p l e R s m args below meth c D cA ad A M r pc L st w) {off : Int} (hd : decode (nc_b M) pc = .ok (.ifnonnull off, 3)) (h : nc_ex call M (.ifnonnull off) pc L st w κ = some r) : nd_G p l e R s m args below meth c D cA ad A M r pc L st w := by
  intro ls H locs hl hL hS hP hD hV
  simp only [nc_ex] at h
  split at h
  next x r =>
    obtain ⟨t, ht, h⟩ := nd_jmp_some h
    exact lv_ifnonnull C.1 C.2.1 hd ht (hk _ _ _ _ h ls H locs hl hL (nc_so_t hS) hP hD hV)
  next => cases h
theorem nd_jmp_eq {off : Int} {t : Nat} (ht : (pc : Int) + off = (t : Int)) (f : Nat → Option nc_R) : nc_jmp pc off f = f t := by
  unfold nc_jmp
  rw [ht]
theorem nd_s_ifCond (C : nd_Cx p R s m args meth c D cA ad A M) (hk : ∀ pc L st w, κ pc L st w = some r → nd_G p l e R s m args below meth c D cA ad A M r pc L st w) {cd : ClassFile.Cond} {off : Int} (hj : 0 ≤ (pc : Int) + off) (hd : decode (nc_b M) pc = .ok (.ifCond cd off, 3)) (h : nc_ex call M (.ifCond cd off) pc L st w κ = some r) : nd_G p l e R s m args below meth c D cA ad A M r pc L st w := by
  intro ls H locs hl hL hS hP hD hV
  simp only [nc_ex] at h
  obtain ⟨t, ht⟩ := Int.eq_ofNat_of_zero_le hj
  split at h
  next x r =>
    simp only [nd_jmp_eq ht] at h
    cases cd
    · refine lv_if_eq C.1 C.2.1 (tgt := t) hd ht (fun hc => ?_) (fun hc => ?_)
      · have h := (if_pos hc).symm.trans h
        exact hk _ _ _ _ h ls H locs hl hL (nc_so_t hS) hP hD hV
      · have h := (if_neg hc).symm.trans h
        exact hk _ _ _ _ h ls H locs hl hL (nc_so_t hS) hP hD hV
    · refine lv_if_ne C.1 C.2.1 (tgt := t) hd ht (fun hc => ?_) (fun hc => ?_)
      · have h := (if_pos hc).symm.trans h
        exact hk _ _ _ _ h ls H locs hl hL (nc_so_t hS) hP hD hV
      · have h := (if_neg (fun hn => hn hc)).symm.trans h
        exact hk _ _ _ _ h ls H locs hl hL (nc_so_t hS) hP hD hV
    · refine lv_if_lt C.1 C.2.1 (tgt := t) hd ht (fun hc => ?_) (fun hc => ?_)
      · have h := (if_pos hc).symm.trans h
        exact hk _ _ _ _ h ls H locs hl hL (nc_so_t hS) hP hD hV
      · have h := (if_neg hc).symm.trans h
        exact hk _ _ _ _ h ls H locs hl hL (nc_so_t hS) hP hD hV
    · refine lv_if_ge C.1 C.2.1 (tgt := t) hd ht (fun hc => ?_) (fun hc => ?_)
      · have h := (if_pos hc).symm.trans h
        exact hk _ _ _ _ h ls H locs hl hL (nc_so_t hS) hP hD hV
      · have h := (if_neg hc).symm.trans h
        exact hk _ _ _ _ h ls H locs hl hL (nc_so_t hS) hP hD hV
    · refine lv_if_gt C.1 C.2.1 (tgt := t) hd ht (fun hc => ?_) (fun hc => ?_)
      · have h := (if_pos hc).symm.trans h
        exact hk _ _ _ _ h ls H locs hl hL (nc_so_t hS) hP hD hV
      · have h := (if_neg hc).symm.trans h
        exact hk _ _ _ _ h ls H locs hl hL (nc_so_t hS) hP hD hV
    · refine lv_if_le C.1 C.2.1 (tgt := t) hd ht (fun hc => ?_) (fun hc => ?_)
      · have h := (if_pos hc).symm.trans h
        exact hk _ _ _ _ h ls H locs hl hL (nc_so_t hS) hP hD hV
      · have h := (if_neg hc).symm.trans h
        exact hk _ _ _ _ h ls H locs hl hL (nc_so_t hS) hP hD hV
  next => cases h
theorem nd_s_icmp (C : nd_Cx p R s m args meth c D cA ad A M) (hk : ∀ pc L st w, κ pc L st w = some r → nd_G p l e R s m args below meth c D cA ad A M r pc L st w) {cd : ClassFile.Cond} {off : Int} (hj : 0 ≤ (pc : Int) + off) (hd : decode (nc_b M) pc = .ok (.if_icmp cd off, 3)) (h : nc_ex call M (.if_icmp cd off) pc L st w κ = some r) : nd_G p l e R s m args below meth c D cA ad A M r pc L st w := by
  intro ls H locs hl hL hS hP hD hV
  simp only [nc_ex] at h
  obtain ⟨t, ht⟩ := Int.eq_ofNat_of_zero_le hj
  split at h
  next y x r =>
    simp only [nd_jmp_eq ht] at h
    cases cd
    · refine lv_icmp_eq C.1 C.2.1 (tgt := t) hd ht (fun hc => ?_) (fun hc => ?_)
      · have h := (if_pos hc).symm.trans h
        exact hk _ _ _ _ h ls H locs hl hL (nc_so_t (nc_so_t hS)) hP hD hV
      · have h := (if_neg hc).symm.trans h
        exact hk _ _ _ _ h ls H locs hl hL (nc_so_t (nc_so_t hS)) hP hD hV
    · refine lv_icmp_ne C.1 C.2.1 (tgt := t) hd ht (fun hc => ?_) (fun hc => ?_)
      · have h := (if_pos hc).symm.trans h
        exact hk _ _ _ _ h ls H locs hl hL (nc_so_t (nc_so_t hS)) hP hD hV
      · have h := (if_neg (fun hn => hn hc)).symm.trans h
        exact hk _ _ _ _ h ls H locs hl hL (nc_so_t (nc_so_t hS)) hP hD hV
    · refine lv_icmp_lt C.1 C.2.1 (tgt := t) hd ht (fun hc => ?_) (fun hc => ?_)
      · have h := (if_pos hc).symm.trans h
        exact hk _ _ _ _ h ls H locs hl hL (nc_so_t (nc_so_t hS)) hP hD hV
      · have h := (if_neg hc).symm.trans h
        exact hk _ _ _ _ h ls H locs hl hL (nc_so_t (nc_so_t hS)) hP hD hV
    · refine lv_icmp_ge C.1 C.2.1 (tgt := t) hd ht (fun hc => ?_) (fun hc => ?_)
      · have h := (if_pos hc).symm.trans h
        exact hk _ _ _ _ h ls H locs hl hL (nc_so_t (nc_so_t hS)) hP hD hV
      · have h := (if_neg hc).symm.trans h
        exact hk _ _ _ _ h ls H locs hl hL (nc_so_t (nc_so_t hS)) hP hD hV
    · refine lv_icmp_gt C.1 C.2.1 (tgt := t) hd ht (fun hc => ?_) (fun hc => ?_)
      · have h := (if_pos hc).symm.trans h
        exact hk _ _ _ _ h ls H locs hl hL (nc_so_t (nc_so_t hS)) hP hD hV
      · have h := (if_neg hc).symm.trans h
        exact hk _ _ _ _ h ls H locs hl hL (nc_so_t (nc_so_t hS)) hP hD hV
    · refine lv_icmp_le C.1 C.2.1 (tgt := t) hd ht (fun hc => ?_) (fun hc => ?_)
      · have h := (if_pos hc).symm.trans h
        exact hk _ _ _ _ h ls H locs hl hL (nc_so_t (nc_so_t hS)) hP hD hV
      · have h := (if_neg hc).symm.trans h
        exact hk _ _ _ _ h ls H locs hl hL (nc_so_t (nc_so_t hS)) hP hD hV
  next => cases h
theorem nd_sw_some {x : Int32} {d : Int} {f : Nat → Option nc_R} : ∀ {l : List Int} {k : Int}, nc_sw pc x d f k l = some r → (∃ (j : Nat) (off : Int), l[j]? = some off ∧ x = Int32.ofInt (k + j) ∧ nc_jmp pc off f = some r) ∨ ((∀ j : Nat, j < l.length → x ≠ Int32.ofInt (k + j)) ∧ nc_jmp pc d f = some r)
  | [], k, h => Or.inr ⟨fun j hj => by simp at hj, h⟩
  | o :: os, k, h => by
    unfold nc_sw at h
    by_cases e : x = Int32.ofInt k
    · rw [if_pos e] at h
      exact Or.inl ⟨0, o, rfl, by rw [e]; simp, h⟩
    · rw [if_neg e] at h
      rcases nd_sw_some h with ⟨j, off, h1, h2, h3⟩ | ⟨h1, h2⟩
      · refine Or.inl ⟨j + 1, off, h1, ?_, h3⟩
        rw [h2]
        congr 1
        omega
      · refine Or.inr ⟨fun j hj => ?_, h2⟩
        cases j with
        | zero => simpa using e
        | succ j =>
          have := h1 j (by simpa using hj)
          intro e2
          apply this
          rw [e2]
          congr 1
          omega
theorem nd_s_tableswitch (C : nd_Cx p R s m args meth c D cA ad A M) (hk : ∀ pc L st w, κ pc L st w = some r → nd_G p l e R s m args below meth c D cA ad A M r pc L st w) {dflt lo hi : Int} {offs : Array Int} {len : Nat} (hd : decode (nc_b M) pc = .ok (.tableswitch dflt lo hi offs, len)) (h : nc_ex call M (.tableswitch dflt lo hi offs) pc L st w κ = some r) : nd_G p l e R s m args below meth c D cA ad A M r pc L st w := by
  intro ls H locs hl hL hS hP hD hV
  simp only [nc_ex] at h
  split at h
  next x rs =>
    rcases hb : decide (lo + offs.size = hi + 1 ∧ -1000 ≤ lo ∧ hi ≤ 1000) with _ | _
    · rw [hb] at h
      cases h
    · rw [hb] at h
      obtain ⟨b1, b2, b3⟩ := of_decide_eq_true hb
      rcases nd_sw_some h with ⟨j, off, h1, h2, h3⟩ | ⟨h1, h2⟩
      · obtain ⟨t, ht, h3⟩ := nd_jmp_some h3
        have hlt : j < offs.size := by
          have := (List.getElem?_eq_some_iff.mp h1).1
          simpa using this
        have hx : x.toInt = lo + j := by
          rw [h2]
          exact Int32.toInt_ofInt_of_le (by omega) (by omega)
        refine lv_tableIn C.1 C.2.1 (off := off) (tgt := t) hd (by omega) (by omega) ?_ ht (hk _ _ _ _ h3 ls H locs hl hL (nc_so_t hS) hP hD hV)
        have e : (x.toInt - lo).toNat = j := by omega
        rw [e, ← Array.getElem?_toList]
        exact h1
      · obtain ⟨t, ht, h2⟩ := nd_jmp_some h2
        refine lv_tableOut C.1 C.2.1 (tgt := t) hd ?_ ht (hk _ _ _ _ h2 ls H locs hl hL (nc_so_t hS) hP hD hV)
        by_cases hlo : x.toInt < lo
        · exact Or.inl hlo
        · by_cases hhi : hi < x.toInt
          · exact Or.inr hhi
          · exfalso
            refine h1 (x.toInt - lo).toNat (by simp; omega) ?_
            have e : lo + ((x.toInt - lo).toNat : Int) = x.toInt := by omega
            rw [e, Int32.ofInt_toInt]
  next => cases h
end SIM
