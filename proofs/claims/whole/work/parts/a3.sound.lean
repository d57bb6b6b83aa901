/-! EVERY INSTRUCTION, EVERY METHOD -/
theorem nd_6_all : ((List.range nc_many).all fun M => (nc_inv M).all fun e => !(Nat.beq e.2.1 6) || Nat.ble 30 M) = true := by decide +kernel
theorem nd_6 {M k : Nat} (hM : M < nc_many) (h : (nc_iv M k).1 = 6) : 30 ≤ M := by
  rcases nc_look_mem ((9, 0, 0) : Nat × Nat × Nat) k (nc_inv M) with h1 | h1
  · have h2 : (nc_look ((9, 0, 0) : Nat × Nat × Nat) k (nc_inv M)).1 = 6 := h
    rw [h1] at h2
    cases h2
  · have h2 := List.all_eq_true.mp (List.all_eq_true.mp nd_6_all M (List.mem_range.mpr hM)) _ h1
    have h3 : (nc_look ((9, 0, 0) : Nat × Nat × Nat) k (nc_inv M)).1 = 6 := h
    simp only [h3] at h2
    exact Nat.le_of_ble_eq_true (by simpa using h2)
theorem nd_ins_mem {M pc : Nat} {i : Instr} (h : nc_ins M pc = some i) : ∃ len, (pc, i, len) ∈ nc_code M := by
  unfold nc_ins at h
  rcases nc_look_mem (none : Option Instr) pc ((nc_code M).map fun q => (q.1, some q.2.1)) with h1 | h1
  · rw [h1] at h
    cases h
  · rw [h] at h1
    obtain ⟨q, hq, e⟩ := List.mem_map.mp h1
    have e1 : q.1 = pc := congrArg Prod.fst e
    have e2 : q.2.1 = i := Option.some.inj (congrArg Prod.snd e)
    exact ⟨q.2.2, by rw [← e1, ← e2]; exact hq⟩
section SIM4
variable {p : Program} {l : Launch} {e : Env} {R : Room} {s : State} {m : MethodId} {args : Array Value} {below : List Frame} {meth : Method} {c : Code} {D : va_G} {cA : Nat → ClassId} {ad : Nat → Nat → Nat} {A : Nat → Prop} {M : Nat}
  {call : Nat → List nc_V → nc_H → Option nc_R} {pc : Nat} {L : nc_L} {st : List nc_V} {w : nc_H} {κ : nc_K} {r : nc_R}
set_option maxHeartbeats 4000000 in
theorem nd_sim_ex (C : nd_Cx p R s m args meth c D cA ad A M) (hk : ∀ pc L st w, κ pc L st w = some r → nd_G p l e R s m args below meth c D cA ad A M r pc L st w) (hI : nd_IdxC l) (hcall : ∀ M' as w r, M' < M → call M' as w = some r → nc_Sok as → nd_Con l M' as w r) {i : Instr} {len : Nat} (hm : (pc, i, len) ∈ nc_code M) (h : nc_ex call M i pc L st w κ = some r) : nd_G p l e R s m args below meth c D cA ad A M r pc L st w := by
  have hd := nc_dok M C.2.2.2.2.2.2.2.1
  unfold nc_dall nc_dchk at hd
  have hq := List.all_eq_true.mp hd _ hm
  simp only [Bool.and_eq_true] at hq
  obtain ⟨h1, h2, h3⟩ := hq
  have h1 : decode (nc_b M) pc = .ok (i, len) := of_decide_eq_true h1
  have key : ∀ n, Nat.beq len n = true → decode (nc_b M) pc = .ok (i, n) := fun n hn => by rw [← Nat.eq_of_beq_eq_true hn]; exact h1
  cases i
  case iadd => exact nd_s_iadd C hk (key 1 h2) h
  case isub => exact nd_s_isub C hk (key 1 h2) h
  case imul => exact nd_s_imul C hk (key 1 h2) h
  case iand => exact nd_s_iand C hk (key 1 h2) h
  case ior => exact nd_s_ior C hk (key 1 h2) h
  case ixor => exact nd_s_ixor C hk (key 1 h2) h
  case ishl => exact nd_s_ishl C hk (key 1 h2) h
  case ishr => exact nd_s_ishr C hk (key 1 h2) h
  case iushr => exact nd_s_iushr C hk (key 1 h2) h
  case idiv => exact nd_s_idiv C hk (key 1 h2) h
  case irem => exact nd_s_irem C hk (key 1 h2) h
  case ineg => exact nd_s_ineg C hk (key 1 h2) h
  case i2l => exact nd_s_i2l C hk (key 1 h2) h
  case i2b => exact nd_s_i2b C hk (key 1 h2) h
  case i2c => exact nd_s_i2c C hk (key 1 h2) h
  case lshl => exact nd_s_lshl C hk (key 1 h2) h
  case lor => exact nd_s_lor C hk (key 1 h2) h
  case lcmp => exact nd_s_lcmp C hk (key 1 h2) h
  case dup => exact nd_s_dup C hk (key 1 h2) h
  case dup2 => exact nd_s_dup2 C hk (key 1 h2) h
  case pop => exact nd_s_pop C hk (key 1 h2) h
  case iconst => exact nd_s_iconst C hk (key 1 h2) h
  case lconst => exact nd_s_lconst C hk (key 1 h2) h
  case iload_n => exact nd_s_iload_n C hk (key 1 h2) h
  case lload_n => exact nd_s_lload_n C hk (key 1 h2) h
  case aload_n => exact nd_s_aload_n C hk (key 1 h2) h
  case iaload => exact nd_s_iaload C hk (key 1 h2) h
  case laload => exact nd_s_laload C hk (key 1 h2) h
  case aaload => exact nd_s_aaload C hk (key 1 h2) h
  case baload => exact nd_s_baload C hk (key 1 h2) h
  case arraylength => exact nd_s_arraylength C hk (key 1 h2) h
  case iastore => exact nd_s_iastore C hk (key 1 h2) h
  case lastore => exact nd_s_lastore C hk (key 1 h2) h
  case bastore => exact nd_s_bastore C hk (key 1 h2) h
  case ireturn => exact nd_s_ireturn C hk (key 1 h2) h
  case lreturn => exact nd_s_lreturn C hk (key 1 h2) h
  case return_ => exact nd_s_return C hk (key 1 h2) h
  case bipush => exact nd_s_bipush C hk (key 2 h2) h
  case ldc => exact nd_s_ldc C hk (key 2 h2) h
  case iload => exact nd_s_iload C hk (key 2 h2) h
  case lload => exact nd_s_lload C hk (key 2 h2) h
  case aload => exact nd_s_aload C hk (key 2 h2) h
  case sipush => exact nd_s_sipush C hk (key 3 h2) h
  case ldc_w => exact nd_s_ldc_w C hk (key 3 h2) h
  case ldc2_w => exact nd_s_ldc2_w C hk (key 3 h2) h
  case getfield => exact nd_s_getfield C hk (key 3 h2) h
  case putfield => exact nd_s_putfield C hk (key 3 h2) h
  case ifnull => exact nd_s_ifnull C hk (key 3 h2) h
  case ifnonnull => exact nd_s_ifnonnull C hk (key 3 h2) h
  case goto => exact nd_s_goto C hk (key 3 h2) h
  case istore_n =>
    have h2 := (Bool.and_eq_true _ _).mp h2
    exact nd_s_istore_n C hk (Nat.blt_eq.mp h2.2) (key 1 h2.1) h
  case astore_n =>
    have h2 := (Bool.and_eq_true _ _).mp h2
    exact nd_s_astore_n C hk (Nat.blt_eq.mp h2.2) (key 1 h2.1) h
  case lstore_n =>
    have h2 := (Bool.and_eq_true _ _).mp h2
    exact nd_s_lstore_n C hk (Nat.blt_eq.mp h2.2) (key 1 h2.1) h
  case istore =>
    have h2 := (Bool.and_eq_true _ _).mp h2
    exact nd_s_istore C hk (Nat.blt_eq.mp h2.2) (key 2 h2.1) h
  case astore =>
    have h2 := (Bool.and_eq_true _ _).mp h2
    exact nd_s_astore C hk (Nat.blt_eq.mp h2.2) (key 2 h2.1) h
  case lstore =>
    have h2 := (Bool.and_eq_true _ _).mp h2
    exact nd_s_lstore C hk (Nat.blt_eq.mp h2.2) (key 2 h2.1) h
  case iinc =>
    have h2 := (Bool.and_eq_true _ _).mp h2
    exact nd_s_iinc C hk (Nat.blt_eq.mp h2.2) (key 3 h2.1) h
  case ifCond => exact nd_s_ifCond C hk (of_decide_eq_true h3) (key 3 h2) h
  case if_icmp => exact nd_s_icmp C hk (of_decide_eq_true h3) (key 3 h2) h
  case tableswitch => exact nd_s_tableswitch C hk h1 h
  case invokestatic => exact nd_s_invokestatic C hk hcall (key 3 h2) h
  case invokevirtual => exact nd_s_invokevirtual C hk hI (nd_6 C.2.2.2.2.2.2.2.1) hcall (key 3 h2) h
  all_goals (simp [nc_ex] at h)
theorem nd_go_sim (C : nd_Cx p R s m args meth c D cA ad A M) (hI : nd_IdxC l) (hcall : ∀ M' as w r, M' < M → call M' as w = some r → nc_Sok as → nd_Con l M' as w r) : ∀ (n pc : Nat) (L : nc_L) (st : List nc_V) (w : nc_H), nc_go call M n pc L st w = some r → nd_G p l e R s m args below meth c D cA ad A M r pc L st w
  | 0, _, _, _, _, h => by cases h
  | n + 1, pc, L, st, w, h => by
    have h : nc_step call M pc L st w (nc_go call M n) = some r := h
    unfold nc_step at h
    split at h
    next i hi =>
      obtain ⟨len, hm⟩ := nd_ins_mem hi
      refine nd_sim_ex (κ := fun pc' ls' st' w' => nc_go call M n pc' (nc_trim M pc' ls') st' w') C ?_ hI hcall hm h
      intro pc L st w hk ls H locs hl hL hS hP hD hV
      exact nd_go_sim C hI hcall n pc _ st w hk ls H locs (nc_lv_mask hl) (nc_lo_mask hL) hS hP hD hV
    next => cases h
end SIM4
theorem nd_lv_nones {ad : Nat → Nat → Nat} : ∀ (k i : Nat), nc_lv ad i (List.replicate k none) = []
  | 0, _ => rfl
  | k + 1, i => nd_lv_nones k (i + 1)
theorem nd_entry_mem {ad : Nat → Nat → Nat} {k : Nat} {q : Nat × Value} : ∀ {as : List nc_V} {i : Nat}, q ∈ nc_lv ad i (nc_args as ++ List.replicate k none) → q ∈ lv_args i (as.map (nc_v ad))
  | [], i, h => by
    rw [show nc_args [] ++ List.replicate k none = List.replicate k none from rfl, nd_lv_nones] at h
    cases h
  | .inl x :: r, i, h => by
    rcases List.mem_cons.mp h with e | h
    · rw [e]
      exact List.mem_cons_self
    · exact List.mem_cons_of_mem _ (nd_entry_mem (as := r) (i := i + 1) h)
  | .inr (.inr x) :: r, i, h => by
    rcases List.mem_cons.mp h with e | h
    · rw [e]
      exact List.mem_cons_self
    · exact List.mem_cons_of_mem _ (nd_entry_mem (as := r) (i := i + 1) h)
  | .inr (.inl x) :: r, i, h => by
    rcases List.mem_cons.mp h with e | h
    · rw [e]
      exact List.mem_cons_self
    · exact List.mem_cons_of_mem _ (nd_entry_mem (as := r) (i := i + 2) h)
theorem nd_args_len {ad : Nat → Nat → Nat} : ∀ as : List nc_V, (lg_sl (as.map (nc_v ad))).length = (nc_args as).length
  | [] => rfl
  | .inl x :: r => by
    have := nd_args_len (ad := ad) r
    show (lg_sl (Value.int x :: r.map (nc_v ad))).length = _
    simp [lg_sl, nc_args, Value.category] at this ⊢
    omega
  | .inr (.inr x) :: r => by
    have := nd_args_len (ad := ad) r
    show (lg_sl (Value.ref (ad x.1 x.2) :: r.map (nc_v ad))).length = _
    simp [lg_sl, nc_args, Value.category] at this ⊢
    omega
  | .inr (.inl x) :: r => by
    have := nd_args_len (ad := ad) r
    show (lg_sl (Value.long x :: r.map (nc_v ad))).length = _
    simp [lg_sl, nc_args, Value.category] at this ⊢
    omega
theorem nd_args_get {v : nc_V} : ∀ {as : List nc_V} {k : Nat} {t : nc_L}, (∀ j u, nc_get t j ≠ some u) → nc_get (nc_args as ++ t) k = some v → v ∈ as
  | [], k, t, ht, h => absurd h (ht k v)
  | .inl x :: r, 0, t, ht, h => by
    have e := Option.some.inj h
    rw [← e]
    exact List.mem_cons_self
  | .inl x :: r, k + 1, t, ht, h => List.mem_cons_of_mem _ (nd_args_get (as := r) (k := k) ht h)
  | .inr (.inr x) :: r, 0, t, ht, h => by
    have e := Option.some.inj h
    rw [← e]
    exact List.mem_cons_self
  | .inr (.inr x) :: r, k + 1, t, ht, h => List.mem_cons_of_mem _ (nd_args_get (as := r) (k := k) ht h)
  | .inr (.inl x) :: r, 0, t, ht, h => by
    have e := Option.some.inj h
    rw [← e]
    exact List.mem_cons_self
  | .inr (.inl x) :: r, 1, t, ht, h => by cases h
  | .inr (.inl x) :: r, k + 2, t, ht, h => List.mem_cons_of_mem _ (nd_args_get (as := r) (k := k) ht h)
theorem nd_nones_get : ∀ (n j : Nat) (u : nc_V), nc_get (List.replicate n none) j ≠ some u
  | 0, j, u, h => by cases j <;> cases h
  | n + 1, 0, u, h => by cases h
  | n + 1, j + 1, u, h => nd_nones_get n j u h
/-- EVERY METHOD'S CONTRACT: what the machine gives, the bytecode gives -/
theorem nd_sound (l : Launch) (hI : nd_IdxC l) : ∀ (M : Nat), M < nc_many → ∀ (as : List nc_V) (w : nc_H) (r : nc_R), nc_Call M as w = some r → nc_Sok as → nd_Con l M as w r := by
  intro M
  induction M using Nat.strongRecOn with
  | _ M ih =>
    intro hM as w r h hS
    rw [nc_Call_eq] at h
    by_cases hlen : (nc_args as).length ≤ nc_mL M
    · rw [if_pos hlen] at h
      obtain ⟨n, hn⟩ := nc_lim_iff.mp h
      obtain ⟨m1, m2, m3, m4, m5, m6, m7, m8, m9, m10, m11⟩ := nd_m_facts hM
      intro D cA ad sz
      refine Met.ofW (cc := nc_b M) (maxL := nc_mL M) (ret := nc_rt (nc_rk M)) m5 rfl ?_
      intro p e s m args below meth c s₁ B hml hv
      obtain ⟨rfl, hsz, hP, hK, hD0, hStr⟩ := hv
      subst hsz
      have hts := atoms_spec (ws := nd_ws M) B.pre
      have hown : s.vm.findClass (nc_y M).cls = some m.cls := findClass_of_methodNamed B.named
      rw [m6] at hown
      have C : nd_Cx p (nd_rm M) s m (as.map (nc_v ad)).toArray meth c D cA ad (va_A (nc_W ad cA w) s.heap.size) M := ⟨B.exec, B.bytes, hml, hown, fun w hw => hts w (List.mem_cons_of_mem _ hw), hK, fun q h => Or.inr h, hM, rfl, hStr, B.notSynchronized, B.returns⟩
      have hl := lv_entry (as.map (nc_v ad)) (n := nc_mL M) (by rw [nd_args_len]; exact hlen)
      rw [lg_entry_eq]
      refine nd_go_sim C hI (fun M' as w r h1 h2 h3 => ?_) n 0 _ [] w hn _ _ _ (nc_has_sub hl (fun q hq => nd_entry_mem hq)) ⟨?_, fun k v hk => hS v (nd_args_get (nd_nones_get _) hk)⟩ (fun v hv => by cases hv) hP hD0.self va_S.rf
      · have h4 : nc_Call M' as w = some r := by
          unfold nc_callB at h2
          rw [Nat.blt_eq.mpr h1] at h2
          exact h2
        exact ih M' h1 (Nat.lt_trans h1 hM) as w r h4 h3
      · unfold nc_pad
        simp
        omega
    · rw [if_neg hlen] at h
      cases h
