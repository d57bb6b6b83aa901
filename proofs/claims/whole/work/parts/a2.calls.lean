theorem nd_at_lt {D : va_G} {q : Nat × va_E} {H : Heap} (h : va_at D nc_cl q H) : q.1 < H.size := by
  unfold va_at at h
  split at h
  · exact (Array.getElem?_eq_some_iff.mp h).1
  · obtain ⟨r, -, cell, h1, -⟩ := h
    exact (Array.getElem?_eq_some_iff.mp h1).1
/-! CALLS -/
theorem nd_iv_ok {M k : Nat} (hM : M < nc_many) (h : (nc_iv M k).1 ≠ 9) : Cond.methodLink (nc_cn (nc_own M)) k (nc_cy (nc_iv M k).1 (nc_iv M k).2.1) ∈ nc_tb ∧ 1 ≤ M ∧ (2 ≤ (nc_iv M k).1 ∨ ((nc_iv M k).1 = (nc_mq (nc_iv M k).2.1).1 ∧ (nc_iv M k).2.2 = (nc_mq (nc_iv M k).2.1).2 ∧ (nc_iv M k).2.1 < nc_many)) := by
  rcases nc_look_mem ((9, 0, 0) : Nat × Nat × Nat) k (nc_inv M) with h1 | h1
  · exact absurd (by unfold nc_iv; rw [h1]) h
  · have h2 := nc_iok M hM _ h1
    simp only [Bool.and_eq_true, Bool.or_eq_true] at h2
    refine ⟨h2.1, Nat.le_of_ble_eq_true h2.2.1, ?_⟩
    rcases h2.2.2 with h3 | h3
    · exact Or.inl (Nat.le_of_ble_eq_true h3)
    · exact Or.inr ⟨Nat.eq_of_beq_eq_true h3.1, Nat.eq_of_beq_eq_true h3.2.1, Nat.blt_eq.mp h3.2.2⟩
theorem nd_m_facts {M : Nat} (h : M < nc_many) : Cond.code (nc_y M) (nc_b M) (nc_mL M) (nc_rt (nc_rk M)) ∈ nc_tb ∧ (if (nc_mq M).1 = 0 then Cond.instanceMethod (nc_y M) else Cond.static (nc_y M)) ∈ nc_tb ∧ ((nc_mq M).1 = 1 ∨ Cond.selects (nc_y M).cls (nc_y M) (nc_y M) ∈ nc_tb) ∧ Cond.initialized (nc_y M).cls ∈ nc_tb ∧ plainName (nc_y M).cls = true ∧ (nc_y M).cls = nc_cn (nc_own M) ∧ (nc_y M).cls ≠ "java/lang/invoke/MethodHandle" ∧ (nc_y M).cls ≠ "java/lang/invoke/VarHandle" ∧ (parseMethodDescriptor (nc_y M).desc).map (fun d => d.parameters.length) = some (nc_mq M).2 ∧ nc_mL M ≤ 45 ∧ nc_own M ≤ 14 := by
  obtain ⟨h1, h2, h3, h4, h5, h6, h7, h8⟩ := nc_mok M h
  have hc := List.all_eq_true.mp nc_cn_all (nc_own M) (List.mem_range.mpr (by omega))
  simp only [Bool.and_eq_true] at hc
  refine ⟨h1, h2, h3, h4, by rw [h5]; exact hc.1, h5, by rw [h5]; exact of_decide_eq_true hc.2.1, by rw [h5]; exact of_decide_eq_true hc.2.2, h6, h7, h8⟩
theorem nd_goodIn {M : Nat} (h : M < nc_many) : GoodIn nc_tb (nd_ws M) := by
  intro w hw
  have hm : w ∈ nc_tb := by
    rcases List.mem_cons.mp hw with e | e
    · rw [e]
      exact (nd_m_facts h).1
    · exact e
  exact ⟨hm, good_of_word (nc_good hm)⟩
theorem nd_tag_all : (nc_tags.all fun q => Nat.blt q.1 13 || Nat.ble 100 q.1) = true := by decide +kernel
theorem nd_ok_t {q : Nat × Nat} (h : nc_ok q = true) : q.1 < 13 ∨ 100 ≤ q.1 := by
  rcases nc_look_mem 0 q.1 nc_tags with h2 | h2
  · unfold nc_ok at h
    rw [h2] at h
    exact absurd (Nat.blt_eq.mp h) (Nat.not_lt_zero _)
  · have := List.all_eq_true.mp nd_tag_all _ h2
    rw [Bool.or_eq_true] at this
    exact this.imp Nat.blt_eq.mp Nat.le_of_ble_eq_true
theorem nd_bV_some {x : Option nc_R} {f : nc_H → Option nc_R} {r : nc_R} (h : nc_bV x f = some r) : ∃ w, x = some (none, w) ∧ f w = some r := by
  unfold nc_bV at h
  split at h
  next w => exact ⟨w, rfl, h⟩
  next => cases h
theorem nd_bI_some {x : Option nc_R} {f : Int32 → nc_H → Option nc_R} {r : nc_R} (h : nc_bI x f = some r) : ∃ y w, x = some (some (.inl y), w) ∧ f y w = some r := by
  unfold nc_bI at h
  split at h
  next y w => exact ⟨y, w, rfl, h⟩
  next => cases h
theorem nd_bL_some {x : Option nc_R} {f : Int64 → nc_H → Option nc_R} {r : nc_R} (h : nc_bL x f = some r) : ∃ y w, x = some (some (.inr (.inl y)), w) ∧ f y w = some r := by
  unfold nc_bL at h
  split at h
  next y w => exact ⟨y, w, rfl, h⟩
  next => cases h
theorem nd_blind {D : va_G} {cA : Nat → ClassId} {ad : Nat → Nat → Nat} {sz : Nat} {w : nc_H} {av : List Value} : FrameBlind (va_Pc av (nd_Pre D cA ad sz w)) := by
  intro a U g mk q
  obtain ⟨q0, q1, qP, qK, qD, qR, qS, qN⟩ := q
  exact ⟨q0, q1, qP, va_K.moved (u := U) (U := U.calling g mk a) (Vm.Alike.refl U.vm) qK, qD, vk_R.same (u := U) rfl qR, ⟨vk_S.moved (u := U) (U := U.calling g mk a) (Vm.Alike.refl U.vm) qS.1, va_Z.moved (u := U) (U := U.calling g mk a) (Vm.Alike.refl U.vm) qS.2⟩, fun e he => va_Nw.same rfl rfl (qN e he)⟩
theorem nd_cpy_l {w : nc_H} {t0 a0 sp t a dp n : Nat} : va_cpy (w.2 t0 a0) (w.2 t a) sp dp n = (nc_cpl w t0 a0 sp t a dp n).2 t a := by
  funext j
  unfold va_cpy nc_cpl
  simp
theorem nd_cpy_i {w : nc_H} {t0 a0 sp t a dp n : Nat} : va_cpy (w.1 t0 a0) (w.1 t a) sp dp n = (nc_cpi w t0 a0 sp t a dp n).1 t a := by
  funext j
  unfold va_cpy nc_cpi
  simp
section SIM3
variable {p : Program} {l : Launch} {e : Env} {R : Room} {s : State} {m : MethodId} {args : Array Value} {below : List Frame} {meth : Method} {c : Code} {D : va_G} {cA : Nat → ClassId} {ad : Nat → Nat → Nat} {A : Nat → Prop} {M : Nat}
  {call : Nat → List nc_V → nc_H → Option nc_R} {pc : Nat} {L : nc_L} {st : List nc_V} {w : nc_H} {κ : nc_K} {r : nc_R}
/-- the cells that a callee may change are the caller's -/
theorem nd_hF {H : Heap} {locs : List Loc} (hA : ∀ q, s.heap.size ≤ q → A q) (hD : va_D A (nc_W ad cA w)) (hV : va_S A s.heap H locs) : ∀ q, va_A (nc_W ad cA w) H.size q → A q := by
  intro q h
  rcases h with ⟨k, e, h⟩ | h
  · exact hD.2 k _ h
  · exact hA q (Nat.le_trans hV.1 h)
theorem nd_preU {H : Heap} {locs : List Loc} (C : nd_Cx p R s m args meth c D cA ad A M) (hP : va_P D nc_cl (nc_W ad cA w) H) (hD : va_D A (nc_W ad cA w)) (hV : va_S A s.heap H locs) (U : State) (hU : U.heap = H) (hW : s.WarmedH U.vm) : nd_Pre D cA ad H.size w U := by
  refine ⟨by rw [hU], by rw [hU]; exact hP, va_K.moved hW.alike C.2.2.2.2.2.1, hD.weaken (fun _ _ _ _ => trivial), vk_R.warm hW C.2.2.2.2.2.2.2.2.2.1.1, ?_, fun e he => va_Nw.warmF hW (C.2.2.2.2.2.2.2.2.2.1.2.2 e he)⟩
  rw [hU]
  exact ⟨vk_S.narrow (vk_S.moved hW.alike (vk_S.kept C.2.2.2.2.2.2.2.2.2.1.2.1.1 hV.2.1)) (nd_hF C.2.2.2.2.2.2.1 hD hV), va_Z.narrow (va_Z.moved hW.alike (va_Z.kept C.2.2.2.2.2.2.2.2.2.1.2.1.2 hV.2.1)) (nd_hF C.2.2.2.2.2.2.1 hD hV)⟩
/-- behind a call -/
theorem nd_behind {H : Heap} {locs : List Loc} {ls : Array Slot} {M' : Nat} {as : List nc_V} {rest : List nc_V} (C : nd_Cx p R s m args meth c D cA ad A M) (hk : ∀ st w, κ (pc + 3) L st w = some r → nd_G p l e R s m args below meth c D cA ad A M r (pc + 3) L st w)
    (hl : lv_has ls (nc_mL M) (nc_lv ad 0 L)) (hL : nc_Lok (nc_mL M) L) (hS : nc_Sok rest) (hD : va_D A (nc_W ad cA w)) (hV : va_S A s.heap H locs) {st0 : List Value} {rk : Nat} {x : Option nc_R}
    (hrun : ∀ r', x = some r' → va_Run p l e R s m args below meth c H locs 0 0 0 0 (F0 m pc ls st0) (rest.map (nc_v ad)) (nd_Q D cA ad (va_A (nc_W ad cA w) H.size) r' (as.map (nc_v ad)).toArray) (va_A (nc_W ad cA w) H.size))
    (h : nc_ans rk x rest (fun st' w' => κ (pc + 3) L st' w') = some r) : W p l e R s m args below meth c H locs 0 0 (MQ below (nd_Q D cA ad A r) args s 0 0 A) (F0 m pc ls st0) := by
  have hF := nd_hF (w := w) C.2.2.2.2.2.2.1 hD hV
  unfold nc_ans at h
  split at h
  · obtain ⟨w', hx, h⟩ := nd_bV_some h
    have hr : va_Run p l e R s m args below meth c H locs 0 0 0 0 (F0 m pc ls st0) (rest.map (nc_v ad)) (va_Qv (fun _ : Unit => True) (fun _ t => nd_B D cA ad (va_A (nc_W ad cA w) H.size) w' t) (va_A (nc_W ad cA w) H.size) (as.map (nc_v ad)).toArray) (va_A (nc_W ad cA w) H.size) := hrun _ hx
    refine va_callv hr hV (fun q _ h => hF q h) hF (fun u t H1 locs1 ht hvm hw hB hz1 hk1 hV1 => ?_)
    obtain ⟨hP1, hK1, hD1⟩ := hB
    rw [ht] at hP1
    exact hk _ _ h ls H1 locs1 hl hL hS hP1 (hD1.weaken (fun _ q _ h => hF q.1 h)) hV1
  · obtain ⟨y, w', hx, h⟩ := nd_bL_some h
    have hr : va_Run p l e R s m args below meth c H locs 0 0 0 0 (F0 m pc ls st0) (rest.map (nc_v ad)) (va_Ql (fun z (_ : Unit) => z = y) (fun _ t => nd_B D cA ad (va_A (nc_W ad cA w) H.size) w' t) (va_A (nc_W ad cA w) H.size) (as.map (nc_v ad)).toArray) (va_A (nc_W ad cA w) H.size) := hrun _ hx
    refine va_calll hr hV (fun q _ h => hF q h) hF (fun z u t H1 locs1 ht hvm hw hB hz1 hk1 hV1 => ?_)
    obtain ⟨hP1, hK1, hD1⟩ := hB
    rw [ht] at hP1
    subst hw
    exact hk _ _ h ls H1 locs1 hl hL (nc_so_c trivial hS) hP1 (hD1.weaken (fun _ q _ h => hF q.1 h)) hV1
  · obtain ⟨y, w', hx, h⟩ := nd_bI_some h
    have hr : va_Run p l e R s m args below meth c H locs 0 0 0 0 (F0 m pc ls st0) (rest.map (nc_v ad)) (va_Qi (fun z (_ : Unit) => z = y) (fun _ t => nd_B D cA ad (va_A (nc_W ad cA w) H.size) w' t) (va_A (nc_W ad cA w) H.size) (as.map (nc_v ad)).toArray) (va_A (nc_W ad cA w) H.size) := hrun _ hx
    refine va_calli hr hV (fun q _ h => hF q h) hF (fun z u t H1 locs1 ht hvm hw hB hz1 hk1 hV1 => ?_)
    obtain ⟨hP1, hK1, hD1⟩ := hB
    rw [ht] at hP1
    subst hw
    exact hk _ _ h ls H1 locs1 hl hL (nc_so_c trivial hS) hP1 (hD1.weaken (fun _ q _ h => hF q.1 h)) hV1
theorem nd_roomR {M' : Nat} (C : nd_Cx p R s m args meth c D cA ad A M) (hlt : M' < M) (hm : nc_mL M' ≤ 45) : (nd_rm M').frames + 1 ≤ R.frames ∧ 8 + (nc_mL M' + 11) + (nd_rm M').locals ≤ R.locals := by
  rw [C.2.2.2.2.2.2.2.2.1]
  unfold nd_rm
  exact ⟨hlt, by show 8 + (nc_mL M' + 11) + 64 * M' ≤ 64 * M; omega⟩
theorem nd_callB' {M' k : Nat} (C : nd_Cx p R s m args meth c D cA ad A M) (hlt : M' < M) (hM' : M' < nc_many) (hl : Cond.methodLink (nc_cn (nc_own M)) k (nc_y M') ∈ nc_tb) : CallB R s args (nc_cn (nc_own M)) k (nc_y M') (nc_b M') (nc_mL M') (nc_rt (nc_rk M')) (nd_ws M') (nd_rm M') 0 0 (nc_mq M').2 := by
  obtain ⟨f1, f2, f3, f4, f5, f6, f7, f8, f9, f10, f11⟩ := nd_m_facts hM'
  exact callB_of _ C.2.2.2.2.1 (nd_goodIn hM') rfl rfl rfl (C.2.2.2.2.1 _ f4) (C.2.2.2.2.1 _ hl) ⟨f7, f8, f9⟩ (nd_roomR C hlt f10)
theorem nd_stack {n : Nat} : st.map (nc_v ad) = ((st.take n).reverse.map (nc_v ad)).reverse ++ (st.drop n).map (nc_v ad) := by
  rw [List.map_reverse, List.reverse_reverse, ← List.map_append, List.take_append_drop]
theorem nd_so_take {n : Nat} (h : nc_Sok st) : nc_Sok (st.take n).reverse := fun v hv => h v (List.mem_of_mem_take (List.mem_reverse.mp hv))
theorem nd_so_drop {n : Nat} (h : nc_Sok st) : nc_Sok (st.drop n) := fun v hv => h v (List.mem_of_mem_drop hv)
theorem nd_s_invokestatic (C : nd_Cx p R s m args meth c D cA ad A M) (hk : ∀ pc L st w, κ pc L st w = some r → nd_G p l e R s m args below meth c D cA ad A M r pc L st w) {k : Nat} (hcall : ∀ M' as w r, M' < M → call M' as w = some r → nc_Sok as → nd_Con l M' as w r) (hd : decode (nc_b M) pc = .ok (.invokestatic k, 3)) (h : nc_ex call M (.invokestatic k) pc L st w κ = some r) : nd_G p l e R s m args below meth c D cA ad A M r pc L st w := by
  intro ls H locs hl hL hS hP hD hV
  simp only [nc_ex] at h
  unfold nc_inS at h
  split at h
  next y x rs hq1 =>
      have hq : (nc_iv M k).1 ≠ 9 := by rw [hq1]; decide
      obtain ⟨f1, f2, -⟩ := nd_iv_ok C.2.2.2.2.2.2.2.1 hq
      rw [hq1] at f1
      rcases hb : Nat.ble (nc_cats rs) 8 with _ | _
      · rw [hb] at h
        cases h
      rw [hb] at h
      refine va_mmax C.1 C.2.1 (C.2.2.1.trans hl.1.symm) C.2.2.2.1 (C.2.2.2.2.1 _ f1) (C.2.2.2.2.1 _ nc_w_max1) (C.2.2.2.2.1 _ nc_w_math) (C.2.2.2.2.1 _ nc_w_max2) ?_ ?_ (Nat.zero_le _) (Nat.zero_le _) hd (hk _ _ _ _ h ls H locs hl hL (nc_so_c trivial (nc_so_t (nc_so_t hS))) hP hD hV)
      · rw [C.2.2.2.2.2.2.2.2.1]
        exact f2
      · rw [nc_cats_eq, C.2.2.2.2.2.2.2.2.1]
        have := Nat.le_of_ble_eq_true hb
        show nc_cats rs + 13 ≤ 64 * M
        omega
  next y x rs hq1 =>
      have hq : (nc_iv M k).1 ≠ 9 := by rw [hq1]; decide
      obtain ⟨f1, f2, -⟩ := nd_iv_ok C.2.2.2.2.2.2.2.1 hq
      rw [hq1] at f1
      rcases hb : Nat.ble (nc_cats rs) 8 with _ | _
      · rw [hb] at h
        cases h
      rw [hb] at h
      refine va_mmin C.1 C.2.1 (C.2.2.1.trans hl.1.symm) C.2.2.2.1 (C.2.2.2.2.1 _ f1) (C.2.2.2.2.1 _ nc_w_min1) (C.2.2.2.2.1 _ nc_w_math) (C.2.2.2.2.1 _ nc_w_min2) ?_ ?_ (Nat.zero_le _) (Nat.zero_le _) hd (hk _ _ _ _ h ls H locs hl hL (nc_so_c trivial (nc_so_t (nc_so_t hS))) hP hD hV)
      · rw [C.2.2.2.2.2.2.2.2.1]
        exact f2
      · rw [nc_cats_eq, C.2.2.2.2.2.2.2.2.1]
        have := Nat.le_of_ble_eq_true hb
        show nc_cats rs + 13 ≤ 64 * M
        omega
  next x rs hq1 =>
      have hq : (nc_iv M k).1 ≠ 9 := by rw [hq1]; decide
      obtain ⟨f1, f2, -⟩ := nd_iv_ok C.2.2.2.2.2.2.2.1 hq
      rw [hq1] at f1
      rcases hb : Nat.ble (nc_cats rs) 8 with _ | _
      · rw [hb] at h
        cases h
      rw [hb] at h
      refine va_mabs C.1 C.2.1 (C.2.2.1.trans hl.1.symm) C.2.2.2.1 (C.2.2.2.2.1 _ f1) (C.2.2.2.2.1 _ nc_w_abs1) (C.2.2.2.2.1 _ nc_w_math) (C.2.2.2.2.1 _ nc_w_abs2) ?_ ?_ (Nat.zero_le _) (Nat.zero_le _) hd (hk _ _ _ _ h ls H locs hl hL (nc_so_c trivial (nc_so_t hS)) hP hD hV)
      · rw [C.2.2.2.2.2.2.2.2.1]
        exact f2
      · rw [nc_cats_eq, C.2.2.2.2.2.2.2.2.1]
        have := Nat.le_of_ble_eq_true hb
        show nc_cats rs + 13 ≤ 64 * M
        omega
  next n dp q2 sp q1 rs hq1 =>
      have hq : (nc_iv M k).1 ≠ 9 := by rw [hq1]; decide
      obtain ⟨f1, f2, -⟩ := nd_iv_ok C.2.2.2.2.2.2.2.1 hq
      rw [hq1] at f1
      rcases hb : Nat.ble (nc_cats rs) 8 with _ | _
      · rw [hb] at h
        cases h
      rw [hb] at h
      simp only [cond_true, nc_copy] at h
      by_cases hbd : (sp < 0 ∨ dp < 0 ∨ n < 0) ∨ nc_al q1.1 < sp.toNatClampNeg + n.toNatClampNeg ∨ nc_al q2.1 < dp.toNatClampNeg + n.toNatClampNeg
      · rw [if_pos hbd] at h
        cases h
      rw [if_neg hbd] at h
      obtain ⟨t0, a0⟩ := q1
      obtain ⟨t, a⟩ := q2
      simp only [not_or] at hbd
      obtain ⟨⟨b1, b2, b3⟩, b4, b5⟩ := hbd
      have hfr : 1 ≤ R.frames := by
        rw [C.2.2.2.2.2.2.2.2.1]
        exact f2
      have hlo : ((rs.map (nc_v ad)).map fun v => v.category).sum + (nativeFrameWords "java/lang/System" "arraycopy" 5 + 11) ≤ R.locals := by
        rw [nc_cats_eq, C.2.2.2.2.2.2.2.2.1]
        have := Nat.le_of_ble_eq_true hb
        have e9 : nativeFrameWords "java/lang/System" "arraycopy" 5 = 7 := by decide +kernel
        rw [e9]
        show nc_cats rs + (7 + 11) ≤ 64 * M
        omega
      rcases hb1 : (Nat.beq (nc_ak t0) 0 && Nat.beq (nc_ak t) 0) with _ | _
      · rw [hb1] at h
        rcases hb2 : (Nat.beq (nc_ak t0) 3 && Nat.beq (nc_ak t) 3) with _ | _
        · rw [hb2] at h
          cases h
        rw [hb2] at h
        rw [Bool.and_eq_true] at hb2
        have k0 : nc_ak t0 = 3 := Nat.eq_of_beq_eq_true hb2.1
        have k1 : nc_ak t = 3 := Nat.eq_of_beq_eq_true hb2.2
        have h90 : nc_ak t0 ≠ 9 := by rw [k0]; decide
        have h91 : nc_ak t ≠ 9 := by rw [k1]; decide
        obtain ⟨p0, hp0, hp1⟩ := nc_W_at (ad := ad) (cA := cA) (nd_ok_arr (nc_so_h (nc_so_t (nc_so_t (nc_so_t (nc_so_t hS))))) h90)
        obtain ⟨p2, hp2, hp3⟩ := nc_W_at (ad := ad) (cA := cA) (nd_ok_arr (nc_so_h (nc_so_t (nc_so_t hS))) h91)
        have he0 := hp1 w
        have he1 := hp3 w
        have hac0 : ∀ w, nc_ac ad w t0 a0 = .inr (.inl (w.2 t0 a0)) := fun w => by simp [nc_ac, k0]
        have hac1 : ∀ w, nc_ac ad w t a = .inr (.inl (w.2 t a)) := fun w => by simp [nc_ac, k1]
        rw [nd_cell_a h90, hac0, k0] at he0
        rw [nd_cell_a h91, hac1, k1] at he1
        refine va_copyl C.1 C.2.1 (C.2.2.1.trans hl.1.symm) C.2.2.2.1 (C.2.2.2.2.1 _ f1) (C.2.2.2.2.1 _ nc_w_ac1) (C.2.2.2.2.1 _ nc_w_ac2) (C.2.2.2.2.1 _ nc_w_sys) C.2.2.2.2.2.1 hP hD hV p0 p2 3 3 he0 he1 rfl rfl rfl b1 b2 b3 (Nat.le_of_not_lt b4) (Nat.le_of_not_lt b5) (fun _ _ => rfl) hfr hlo hd (fun H1 locs1 hP1 hD1 hV1 => ?_)
        have hcl := nc_W_set (ad := ad) (cA := cA) (w := w) (w' := nc_cpl w t0 a0 sp.toNatClampNeg t a dp.toNatClampNeg n.toNatClampNeg) hp2 (fun q' hq' => nc_cpl_cell hq') (cl := .inl (cA 3, nc_al t, .inr (.inl (va_cpy (w.2 t0 a0) (w.2 t a) sp.toNatClampNeg dp.toNatClampNeg n.toNatClampNeg)))) (by
          rw [nd_cell_a h91, hac1, k1, nd_cpy_l])
        rw [hcl] at hP1 hD1
        exact hk _ _ _ _ h ls H1 locs1 hl hL (nc_so_t (nc_so_t (nc_so_t (nc_so_t (nc_so_t hS))))) hP1 hD1 hV1
      · rw [hb1] at h
        rw [Bool.and_eq_true] at hb1
        have k0 : nc_ak t0 = 0 := Nat.eq_of_beq_eq_true hb1.1
        have k1 : nc_ak t = 0 := Nat.eq_of_beq_eq_true hb1.2
        have h90 : nc_ak t0 ≠ 9 := by rw [k0]; decide
        have h91 : nc_ak t ≠ 9 := by rw [k1]; decide
        obtain ⟨p0, hp0, hp1⟩ := nc_W_at (ad := ad) (cA := cA) (nd_ok_arr (nc_so_h (nc_so_t (nc_so_t (nc_so_t (nc_so_t hS))))) h90)
        obtain ⟨p2, hp2, hp3⟩ := nc_W_at (ad := ad) (cA := cA) (nd_ok_arr (nc_so_h (nc_so_t (nc_so_t hS))) h91)
        have he0 := hp1 w
        have he1 := hp3 w
        rw [nd_cell_a h90, nd_ac_i (by rw [k0]; decide) (by rw [k0]; decide), k0] at he0
        rw [nd_cell_a h91, nd_ac_i (by rw [k1]; decide) (by rw [k1]; decide), k1] at he1
        refine va_copyi C.1 C.2.1 (C.2.2.1.trans hl.1.symm) C.2.2.2.1 (C.2.2.2.2.1 _ f1) (C.2.2.2.2.1 _ nc_w_ac1) (C.2.2.2.2.1 _ nc_w_ac2) (C.2.2.2.2.1 _ nc_w_sys) C.2.2.2.2.2.1 hP hD hV p0 p2 0 0 he0 he1 rfl rfl rfl b1 b2 b3 (Nat.le_of_not_lt b4) (Nat.le_of_not_lt b5) (fun _ _ => rfl) hfr hlo hd (fun H1 locs1 hP1 hD1 hV1 => ?_)
        have hcl := nc_W_set (ad := ad) (cA := cA) (w := w) (w' := nc_cpi w t0 a0 sp.toNatClampNeg t a dp.toNatClampNeg n.toNatClampNeg) hp2 (fun q' hq' => nc_cpi_cell hq') (cl := .inl (cA 0, nc_al t, .inl (va_cpy (w.1 t0 a0) (w.1 t a) sp.toNatClampNeg dp.toNatClampNeg n.toNatClampNeg))) (by
          rw [nd_cell_a h91, nd_ac_i (by rw [k1]; decide) (by rw [k1]; decide), k1, nd_cpy_i])
        rw [hcl] at hP1 hD1
        exact hk _ _ _ _ h ls H1 locs1 hl hL (nc_so_t (nc_so_t (nc_so_t (nc_so_t (nc_so_t hS))))) hP1 hD1 hV1
  next st xx st9 hq1 =>
      have hq : (nc_iv M k).1 ≠ 9 := by rw [hq1]; decide
      obtain ⟨f1, f2, f3⟩ := nd_iv_ok C.2.2.2.2.2.2.2.1 hq
      rw [hq1] at f1 f3
      generalize (nc_iv M k).2.1 = M' at h f1 f3
      generalize (nc_iv M k).2.2 = n at h f3
      obtain ⟨g1, g2, g3⟩ := f3.resolve_left (by decide)
      rcases hb : (Nat.ble n st.length && (Nat.ble (nc_cats (st.drop n)) 8 && Nat.blt M' M)) with _ | _
      · rw [hb] at h
        cases h
      rw [hb] at h
      simp only [Bool.and_eq_true] at hb
      obtain ⟨c1, c2, c3⟩ := hb
      have c1 := Nat.le_of_ble_eq_true c1
      have c2 := Nat.le_of_ble_eq_true c2
      have c3 := Nat.blt_eq.mp c3
      have hst : (Cond.static (nc_y M')) ∈ nc_tb := by
        have := (nd_m_facts g3).2.1
        rw [if_neg (by omega)] at this
        exact this
      rw [nd_stack (ad := ad) (n := n)]
      refine nd_behind (M' := M') (as := (st.take n).reverse) C (fun st w => hk _ _ st w) hl hL (nd_so_drop hS) hD hV (fun r' hr' => ?_) h
      refine va_runS ⟨C.1, C.2.1, C.2.2.1, C.2.2.2.1, C.2.2.2.2.1⟩ (hcall _ _ _ _ c3 hr' (nd_so_take hS) D cA ad H.size) ⟨nd_callB' C c3 g3 f1, C.2.2.2.2.1 _ hst⟩ ⟨nd_blind, fun U hU hW => ⟨rfl, nd_preU C hP hD hV U hU hW⟩⟩ rfl ?_ hl.1 rfl (lv_room (by rw [nc_cats_eq]; exact c2)) hd ⟨Nat.zero_le _, Nat.zero_le _⟩
      rw [← g2]
      simp only [List.length_map, List.length_reverse, List.length_take]
      exact Nat.min_eq_left c1
  next => cases h
theorem nd_idx_row {k : Nat} {x : Int32} {rs : List nc_V} {ls : Array Slot} {H : Heap} {locs : List Loc} (C : nd_Cx p R s m args meth c D cA ad A M) (hI : nd_IdxC l) (hM20 : 30 ≤ M) (f1 : Cond.methodLink (nc_cn (nc_own M)) k nc_idx ∈ nc_tb) (hl : lv_has ls (nc_mL M) (nc_lv ad 0 L)) (hL : nc_Lok (nc_mL M) L) (hS : nc_Sok rs) (hP : va_P D nc_cl (nc_W ad cA w) H) (hD : va_D A (nc_W ad cA w)) (hV : va_S A s.heap H locs) (c3 : nc_cats rs ≤ 8) (hd : decode (nc_b M) pc = .ok (.invokevirtual k, 3))
    (hk : nd_G p l e R s m args below meth c D cA ad A M r (pc + 3) L (.inl (nc_sig x) :: rs) w) : W p l e R s m args below meth c H locs 0 0 (MQ below (nd_Q D cA ad A r) args s 0 0 A) (F0 m pc ls (.int x :: .ref (ad 90 0) :: rs.map (nc_v ad))) := by
  have hsS := C.2.2.2.2.2.2.2.2.2.1.2.1.1
  have hsZ := C.2.2.2.2.2.2.2.2.2.1.2.1.2
  have hrun : va_Run p l e R s m args below meth c H locs 0 0 0 0 (F0 m pc ls (.int x :: .ref (ad 90 0) :: rs.map (nc_v ad))) (rs.map (nc_v ad)) (va_Qi (fun y (_ : Unit) => y = nc_sig x) (fun _ _ => True) (fun _ => False) (Value.ref (ad 90 0) :: [.int x]).toArray) (fun _ => False) := by
    refine va_runV (C := "java/lang/String") (As := [.int x]) ⟨C.1, C.2.1, C.2.2.1, C.2.2.2.1, C.2.2.2.2.1⟩ (hI (ad 90 0) (ad 91 0) H.size x A) ⟨callB_of 1 C.2.2.2.2.1 (fun w hw => ?_) rfl rfl rfl (C.2.2.2.2.1 _ nc_w_i4) (C.2.2.2.2.1 _ f1) ⟨by decide +kernel, by decide +kernel, by decide +kernel⟩ ?_, C.2.2.2.2.1 _ nc_w_i2, C.2.2.2.2.1 _ nc_w_i3⟩ ⟨?_, vk_recv (adK := fun _ => ad 90 0) (i := 0) hsS (Nat.zero_lt_one) hV, fun U hU hW => ⟨rfl, by rw [hU], ?_⟩⟩ rfl rfl hl.1 rfl (lv_room (by rw [nc_cats_eq]; exact c3)) hd ⟨Nat.zero_le _, Nat.zero_le _⟩
    · have hm : w ∈ nc_tb := by
        rcases List.mem_cons.mp hw with e | e
        · rw [e]
          exact nc_w_i1
        · exact e
      exact ⟨hm, good_of_word (nc_good hm)⟩
    · rw [C.2.2.2.2.2.2.2.2.1]
      unfold nd_rm
      exact ⟨by show 20 + 1 ≤ M; omega, by show 8 + (2 + 11) + 1000 ≤ 64 * M; omega⟩
    · intro a U g mk q
      obtain ⟨q0, q1, qS⟩ := q
      exact ⟨q0, q1, vk_S.moved (u := U) (U := U.calling g mk a) (Vm.Alike.refl U.vm) qS.1, va_Z.moved (u := U) (U := U.calling g mk a) (Vm.Alike.refl U.vm) qS.2⟩
    · rw [hU]
      exact ⟨vk_S.moved hW.alike (vk_S.kept hsS hV.2.1), va_Z.moved hW.alike (va_Z.kept hsZ hV.2.1)⟩
  refine va_calli hrun hV (fun q _ h => h.elim) (fun q h => h.elim) (fun z u t H1 locs1 ht hvm hw hB hz1 hk1 hV1 => ?_)
  subst hw
  have hH : ∀ q : Nat, q < H.size → H1[q]? = H[q]? := fun q hq => hk1 q hq (fun h => h)
  refine hk ls H1 locs1 hl hL (nc_so_c trivial hS) (fun k q h => (hP k q h).kept (hH q.1 ?_)) hD hV1
  have h1 := hP k q h
  exact nd_at_lt h1

theorem nd_s_invokevirtual (C : nd_Cx p R s m args meth c D cA ad A M) (hk : ∀ pc L st w, κ pc L st w = some r → nd_G p l e R s m args below meth c D cA ad A M r pc L st w) {k : Nat} (hI : nd_IdxC l) (hM20 : (nc_iv M k).1 = 6 → 30 ≤ M) (hcall : ∀ M' as w r, M' < M → call M' as w = some r → nc_Sok as → nd_Con l M' as w r) (hd : decode (nc_b M) pc = .ok (.invokevirtual k, 3)) (h : nc_ex call M (.invokevirtual k) pc L st w κ = some r) : nd_G p l e R s m args below meth c D cA ad A M r pc L st w := by
  intro ls H locs hl hL hS hP hD hV
  simp only [nc_ex] at h
  unfold nc_inV at h
  rcases hb0 : (Nat.beq (nc_iv M k).1 0 && Nat.ble (nc_iv M k).2.2 st.length) with _ | _
  · rw [hb0] at h
    simp only [cond_false] at h
    split at h
    next x o rs =>
      rcases hb : (Nat.beq (nc_iv M k).1 6 && (Nat.beq o.1 90 && Nat.ble (nc_cats rs) 8)) with _ | _
      · rw [hb] at h
        cases h
      rw [hb] at h
      simp only [Bool.and_eq_true] at hb
      obtain ⟨c1, c2, c3⟩ := hb
      have c1 := Nat.eq_of_beq_eq_true c1
      have c2 := Nat.eq_of_beq_eq_true c2
      have c3 := Nat.le_of_ble_eq_true c3
      have ho : o = (90, 0) := by
        rcases nc_so_h (nc_so_t hS) with h1 | h1
        · have := nd_ok_t h1
          omega
        · exact h1
      subst ho
      obtain ⟨f1, f2, -⟩ := nd_iv_ok C.2.2.2.2.2.2.2.1 (k := k) (by rw [c1]; decide)
      rw [c1] at f1
      exact nd_idx_row C hI (hM20 c1) f1 hl hL (nc_so_t (nc_so_t hS)) hP hD hV c3 hd (hk _ _ _ _ h)
    next => cases h
  · rw [hb0] at h
    simp only [cond_true] at h
    simp only [Bool.and_eq_true] at hb0
    have hq1 := Nat.eq_of_beq_eq_true hb0.1
    have hn := Nat.le_of_ble_eq_true hb0.2
    obtain ⟨f1, f2, f3⟩ := nd_iv_ok C.2.2.2.2.2.2.2.1 (k := k) (by rw [hq1]; decide)
    rw [hq1] at f1 f3
    generalize (nc_iv M k).2.1 = M' at h f1 f3
    generalize (nc_iv M k).2.2 = n at h f3 hn
    obtain ⟨g1, g2, g3⟩ := f3.resolve_left (by decide)
    split at h
    next o rest hdr =>
      rcases hb : (Nat.beq o.1 (nc_own M') && (Nat.ble (nc_cats rest) 8 && Nat.blt M' M)) with _ | _
      · rw [hb] at h
        cases h
      rw [hb] at h
      simp only [Bool.and_eq_true] at hb
      obtain ⟨c1, c2, c3⟩ := hb
      have c1 := Nat.eq_of_beq_eq_true c1
      have c2 := Nat.le_of_ble_eq_true c2
      have c3 := Nat.blt_eq.mp c3
      have hSd := nd_so_drop (n := n) hS
      rw [hdr] at hSd
      obtain ⟨m1, m2, m3, m4, m5, m6, m7, m8, m9, m10, m11⟩ := nd_m_facts g3
      have hok : nc_ok o = true := by
        rcases nc_so_h hSd with h1 | h1
        · exact h1
        · rw [h1] at c1
          have c1 : 90 = nc_own M' := c1
          omega
      have ht : o.1 < 13 := by
        rcases nd_ok_t hok with h1 | h1
        · exact h1
        · omega
      rw [if_pos g1.symm] at m2
      have m3 := m3.resolve_left (by omega)
      obtain ⟨t, a⟩ := o
      obtain ⟨q0, hq0, hq2⟩ := nc_W_at (ad := ad) (cA := cA) hok
      have he := hq2 w
      rw [nd_cell_o ht] at he
      have hcl : (nc_y M').cls = nc_cn t := by
        rw [m6]
        exact congrArg nc_cn c1.symm
      have e1 : st.map (nc_v ad) = ((st.take n).reverse.map (nc_v ad)).reverse ++ .ref (ad t a) :: rest.map (nc_v ad) := by
        rw [nd_stack (n := n), hdr]
        rfl
      rw [e1]
      refine nd_behind (M' := M') (as := .inr (.inr (t, a)) :: (st.take n).reverse) C (fun st w => hk _ _ st w) hl hL (nc_so_t hSd) hD hV (fun r' hr' => ?_) h
      refine va_runV (C := (nc_y M').cls) ⟨C.1, C.2.1, C.2.2.1, C.2.2.2.1, C.2.2.2.2.1⟩ (hcall _ _ _ _ c3 hr' (nc_so_c (Or.inl hok) (nd_so_take hS)) D cA ad H.size) ⟨nd_callB' C c3 g3 f1, C.2.2.2.2.1 _ m2, C.2.2.2.2.1 _ m3⟩ ⟨nd_blind, ?_, fun U hU hW => ⟨rfl, nd_preU C hP hD hV U hU hW⟩⟩ rfl ?_ hl.1 rfl (lv_room (by rw [nc_cats_eq]; exact c2)) hd ⟨Nat.zero_le _, Nat.zero_le _⟩
      · rw [hcl]
        exact va_recv C.2.2.2.2.2.1 hP (nd_cl_at ht) he
      · rw [← g2]
        simp only [List.length_map, List.length_reverse, List.length_take]
        exact Nat.min_eq_left hn
    next => cases h
/-! RETURNS -/
theorem nd_s_ireturn (C : nd_Cx p R s m args meth c D cA ad A M) (hk : ∀ pc L st w, κ pc L st w = some r → nd_G p l e R s m args below meth c D cA ad A M r pc L st w)  (hd : decode (nc_b M) pc = .ok (.ireturn, 1)) (h : nc_ex call M (.ireturn) pc L st w κ = some r) : nd_G p l e R s m args below meth c D cA ad A M r pc L st w := by
  intro ls H locs hl hL hS hP hD hV
  simp only [nc_ex] at h
  split at h
  next x =>
    rcases hb : Nat.beq (nc_rk M) 1 with _ | _
    · rw [hb] at h
      simp only [cond_false] at h
      rcases hb3 : Nat.beq (nc_rk M) 3 with _ | _
      · rw [hb3] at h
        cases h
      rw [hb3] at h
      simp only [cond_true, nc_z] at h
      have hrk := Nat.eq_of_beq_eq_true hb3
      by_cases hz : x = 0 ∨ x = 1
      · rw [if_pos hz] at h
        cases h
        have hr := C.2.2.2.2.2.2.2.2.2.2.2
        rw [hrk] at hr
        exact W.zret (v := x) (ty := .boolean) (Qc := nd_Q D cA ad A (some (.inl x), w)) (free := A) C.1 C.2.1 hr (by rcases hz with e | e <;> subst e <;> rfl) (fun t ht hW => ⟨⟨x, (), rfl, rfl, by rw [ht]; exact hP, va_K.moved hW.alike C.2.2.2.2.2.1, hD⟩, hV.F ht⟩) hV.2.2 hd C.2.2.2.2.2.2.2.2.2.2.1
      · rw [if_neg hz] at h
        cases h
    · rw [hb] at h
      have hrk := Nat.eq_of_beq_eq_true hb
      cases h
      have hr := C.2.2.2.2.2.2.2.2.2.2.2
      rw [hrk] at hr
      exact W.iret (v := x) (Qc := nd_Q D cA ad A (some (.inl x), w)) (free := A) C.1 C.2.1 hr (fun t ht hW => ⟨⟨x, (), rfl, rfl, by rw [ht]; exact hP, va_K.moved hW.alike C.2.2.2.2.2.1, hD⟩, hV.F ht⟩) hV.2.2 hd C.2.2.2.2.2.2.2.2.2.2.1
  next => cases h
theorem nd_s_lreturn (C : nd_Cx p R s m args meth c D cA ad A M) (hk : ∀ pc L st w, κ pc L st w = some r → nd_G p l e R s m args below meth c D cA ad A M r pc L st w)  (hd : decode (nc_b M) pc = .ok (.lreturn, 1)) (h : nc_ex call M (.lreturn) pc L st w κ = some r) : nd_G p l e R s m args below meth c D cA ad A M r pc L st w := by
  intro ls H locs hl hL hS hP hD hV
  simp only [nc_ex] at h
  split at h
  next x =>
    rcases hb : Nat.beq (nc_rk M) 2 with _ | _
    · rw [hb] at h
      cases h
    · rw [hb] at h
      have hrk := Nat.eq_of_beq_eq_true hb
      cases h
      have hr := C.2.2.2.2.2.2.2.2.2.2.2
      rw [hrk] at hr
      exact W.lret (v := x) (Qc := nd_Q D cA ad A (some (.inr (.inl x)), w)) (free := A) C.1 C.2.1 hr (fun t ht hW => ⟨⟨x, (), rfl, rfl, by rw [ht]; exact hP, va_K.moved hW.alike C.2.2.2.2.2.1, hD⟩, hV.F ht⟩) hV.2.2 hd C.2.2.2.2.2.2.2.2.2.2.1
  next => cases h
theorem nd_s_return (C : nd_Cx p R s m args meth c D cA ad A M) (hk : ∀ pc L st w, κ pc L st w = some r → nd_G p l e R s m args below meth c D cA ad A M r pc L st w)  (hd : decode (nc_b M) pc = .ok (.return_, 1)) (h : nc_ex call M (.return_) pc L st w κ = some r) : nd_G p l e R s m args below meth c D cA ad A M r pc L st w := by
  intro ls H locs hl hL hS hP hD hV
  simp only [nc_ex] at h
  split at h
  next =>
    rcases hb : Nat.beq (nc_rk M) 0 with _ | _
    · rw [hb] at h
      cases h
    · rw [hb] at h
      have hrk := Nat.eq_of_beq_eq_true hb
      cases h
      have hr := C.2.2.2.2.2.2.2.2.2.2.2
      rw [hrk] at hr
      exact W.vret (Qc := nd_Q D cA ad A (none, w)) (free := A) C.1 C.2.1 hr (fun t ht hW => ⟨⟨(), rfl, trivial, by rw [ht]; exact hP, va_K.moved hW.alike C.2.2.2.2.2.1, hD⟩, hV.F ht⟩) hV.2.2 hd C.2.2.2.2.2.2.2.2.2.2.1
  next => cases h
end SIM3
