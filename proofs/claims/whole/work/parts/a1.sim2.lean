/-! FIELDS -/
theorem nd_fd_ok {ow k : Nat} (h : (nc_fd ow k).1 ≠ 99) : nc_FF ow (k, nc_fd ow k) := by
  have h1 : nc_fd ow k = nc_look (99, 99) k (nc_look [] ow nc_fdT) := rfl
  rcases nc_look_mem ((99, 99) : Nat × Nat) k (nc_look [] ow nc_fdT) with h2 | h2
  · rw [h1, h2] at h
    exact absurd rfl h
  · rcases nc_look_mem ([] : List (Nat × Nat × Nat)) ow nc_fdT with h3 | h3
    · rw [h3] at h2
      cases h2
    · exact nc_fall _ h3 _ h2
theorem nd_cl_at {t : Nat} (h : t < 13) : nc_cl[t]? = some (nc_cn t, nc_T t, nc_nf t) := by
  match t, h with
  | 0, _ => rfl
  | 1, _ => rfl
  | 2, _ => rfl
  | 3, _ => rfl
  | 4, _ => rfl
  | 5, _ => rfl
  | 6, _ => rfl
  | 7, _ => rfl
  | 8, _ => rfl
  | 9, _ => rfl
  | 10, _ => rfl
  | 11, _ => rfl
  | 12, _ => rfl
  | t + 13, h => omega
theorem nd_lw {t : Nat} (h : t < 13) : ∀ w ∈ u_ws (nc_cn t) (nc_T t) (nc_nf t), w ∈ nc_tb := by
  match t, h with
  | 0, _ => exact nc_lw_0
  | 1, _ => exact nc_lw_1
  | 2, _ => exact nc_lw_2
  | 3, _ => exact nc_lw_3
  | 4, _ => exact nc_lw_4
  | 5, _ => exact nc_lw_5
  | 6, _ => exact nc_lw_6
  | 7, _ => exact nc_lw_7
  | 8, _ => exact nc_lw_8
  | 9, _ => exact nc_lw_9
  | 10, _ => exact nc_lw_10
  | 11, _ => exact nc_lw_11
  | 12, _ => exact nc_lw_12
  | t + 13, h => omega
theorem nd_tyn {t : Nat} (h : t < 13) : ∃ ty0 : Nat → FieldType, (∀ k, k < nc_nf t → parseFieldDescriptor (nc_T t k).2.2.1 = some (ty0 k)) ∧ ∀ a, a < nc_nf t → ∀ b, b < nc_nf t → a ≠ b → (nc_T t a).2.1 ≠ (nc_T t b).2.1 := by
  match t, h with
  | 0, _ => exact ⟨tyX0, tyX0_ok, nmX0⟩
  | 1, _ => exact ⟨tyX1, tyX1_ok, nmX1⟩
  | 2, _ => exact ⟨tyX2, tyX2_ok, nmX2⟩
  | 3, _ => exact ⟨tyX3, tyX3_ok, nmX3⟩
  | 4, _ => exact ⟨tyX4, tyX4_ok, nmX4⟩
  | 5, _ => exact ⟨tyX5, tyX5_ok, nmX5⟩
  | 6, _ => exact ⟨tyX6, tyX6_ok, nmX6⟩
  | 7, _ => exact ⟨tyX7, tyX7_ok, nmX7⟩
  | 8, _ => exact ⟨tyX8, tyX8_ok, nmX8⟩
  | 9, _ => exact ⟨tyX9, tyX9_ok, nmX9⟩
  | 10, _ => exact ⟨tyX10, tyX10_ok, nmX10⟩
  | 11, _ => exact ⟨tyX11, tyX11_ok, nmX11⟩
  | 12, _ => exact ⟨tyX12, tyX12_ok, nmX12⟩
  | t + 13, h => omega
/-- a field's kind is its type -/
def nd_kty (k : Nat) : FieldType := match k with
  | 0 => .int
  | 1 => .long
  | _ => .boolean
theorem nd_kt_all : ((List.range 13).all fun t => (List.range (nc_nf t)).all fun k => Nat.beq (nc_fk t k) 2 || (!(nc_T t k).2.2.2 && decide (parseFieldDescriptor (nc_T t k).2.2.1 = some (nd_kty (nc_fk t k))))) = true := by decide +kernel
theorem nd_kt {t k : Nat} (ht : t < 13) (hk : k < nc_nf t) (h : nc_fk t k ≠ 2) : (nc_T t k).2.2.2 = false ∧ parseFieldDescriptor (nc_T t k).2.2.1 = some (nd_kty (nc_fk t k)) := by
  have h1 := List.all_eq_true.mp (List.all_eq_true.mp nd_kt_all t (List.mem_range.mpr ht)) k (List.mem_range.mpr hk)
  rw [Bool.or_eq_true, Bool.and_eq_true] at h1
  rcases h1 with h1 | ⟨h1, h2⟩
  · exact absurd (Nat.eq_of_beq_eq_true h1) h
  · exact ⟨by simpa using h1, of_decide_eq_true h2⟩
theorem nd_fr_all : (nc_U.all fun q => (List.range (nc_nf q.1)).all fun k => !(Nat.beq (nc_fk q.1 k) 2) || nc_ok (nc_fr q.1 k q.2)) = true := by decide +kernel
theorem nd_fr_ok {q : Nat × Nat} {k : Nat} (h : nc_ok q = true) (hk : k < nc_nf q.1) (h2 : nc_fk q.1 k = 2) : nc_ok (nc_fr q.1 k q.2) = true := by
  have h1 := List.all_eq_true.mp (List.all_eq_true.mp nd_fr_all q (nc_U_ok h)) k (List.mem_range.mpr hk)
  rw [h2] at h1
  simpa using h1
theorem nd_cell_o {ad : Nat → Nat → Nat} {cA : Nat → ClassId} {w : nc_H} {t a : Nat} (h : t < 13) : nc_cell ad cA w (t, a) = .inr (t, (List.range (nc_nf t)).map (nc_fv ad w t a)) := by
  unfold nc_cell
  rw [if_pos (by show t < 100; omega)]
theorem nd_map_set {f f' : Nat → Value} {n k : Nat} {v : Value} (h1 : f' k = v) (h2 : ∀ j, j ≠ k → f' j = f j) : ((List.range n).map f).set k v = (List.range n).map f' := by
  apply List.ext_getElem?
  intro j
  rw [List.getElem?_set, List.getElem?_map, List.getElem?_map, List.length_map]
  by_cases e : k = j
  · subst e
    rw [if_pos rfl]
    by_cases hl : k < n
    · rw [if_pos (by simpa using hl), List.getElem?_range hl]
      simp [h1]
    · rw [if_neg (by simpa using hl)]
      rw [List.getElem?_eq_none (by simp; omega)]
      rfl
  · rw [if_neg e]
    by_cases hl : j < n
    · rw [List.getElem?_range hl]
      simp [h2 j (fun q => e q.symm)]
    · rw [List.getElem?_eq_none (by simp; omega)]
      rfl
theorem nd_nW_use {s : State} {args : Array Value} {a b n d h : String} {k : Nat} (hz : va_Nw (.fieldLinkNest a k b n d h) s) : (Cond.fieldLinkNest a k b n d h).before args s = true := va_Nw.use rfl hz
section SIM2
variable {p : Program} {l : Launch} {e : Env} {R : Room} {s : State} {m : MethodId} {args : Array Value} {below : List Frame} {meth : Method} {c : Code} {D : va_G} {cA : Nat → ClassId} {ad : Nat → Nat → Nat} {A : Nat → Prop} {M : Nat}
  {call : Nat → List nc_V → nc_H → Option nc_R} {pc : Nat} {L : nc_L} {st : List nc_V} {w : nc_H} {κ : nc_K} {r : nc_R}
theorem nd_ok_obj {o : Nat × Nat} {t : Nat} (hv : nc_vok (.inr (.inr o))) (hb : Nat.beq o.1 t = true) (h90 : t ≠ 90) : o.1 = t ∧ nc_ok o = true := by
  have e := Nat.eq_of_beq_eq_true hb
  refine ⟨e, ?_⟩
  rcases hv with h | h
  · exact h
  · rw [h] at e
    exact absurd e.symm h90
theorem nd_99 {a : Nat} : nc_ok (99, a) = false := by
  unfold nc_ok
  have : nc_look 0 99 nc_tags = 0 := by decide +kernel
  show Nat.blt a (nc_look 0 99 nc_tags) = false
  rw [this]
  rfl
theorem nd_s_getfield (C : nd_Cx p R s m args meth c D cA ad A M) (hk : ∀ pc L st w, κ pc L st w = some r → nd_G p l e R s m args below meth c D cA ad A M r pc L st w) {k : Nat} (hd : decode (nc_b M) pc = .ok (.getfield k, 3)) (h : nc_ex call M (.getfield k) pc L st w κ = some r) : nd_G p l e R s m args below meth c D cA ad A M r pc L st w := by
  intro ls H locs hl hL hS hP hD hV
  simp only [nc_ex] at h
  split at h
  next o rs =>
    rcases hb : Nat.beq o.1 (nc_fd (nc_own M) k).1 with _ | _
    · rw [hb] at h
      cases h
    rw [hb] at h
    have hvo : nc_vok (.inr (.inr o)) := nc_so_h hS
    have h99 : (nc_fd (nc_own M) k).1 ≠ 99 := by
      intro e
      rw [e] at hb
      rcases hvo with h1 | h1
      · have e1 := Nat.eq_of_beq_eq_true hb
        have h2 : nc_ok (99, o.2) = true := by
          rw [← e1]
          exact h1
        rw [nd_99] at h2
        cases h2
      · rw [h1] at hb
        cases hb
    have hc := nd_fd_ok h99
    generalize hfd : nc_fd (nc_own M) k = fd at h hb hc h99
    obtain ⟨t, i⟩ := fd
    obtain ⟨t', a⟩ := o
    obtain ⟨hw, ht, hi, hn⟩ := hc
    have ht : t < 13 := ht
    have hi : i < nc_nf t := hi
    have hn : (nc_T t i).1 = nc_cn t := hn
    have e1 : t' = t := Nat.eq_of_beq_eq_true hb
    subst e1
    have hok : nc_ok (t', a) = true := by
      rcases hvo with h1 | h1
      · exact h1
      · have : t' = 90 := congrArg Prod.fst h1
        omega
    have hn2 : ∀ x, s.fieldFound? (nc_T t' i).1 (nc_T t' i).2.1 (nc_T t' i).2.2.1 = some x → s.fieldFound? (nc_cn t') (nc_T t' i).2.1 (nc_T t' i).2.2.1 = some x := fun x hx => by rw [hn] at hx; exact hx
    obtain ⟨q0, hq0, hq1⟩ := nc_W_at (ad := ad) (cA := cA) hok
    have he := hq1 w
    rw [nd_cell_o ht] at he
    have hN : (nc_own M, k, t', i) ∈ nc_nT → (Cond.fieldLinkNest (nc_cn (nc_own M)) k (nc_cn t') (nc_T t' i).2.1 (nc_T t' i).2.2.1 "NewsCows").before args s = true := by
      intro hw
      have hz : va_Nw (nc_nW (nc_own M, k, t', i)) s := C.2.2.2.2.2.2.2.2.2.1.2.2 _ hw
      unfold nc_nW at hz
      exact nd_nW_use hz
    have key : ∀ v : Value, nc_fv ad w t' a i = v → W p l e R s m args below meth c H locs 0 0 (MQ below (nd_Q D cA ad A r) args s 0 0 A) (F0 m (pc + 3) ls (v :: rs.map (nc_v ad))) → W p l e R s m args below meth c H locs 0 0 (MQ below (nd_Q D cA ad A r) args s 0 0 A) (F0 m pc ls (.ref (ad t' a) :: rs.map (nc_v ad))) := by
      intro v hv kk
      have hfv : ((List.range (nc_nf t')).map (nc_fv ad w t' a))[i]? = some v := by
        rw [List.getElem?_map, List.getElem?_range hi]
        show some _ = some v
        rw [hv]
      rcases hw with hw | hw
      · exact va_get C.1 C.2.1 (ref := nc_cn t') C.2.2.2.2.1 (nd_lw ht) C.2.2.2.1 C.2.2.2.2.2.1 hP q0 he (nd_cl_at ht) i hi (C.2.2.2.2.1 _ hw) hn2 hfv hd kk
      · exact va_getN C.1 C.2.1 (ref := nc_cn t') C.2.2.2.2.1 (nd_lw ht) C.2.2.2.1 C.2.2.2.2.2.1 hP q0 he (nd_cl_at ht) i hi (hN hw) hn2 hfv hd kk
    simp only [nc_getf, cond_true] at h
    split at h
    next hf => exact key (.int (w.1 t' a i)) (by simp [nc_fv, hf]) (hk _ _ _ _ h ls H locs hl hL (nc_so_c trivial (nc_so_t hS)) hP hD hV)
    next hf => exact key (.long (w.2 t' a i)) (by simp [nc_fv, hf]) (hk _ _ _ _ h ls H locs hl hL (nc_so_c trivial (nc_so_t hS)) hP hD hV)
    next hf => exact key (.ref (ad (nc_fr t' i a).1 (nc_fr t' i a).2)) (by simp [nc_fv, hf]) (hk _ _ _ _ h ls H locs hl hL (nc_so_c (Or.inl (nd_fr_ok (q := (t', a)) hok hi hf)) (nc_so_t hS)) hP hD hV)
    next hf => exact key (.int (w.1 t' a i)) (by simp [nc_fv, hf]) (hk _ _ _ _ h ls H locs hl hL (nc_so_c trivial (nc_so_t hS)) hP hD hV)
    next => cases h
  next => cases h
theorem nd_s_putfield (C : nd_Cx p R s m args meth c D cA ad A M) (hk : ∀ pc L st w, κ pc L st w = some r → nd_G p l e R s m args below meth c D cA ad A M r pc L st w) {k : Nat} (hd : decode (nc_b M) pc = .ok (.putfield k, 3)) (h : nc_ex call M (.putfield k) pc L st w κ = some r) : nd_G p l e R s m args below meth c D cA ad A M r pc L st w := by
  intro ls H locs hl hL hS hP hD hV
  simp only [nc_ex] at h
  split at h
  next v o rs =>
    rcases hb : Nat.beq o.1 (nc_fd (nc_own M) k).1 with _ | _
    · rw [hb] at h
      cases h
    rw [hb] at h
    have hvo : nc_vok (.inr (.inr o)) := nc_so_h (nc_so_t hS)
    have h99 : (nc_fd (nc_own M) k).1 ≠ 99 := by
      intro e
      rw [e] at hb
      rcases hvo with h1 | h1
      · have e1 := Nat.eq_of_beq_eq_true hb
        have h2 : nc_ok (99, o.2) = true := by
          rw [← e1]
          exact h1
        rw [nd_99] at h2
        cases h2
      · rw [h1] at hb
        cases hb
    have hc := nd_fd_ok h99
    generalize hfd : nc_fd (nc_own M) k = fd at h hb hc h99
    obtain ⟨t, i⟩ := fd
    obtain ⟨t', a⟩ := o
    obtain ⟨hw, ht, hi, hn⟩ := hc
    have ht : t < 13 := ht
    have hi : i < nc_nf t := hi
    have hn : (nc_T t i).1 = nc_cn t := hn
    have e1 : t' = t := Nat.eq_of_beq_eq_true hb
    subst e1
    have hok : nc_ok (t', a) = true := by
      rcases hvo with h1 | h1
      · exact h1
      · have : t' = 90 := congrArg Prod.fst h1
        omega
    have hn2 : ∀ x, s.fieldFound? (nc_T t' i).1 (nc_T t' i).2.1 (nc_T t' i).2.2.1 = some x → s.fieldFound? (nc_cn t') (nc_T t' i).2.1 (nc_T t' i).2.2.1 = some x := fun x hx => by rw [hn] at hx; exact hx
    obtain ⟨q0, hq0, hq1⟩ := nc_W_at (ad := ad) (cA := cA) hok
    have he := hq1 w
    rw [nd_cell_o ht] at he
    have hN : (nc_own M, k, t', i) ∈ nc_nT → (Cond.fieldLinkNest (nc_cn (nc_own M)) k (nc_cn t') (nc_T t' i).2.1 (nc_T t' i).2.2.1 "NewsCows").before args s = true := by
      intro hw
      have hz : va_Nw (nc_nW (nc_own M, k, t', i)) s := C.2.2.2.2.2.2.2.2.2.1.2.2 _ hw
      unfold nc_nW at hz
      exact nd_nW_use hz
    obtain ⟨ty0, hty, hnm⟩ := nd_tyn ht
    have key : ∀ (u : Value) (w' : nc_H), nc_fk t' i ≠ 2 → narrow (nd_kty (nc_fk t' i)) u = u → fits (nd_kty (nc_fk t' i)) u = true → (∀ q', q' ≠ (t', a) → nc_cell ad cA w' q' = nc_cell ad cA w q') → nc_fv ad w' t' a i = u → (∀ j, j ≠ i → nc_fv ad w' t' a j = nc_fv ad w t' a j) → κ (pc + 3) L rs w' = some r → W p l e R s m args below meth c H locs 0 0 (MQ below (nd_Q D cA ad A r) args s 0 0 A) (F0 m pc ls (u :: .ref (ad t' a) :: rs.map (nc_v ad))) := by
      intro u w' h2 hna hfi hce h3 h4 kk
      have hcl : (nc_W ad cA w).set q0 (ad t' a, .inr (t', ((List.range (nc_nf t')).map (nc_fv ad w t' a)).set i u)) = nc_W ad cA w' :=
        nc_W_set hq0 hce (by rw [nd_cell_o ht, nd_map_set h3 h4])
      have hkt := nd_kt ht hi h2
      have hlen : i < ((List.range (nc_nf t')).map (nc_fv ad w t' a)).length := by simpa using hi
      rcases hw with hw | hw
      · refine va_put C.1 C.2.1 (ref := nc_cn t') C.2.2.2.2.1 (nd_lw ht) ty0 hty hnm C.2.2.2.1 C.2.2.2.2.2.1 hP hD hV q0 he (nd_cl_at ht) i hi (C.2.2.2.2.1 _ hw) hn2 hkt.1 hkt.2 hna hfi hlen hd (fun H1 locs1 hP1 hD1 hV1 => ?_)
        rw [hcl] at hP1 hD1
        exact hk _ _ _ _ kk ls H1 locs1 hl hL (nc_so_t (nc_so_t hS)) hP1 hD1 hV1
      · refine va_putN C.1 C.2.1 (ref := nc_cn t') C.2.2.2.2.1 (nd_lw ht) ty0 hty hnm C.2.2.2.1 C.2.2.2.2.2.1 hP hD hV q0 he (nd_cl_at ht) i hi (hN hw) hn2 hkt.1 hkt.2 hna hfi hlen hd (fun H1 locs1 hP1 hD1 hV1 => ?_)
        rw [hcl] at hP1 hD1
        exact hk _ _ _ _ kk ls H1 locs1 hl hL (nc_so_t (nc_so_t hS)) hP1 hD1 hV1
    simp only [nc_putf, cond_true] at h
    split at h
    next x hf =>
      refine key (.int x) _ (by rw [hf]; decide) (by rw [hf]; rfl) (by rw [hf]; rfl) (fun q' hq' => nc_si_cell hq') ?_ (fun j hj => ?_) h
      · simp only [nc_fv, hf]
        show Value.int (if t' = t' ∧ a = a ∧ i = i then x else _) = _
        rw [if_pos ⟨rfl, rfl, rfl⟩]
      · unfold nc_fv
        show (match nc_fk t' j with | 1 => Value.long (w.2 t' a j) | 2 => Value.ref (ad (nc_fr t' j a).1 (nc_fr t' j a).2) | _ => Value.int (if t' = t' ∧ a = a ∧ j = i then x else w.1 t' a j)) = _
        rw [if_neg (fun q => hj q.2.2)]
        rfl
    next x hf =>
      refine key (.long x) _ (by rw [hf]; decide) (by rw [hf]; rfl) (by rw [hf]; rfl) (fun q' hq' => nc_sl_cell hq') ?_ (fun j hj => ?_) h
      · simp only [nc_fv, hf]
        show Value.long (if t' = t' ∧ a = a ∧ i = i then x else _) = _
        rw [if_pos ⟨rfl, rfl, rfl⟩]
      · unfold nc_fv
        show (match nc_fk t' j with | 1 => Value.long (if t' = t' ∧ a = a ∧ j = i then x else w.2 t' a j) | 2 => Value.ref (ad (nc_fr t' j a).1 (nc_fr t' j a).2) | _ => Value.int (w.1 t' a j)) = _
        rw [if_neg (fun q => hj q.2.2)]
        rfl
    next x hf =>
      unfold nc_z at h
      by_cases hz : x = 0 ∨ x = 1
      · rw [if_pos hz] at h
        refine key (.int x) _ (by rw [hf]; decide) (by rw [hf]; rcases hz with e | e <;> subst e <;> rfl) (by rw [hf]; rcases hz with e | e <;> subst e <;> rfl) (fun q' hq' => nc_si_cell hq') ?_ (fun j hj => ?_) h
        · simp only [nc_fv, hf]
          show Value.int (if t' = t' ∧ a = a ∧ i = i then x else _) = _
          rw [if_pos ⟨rfl, rfl, rfl⟩]
        · unfold nc_fv
          show (match nc_fk t' j with | 1 => Value.long (w.2 t' a j) | 2 => Value.ref (ad (nc_fr t' j a).1 (nc_fr t' j a).2) | _ => Value.int (if t' = t' ∧ a = a ∧ j = i then x else w.1 t' a j)) = _
          rw [if_neg (fun q => hj q.2.2)]
          rfl
      · rw [if_neg hz] at h
        cases h
    next => cases h
  next => cases h
/-! ARRAYS -/
theorem nd_ar_all : (nc_arT.all fun e => Nat.ble 100 e.1 && (Nat.ble e.2.1 4 && (Nat.blt e.2.2 4000 && (!(Nat.beq e.2.1 4) || Nat.ble e.2.2 8)))) = true := by decide +kernel
theorem nd_ar {t : Nat} (h : nc_ak t ≠ 9) : 100 ≤ t ∧ nc_ak t ≤ 4 ∧ nc_al t < 4000 ∧ (nc_ak t = 4 → nc_al t ≤ 8) := by
  rcases nc_look_mem ((9, 0) : Nat × Nat) t nc_arT with h1 | h1
  · exact absurd (by unfold nc_ak; rw [h1]) h
  · have h2 := List.all_eq_true.mp nd_ar_all _ h1
    simp only [Bool.and_eq_true, Bool.or_eq_true] at h2
    refine ⟨Nat.le_of_ble_eq_true h2.1, Nat.le_of_ble_eq_true h2.2.1, Nat.blt_eq.mp h2.2.2.1, fun e => ?_⟩
    rcases h2.2.2.2 with h3 | h3
    · have e2 : (nc_look (9, 0) t nc_arT).1 = 4 := e
      rw [e2] at h3
      cases h3
    · exact Nat.le_of_ble_eq_true h3
theorem nd_cell_a {w : nc_H} {t a : Nat} (h : nc_ak t ≠ 9) : nc_cell ad cA w (t, a) = .inl (cA (nc_ak t), nc_al t, nc_ac ad w t a) := by
  unfold nc_cell
  rw [if_neg (by show ¬ t < 100; have := (nd_ar h).1; omega)]
theorem nd_ok_arr {o : Nat × Nat} (hv : nc_vok (.inr (.inr o))) (h : nc_ak o.1 ≠ 9) : nc_ok o = true := by
  rcases hv with h1 | h1
  · exact h1
  · rw [h1] at h
    exact absurd (by decide +kernel) h
theorem nd_bd_some {i : Int32} {n : Nat} {f : Nat → Option nc_R} (h : nc_bd i n f = some r) : vp_in i n ∧ f i.toNatClampNeg = some r := by
  unfold nc_bd at h
  by_cases e : i < 0 ∨ n ≤ i.toNatClampNeg
  · rw [if_pos e] at h
    cases h
  · rw [if_neg e] at h
    exact ⟨e, h⟩
theorem nd_upd_si {w : nc_H} {t a j : Nat} {x : Int32} : upd (w.1 t a) j x = (nc_si w t a j x).1 t a := by
  funext k
  unfold upd nc_si
  by_cases e : k = j
  · simp [e]
  · simp [e]
theorem nd_upd_sl {w : nc_H} {t a j : Nat} {x : Int64} : vp_updL (w.2 t a) j x = (nc_sl w t a j x).2 t a := by
  funext k
  unfold vp_updL nc_sl
  by_cases e : k = j
  · simp [e]
  · simp [e]
theorem nd_ac_i {w : nc_H} {t a : Nat} (h3 : nc_ak t ≠ 3) (h4 : nc_ak t ≠ 4) : nc_ac ad w t a = .inl (w.1 t a) := by
  unfold nc_ac
  split
  next e => exact absurd e h3
  next e => exact absurd e h4
  next => rfl
theorem nd_s_iaload (C : nd_Cx p R s m args meth c D cA ad A M) (hk : ∀ pc L st w, κ pc L st w = some r → nd_G p l e R s m args below meth c D cA ad A M r pc L st w)  (hd : decode (nc_b M) pc = .ok (.iaload, 1)) (h : nc_ex call M (.iaload) pc L st w κ = some r) : nd_G p l e R s m args below meth c D cA ad A M r pc L st w := by
  intro ls H locs hl hL hS hP hD hV
  simp only [nc_ex] at h
  split at h
  next i o rs =>
    rcases hb : Nat.beq (nc_ak o.1) 0 with _ | _
    · rw [hb] at h
      cases h
    rw [hb] at h
    simp only [cond_true] at h
    obtain ⟨hin, h2⟩ := nd_bd_some h
    clear h
    have h := h2
    clear h2
    obtain ⟨t, a⟩ := o
    have hak : nc_ak t = 0 := Nat.eq_of_beq_eq_true hb
    have h9 : nc_ak t ≠ 9 := by rw [hak]; decide
    obtain ⟨q0, hq0, hq1⟩ := nc_W_at (ad := ad) (cA := cA) (nd_ok_arr (nc_so_h (nc_so_t hS)) h9)
    have he := hq1 w
    rw [nd_cell_a h9, nd_ac_i (by rw [hak]; decide) (by rw [hak]; decide), hak] at he
    exact va_iald C.1 C.2.1 C.2.2.2.2.2.1 hP q0 0 he rfl hin hd (hk _ _ _ _ h ls H locs hl hL (nc_so_c trivial (nc_so_t (nc_so_t hS))) hP hD hV)
  next => cases h
theorem nd_s_laload (C : nd_Cx p R s m args meth c D cA ad A M) (hk : ∀ pc L st w, κ pc L st w = some r → nd_G p l e R s m args below meth c D cA ad A M r pc L st w)  (hd : decode (nc_b M) pc = .ok (.laload, 1)) (h : nc_ex call M (.laload) pc L st w κ = some r) : nd_G p l e R s m args below meth c D cA ad A M r pc L st w := by
  intro ls H locs hl hL hS hP hD hV
  simp only [nc_ex] at h
  split at h
  next i o rs =>
    rcases hb : Nat.beq (nc_ak o.1) 3 with _ | _
    · rw [hb] at h
      cases h
    rw [hb] at h
    simp only [cond_true] at h
    obtain ⟨hin, h2⟩ := nd_bd_some h
    clear h
    have h := h2
    clear h2
    obtain ⟨t, a⟩ := o
    have hak : nc_ak t = 3 := Nat.eq_of_beq_eq_true hb
    have h9 : nc_ak t ≠ 9 := by rw [hak]; decide
    obtain ⟨q0, hq0, hq1⟩ := nc_W_at (ad := ad) (cA := cA) (nd_ok_arr (nc_so_h (nc_so_t hS)) h9)
    have he := hq1 w
    have hac : nc_ac ad w t a = .inr (.inl (w.2 t a)) := by simp [nc_ac, hak]
    rw [nd_cell_a h9, hac, hak] at he
    exact va_lald C.1 C.2.1 C.2.2.2.2.2.1 hP q0 3 he rfl hin hd (hk _ _ _ _ h ls H locs hl hL (nc_so_c trivial (nc_so_t (nc_so_t hS))) hP hD hV)
  next => cases h
theorem nd_s_aaload (C : nd_Cx p R s m args meth c D cA ad A M) (hk : ∀ pc L st w, κ pc L st w = some r → nd_G p l e R s m args below meth c D cA ad A M r pc L st w)  (hd : decode (nc_b M) pc = .ok (.aaload, 1)) (h : nc_ex call M (.aaload) pc L st w κ = some r) : nd_G p l e R s m args below meth c D cA ad A M r pc L st w := by
  intro ls H locs hl hL hS hP hD hV
  simp only [nc_ex] at h
  split at h
  next i o rs =>
    rcases hb : Nat.beq (nc_ak o.1) 4 with _ | _
    · rw [hb] at h
      cases h
    rw [hb] at h
    simp only [cond_true] at h
    obtain ⟨hin, h2⟩ := nd_bd_some h
    clear h
    have h := h2
    clear h2
    obtain ⟨t, a⟩ := o
    have hak : nc_ak t = 4 := Nat.eq_of_beq_eq_true hb
    have h9 : nc_ak t ≠ 9 := by rw [hak]; decide
    obtain ⟨q0, hq0, hq1⟩ := nc_W_at (ad := ad) (cA := cA) (nd_ok_arr (nc_so_h (nc_so_t hS)) h9)
    have he := hq1 w
    have hac : nc_ac ad w t a = .inr (.inr (.inr (.inr (fun j => some (ad 7 (2 + j)))))) := by simp [nc_ac, hak]
    rw [nd_cell_a h9, hac, hak] at he
    have hlt : i.toNatClampNeg < 8 := Nat.lt_of_lt_of_le (Nat.not_le.mp fun q => hin (Or.inr q)) ((nd_ar h9).2.2.2 hak)
    have hok : nc_ok (7, 2 + i.toNatClampNeg) = true := by
      unfold nc_ok
      have e : nc_look 0 7 nc_tags = 14 := by decide +kernel
      show Nat.blt (2 + i.toNatClampNeg) (nc_look 0 7 nc_tags) = true
      rw [e]
      exact Nat.blt_eq.mpr (by omega)
    exact va_aldq C.1 C.2.1 C.2.2.2.2.2.1 hP q0 4 he rfl hin hd (hk _ _ _ _ h ls H locs hl hL (nc_so_c (Or.inl hok) (nc_so_t (nc_so_t hS))) hP hD hV)
  next => cases h
theorem nd_s_baload (C : nd_Cx p R s m args meth c D cA ad A M) (hk : ∀ pc L st w, κ pc L st w = some r → nd_G p l e R s m args below meth c D cA ad A M r pc L st w)  (hd : decode (nc_b M) pc = .ok (.baload, 1)) (h : nc_ex call M (.baload) pc L st w κ = some r) : nd_G p l e R s m args below meth c D cA ad A M r pc L st w := by
  intro ls H locs hl hL hS hP hD hV
  simp only [nc_ex] at h
  split at h
  next i o rs =>
    rcases hb : (Nat.beq (nc_ak o.1) 1 || Nat.beq (nc_ak o.1) 2) with _ | _
    · rw [hb] at h
      cases h
    rw [hb] at h
    simp only [cond_true] at h
    obtain ⟨hin, h2⟩ := nd_bd_some h
    clear h
    have h := h2
    clear h2
    obtain ⟨t, a⟩ := o
    rw [Bool.or_eq_true] at hb
    rcases hb with hb | hb
    · have hak : nc_ak t = 1 := Nat.eq_of_beq_eq_true hb
      have h9 : nc_ak t ≠ 9 := by rw [hak]; decide
      obtain ⟨q0, hq0, hq1⟩ := nc_W_at (ad := ad) (cA := cA) (nd_ok_arr (nc_so_h (nc_so_t hS)) h9)
      have he := hq1 w
      rw [nd_cell_a h9, nd_ac_i (by rw [hak]; decide) (by rw [hak]; decide), hak] at he
      exact va_bald C.1 C.2.1 C.2.2.2.2.2.1 hP q0 1 he rfl hin hd (hk _ _ _ _ h ls H locs hl hL (nc_so_c trivial (nc_so_t (nc_so_t hS))) hP hD hV)
    · have hak : nc_ak t = 2 := Nat.eq_of_beq_eq_true hb
      have h9 : nc_ak t ≠ 9 := by rw [hak]; decide
      obtain ⟨q0, hq0, hq1⟩ := nc_W_at (ad := ad) (cA := cA) (nd_ok_arr (nc_so_h (nc_so_t hS)) h9)
      have he := hq1 w
      rw [nd_cell_a h9, nd_ac_i (by rw [hak]; decide) (by rw [hak]; decide), hak] at he
      exact va_zald C.1 C.2.1 C.2.2.2.2.2.1 hP q0 2 he rfl hin hd (hk _ _ _ _ h ls H locs hl hL (nc_so_c trivial (nc_so_t (nc_so_t hS))) hP hD hV)
  next => cases h
theorem nd_s_arraylength (C : nd_Cx p R s m args meth c D cA ad A M) (hk : ∀ pc L st w, κ pc L st w = some r → nd_G p l e R s m args below meth c D cA ad A M r pc L st w)  (hd : decode (nc_b M) pc = .ok (.arraylength, 1)) (h : nc_ex call M (.arraylength) pc L st w κ = some r) : nd_G p l e R s m args below meth c D cA ad A M r pc L st w := by
  intro ls H locs hl hL hS hP hD hV
  simp only [nc_ex] at h
  split at h
  next o rs =>
    rcases hb : Nat.ble (nc_ak o.1) 4 with _ | _
    · rw [hb] at h
      cases h
    rw [hb] at h
    obtain ⟨t, a⟩ := o
    have hak : nc_ak t ≤ 4 := Nat.le_of_ble_eq_true hb
    have h9 : nc_ak t ≠ 9 := by omega
    obtain ⟨q0, hq0, hq1⟩ := nc_W_at (ad := ad) (cA := cA) (nd_ok_arr (nc_so_h hS) h9)
    have he := hq1 w
    rw [nd_cell_a h9] at he
    have ht : ∃ ty, (nc_tys cA)[nc_ak t]? = some (cA (nc_ak t), ty) := by
      rcases (show nc_ak t = 0 ∨ nc_ak t = 1 ∨ nc_ak t = 2 ∨ nc_ak t = 3 ∨ nc_ak t = 4 by omega) with e | e | e | e | e <;> rw [e] <;> exact ⟨_, rfl⟩
    obtain ⟨ty, ht⟩ := ht
    exact va_alen C.1 C.2.1 C.2.2.2.2.2.1 hP q0 (nc_ak t) he ht rfl hd (hk _ _ _ _ h ls H locs hl hL (nc_so_c trivial (nc_so_t hS)) hP hD hV)
  next => cases h
theorem nd_s_iastore (C : nd_Cx p R s m args meth c D cA ad A M) (hk : ∀ pc L st w, κ pc L st w = some r → nd_G p l e R s m args below meth c D cA ad A M r pc L st w)  (hd : decode (nc_b M) pc = .ok (.iastore, 1)) (h : nc_ex call M (.iastore) pc L st w κ = some r) : nd_G p l e R s m args below meth c D cA ad A M r pc L st w := by
  intro ls H locs hl hL hS hP hD hV
  simp only [nc_ex] at h
  split at h
  next x i o rs =>
    rcases hb : Nat.beq (nc_ak o.1) 0 with _ | _
    · rw [hb] at h
      cases h
    rw [hb] at h
    simp only [cond_true] at h
    obtain ⟨hin, h2⟩ := nd_bd_some h
    clear h
    have h := h2
    clear h2
    obtain ⟨t, a⟩ := o
    have hak : nc_ak t = 0 := Nat.eq_of_beq_eq_true hb
    have h9 : nc_ak t ≠ 9 := by rw [hak]; decide
    obtain ⟨q0, hq0, hq1⟩ := nc_W_at (ad := ad) (cA := cA) (nd_ok_arr (nc_so_h (nc_so_t (nc_so_t hS))) h9)
    have he := hq1 w
    rw [nd_cell_a h9, nd_ac_i (by rw [hak]; decide) (by rw [hak]; decide), hak] at he
    refine va_iast C.1 C.2.1 C.2.2.2.2.2.1 hP hD hV q0 0 he rfl hin hd (fun H1 locs1 hP1 hD1 hV1 => ?_)
    have hcl := nc_W_set (ad := ad) (cA := cA) (w := w) (w' := nc_si w t a i.toNatClampNeg x) hq0 (fun q' hq' => nc_si_cell hq') (cl := .inl (cA 0, nc_al t, .inl (upd (w.1 t a) i.toNatClampNeg x))) (by rw [nd_cell_a h9, nd_ac_i (by rw [hak]; decide) (by rw [hak]; decide), hak, nd_upd_si])
    rw [hcl] at hP1 hD1
    exact hk _ _ _ _ h ls H1 locs1 hl hL (nc_so_t (nc_so_t (nc_so_t hS))) hP1 hD1 hV1
  next => cases h
theorem nd_s_lastore (C : nd_Cx p R s m args meth c D cA ad A M) (hk : ∀ pc L st w, κ pc L st w = some r → nd_G p l e R s m args below meth c D cA ad A M r pc L st w)  (hd : decode (nc_b M) pc = .ok (.lastore, 1)) (h : nc_ex call M (.lastore) pc L st w κ = some r) : nd_G p l e R s m args below meth c D cA ad A M r pc L st w := by
  intro ls H locs hl hL hS hP hD hV
  simp only [nc_ex] at h
  split at h
  next x i o rs =>
    rcases hb : Nat.beq (nc_ak o.1) 3 with _ | _
    · rw [hb] at h
      cases h
    rw [hb] at h
    simp only [cond_true] at h
    obtain ⟨hin, h2⟩ := nd_bd_some h
    clear h
    have h := h2
    clear h2
    obtain ⟨t, a⟩ := o
    have hak : nc_ak t = 3 := Nat.eq_of_beq_eq_true hb
    have h9 : nc_ak t ≠ 9 := by rw [hak]; decide
    obtain ⟨q0, hq0, hq1⟩ := nc_W_at (ad := ad) (cA := cA) (nd_ok_arr (nc_so_h (nc_so_t (nc_so_t hS))) h9)
    have he := hq1 w
    have hac : ∀ w, nc_ac ad w t a = .inr (.inl (w.2 t a)) := fun w => by simp [nc_ac, hak]
    rw [nd_cell_a h9, hac, hak] at he
    refine va_last C.1 C.2.1 C.2.2.2.2.2.1 hP hD hV q0 3 he rfl hin hd (fun H1 locs1 hP1 hD1 hV1 => ?_)
    have hcl := nc_W_set (ad := ad) (cA := cA) (w := w) (w' := nc_sl w t a i.toNatClampNeg x) hq0 (fun q' hq' => nc_sl_cell hq') (cl := .inl (cA 3, nc_al t, .inr (.inl (vp_updL (w.2 t a) i.toNatClampNeg x)))) (by rw [nd_cell_a h9, hac, hak, nd_upd_sl])
    rw [hcl] at hP1 hD1
    exact hk _ _ _ _ h ls H1 locs1 hl hL (nc_so_t (nc_so_t (nc_so_t hS))) hP1 hD1 hV1
  next => cases h
theorem nd_s_bastore (C : nd_Cx p R s m args meth c D cA ad A M) (hk : ∀ pc L st w, κ pc L st w = some r → nd_G p l e R s m args below meth c D cA ad A M r pc L st w)  (hd : decode (nc_b M) pc = .ok (.bastore, 1)) (h : nc_ex call M (.bastore) pc L st w κ = some r) : nd_G p l e R s m args below meth c D cA ad A M r pc L st w := by
  intro ls H locs hl hL hS hP hD hV
  simp only [nc_ex] at h
  split at h
  next x i o rs =>
    obtain ⟨t, a⟩ := o
    rcases hb : Nat.beq (nc_ak t) 1 with _ | _
    · simp only [hb, cond_false] at h
      rcases hb : Nat.beq (nc_ak t) 2 with _ | _
      · simp only [hb, cond_false] at h
        cases h
      simp only [hb, cond_true] at h
      obtain ⟨hin, h⟩ := nd_bd_some h
      unfold nc_z at h
      by_cases hz : x = 0 ∨ x = 1
      · rw [if_pos hz] at h
        have hak : nc_ak t = 2 := Nat.eq_of_beq_eq_true hb
        have h9 : nc_ak t ≠ 9 := by rw [hak]; decide
        obtain ⟨q0, hq0, hq1⟩ := nc_W_at (ad := ad) (cA := cA) (nd_ok_arr (nc_so_h (nc_so_t (nc_so_t hS))) h9)
        have he := hq1 w
        rw [nd_cell_a h9, nd_ac_i (by rw [hak]; decide) (by rw [hak]; decide), hak] at he
        refine va_zast C.1 C.2.1 C.2.2.2.2.2.1 hP hD hV q0 2 he rfl hin hd (fun H1 locs1 hP1 hD1 hV1 => ?_)
        have hx : vp_nar .boolean x = x := by rcases hz with e | e <;> subst e <;> rfl
        have hcl := nc_W_set (ad := ad) (cA := cA) (w := w) (w' := nc_si w t a i.toNatClampNeg x) hq0 (fun q' hq' => nc_si_cell hq') (cl := .inl (cA 2, nc_al t, .inl (upd (w.1 t a) i.toNatClampNeg (vp_nar .boolean x)))) (by rw [nd_cell_a h9, nd_ac_i (by rw [hak]; decide) (by rw [hak]; decide), hak, hx, nd_upd_si])
        rw [hcl] at hP1 hD1
        exact hk _ _ _ _ h ls H1 locs1 hl hL (nc_so_t (nc_so_t (nc_so_t hS))) hP1 hD1 hV1
      · rw [if_neg hz] at h
        cases h
    · simp only [hb, cond_true] at h
      obtain ⟨hin, h⟩ := nd_bd_some h
      have hak : nc_ak t = 1 := Nat.eq_of_beq_eq_true hb
      have h9 : nc_ak t ≠ 9 := by rw [hak]; decide
      obtain ⟨q0, hq0, hq1⟩ := nc_W_at (ad := ad) (cA := cA) (nd_ok_arr (nc_so_h (nc_so_t (nc_so_t hS))) h9)
      have he := hq1 w
      rw [nd_cell_a h9, nd_ac_i (by rw [hak]; decide) (by rw [hak]; decide), hak] at he
      refine va_bast C.1 C.2.1 C.2.2.2.2.2.1 hP hD hV q0 1 he rfl hin hd (fun H1 locs1 hP1 hD1 hV1 => ?_)
      have hcl := nc_W_set (ad := ad) (cA := cA) (w := w) (w' := nc_si w t a i.toNatClampNeg x.toInt8.toInt32) hq0 (fun q' hq' => nc_si_cell hq') (cl := .inl (cA 1, nc_al t, .inl (upd (w.1 t a) i.toNatClampNeg (vp_nar .byte x)))) (by rw [nd_cell_a h9, nd_ac_i (by rw [hak]; decide) (by rw [hak]; decide), hak, vp_nar_byte, nd_upd_si])
      rw [hcl] at hP1 hD1
      exact hk _ _ _ _ h ls H1 locs1 hl hL (nc_so_t (nc_so_t (nc_so_t hS))) hP1 hD1 hV1
  next => cases h
end SIM2
