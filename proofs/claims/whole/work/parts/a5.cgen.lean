/-! CONSTRUCTORS: what all of them stand on. -/
def cP (D : va_G) (cA : Nat → ClassId) (sz : Nat) (ws : va_W) (U : State) : Prop := U.heap.size = sz ∧ va_P D nc_cl ws U.heap ∧ va_K D nc_cl (nc_tys cA) U ∧ va_D (fun _ => True) ws
def nw_B (D : va_G) (cA : Nat → ClassId) (A : Nat → Prop) (ws : va_W) (t : State) : Prop := va_P D nc_cl ws t.heap ∧ va_K D nc_cl (nc_tys cA) t ∧ va_D A ws
theorem cP_bl {D : va_G} {cA : Nat → ClassId} {sz : Nat} {ws : va_W} {av : List Value} : FrameBlind (va_Pc av (cP D cA sz ws)) := by
  intro x U g mk q
  obtain ⟨q0, q1, qP, qK, qD⟩ := q
  exact ⟨q0, q1, qP, va_K.moved (u := U) (U := U.calling g mk x) (Vm.Alike.refl U.vm) qK, qD⟩
theorem cP_of {D : va_G} {cA : Nat → ClassId} {ws : va_W} {A : Nat → Prop} {s : State} {H : Heap} (hK : va_K D nc_cl (nc_tys cA) s) (hP : va_P D nc_cl ws H) (hD : va_D A ws) (U : State) (hU : U.heap = H) (hW : s.WarmedH U.vm) : cP D cA H.size ws U :=
  ⟨by rw [hU], by rw [hU]; exact hP, va_K.moved hW.alike hK, hD.weaken (fun _ _ _ _ => trivial)⟩
theorem nw_int {D : va_G} {cA : Nat → ClassId} {s : State} {c : ClassId} (hK : va_K D nc_cl (nc_tys cA) s) (h : va_K D nc_cl (nc_tys cA ++ [(c, .int)]) s) : c = cA 0 := Option.some.inj (((h.2 5 _ rfl).2).symm.trans ((hK.2 0 _ rfl).2))
theorem nw_byte {D : va_G} {cA : Nat → ClassId} {s : State} {c : ClassId} (hK : va_K D nc_cl (nc_tys cA) s) (h : va_K D nc_cl (nc_tys cA ++ [(c, .byte)]) s) : c = cA 1 := Option.some.inj (((h.2 5 _ rfl).2).symm.trans ((hK.2 1 _ rfl).2))
theorem nw_boolean {D : va_G} {cA : Nat → ClassId} {s : State} {c : ClassId} (hK : va_K D nc_cl (nc_tys cA) s) (h : va_K D nc_cl (nc_tys cA ++ [(c, .boolean)]) s) : c = cA 2 := Option.some.inj (((h.2 5 _ rfl).2).symm.trans ((hK.2 2 _ rfl).2))
theorem nw_long {D : va_G} {cA : Nat → ClassId} {s : State} {c : ClassId} (hK : va_K D nc_cl (nc_tys cA) s) (h : va_K D nc_cl (nc_tys cA ++ [(c, .long)]) s) : c = cA 3 := Option.some.inj (((h.2 5 _ rfl).2).symm.trans ((hK.2 3 _ rfl).2))
theorem nw_life {D : va_G} {cA : Nat → ClassId} {s : State} {c : ClassId} (hK : va_K D nc_cl (nc_tys cA) s) (h : va_K D nc_cl (nc_tys cA ++ [(c, .object "NewsCows$Life")]) s) : c = cA 4 := by
  obtain ⟨_, _, _, _, _, e1⟩ := (h.2 5 _ rfl).2
  obtain ⟨_, _, _, _, _, e2⟩ := (hK.2 4 _ rfl).2
  exact Option.some.inj (e1.symm.trans e2)
/-- links between nest mates that constructors take -/
def nxN : List (String × Nat × MethodName × String) := [("NewsCows", 18, yX2_init, "NewsCows"), ("NewsCows", 56, yX9_init, "NewsCows"), ("NewsCows", 66, yX0_init, "NewsCows"), ("NewsCows", 89, yX4_init, "NewsCows"), ("NewsCows", 96, yX6_init, "NewsCows"), ("NewsCows$Image", 9, yX2_init, "NewsCows"), ("NewsCows$Image", 27, yX9_init, "NewsCows")]
def nxW (e : String × Nat × MethodName × String) : Cond := .methodLinkNest e.1 e.2.1 e.2.2.1 e.2.2.2
def cPn (D : va_G) (cA : Nat → ClassId) (sz : Nat) (ws : va_W) (U : State) : Prop := cP D cA sz ws U ∧ (∀ w ∈ nxN, va_Nw (nxW w) U) ∧ va_AO "NewsCows$Life" U
theorem cPn_bl {D : va_G} {cA : Nat → ClassId} {sz : Nat} {ws : va_W} {av : List Value} : FrameBlind (va_Pc av (cPn D cA sz ws)) := by
  intro x U g mk q
  obtain ⟨q0, q1, q2, q3⟩ := q
  exact ⟨q0, (cP_bl (av := av) x U g mk ⟨q0, q1⟩).2, fun w hw => va_Nw.same (u := U) rfl rfl (q2 w hw), va_AO.moved (u := U) (U := U.calling g mk x) (Vm.Alike.refl U.vm) q3⟩
theorem cPn_of {D : va_G} {cA : Nat → ClassId} {ws : va_W} {A : Nat → Prop} {s : State} {H : Heap} (hK : va_K D nc_cl (nc_tys cA) s) (hN : ∀ w ∈ nxN, va_Nw (nxW w) s) (hAO : va_AO "NewsCows$Life" s) (hP : va_P D nc_cl ws H) (hD : va_D A ws) (U : State) (hU : U.heap = H) (hW : s.WarmedH U.vm) : cPn D cA H.size ws U := ⟨cP_of hK hP hD U hU hW, fun w hw => va_Nw.warmM hW (hN w hw), va_AO.moved hW.alike hAO⟩
section NB
variable {D : va_G} {cl : List vw_C} {A : Nat → Prop} {ws w1 : va_W} {x : Nat × va_E} {H0 H H1 : Heap} {locs : List Loc}
theorem nb_at : (ws ++ [x])[ws.length]? = some x := by simp
theorem nb_P (h : va_P D cl (ws ++ [x]) H) : va_P D cl [x] H := h.sub [ws.length] (by simp)
theorem nb_D (h : va_D A (ws ++ [x])) : va_D A [x] := h.sub [ws.length] (by simp [va_nd]) (by simp)
theorem nb_F (hD : va_D A (ws ++ [x])) (hS : va_S A H0 H locs) (hA : ∀ q, H0.size ≤ q → A q) : ∀ q, va_A [x] H.size q → A q := va_free hD hS hA [ws.length] (by simp)
theorem nb_nd' : ∀ l : List Nat, l.Nodup → va_nd l = true
  | [], _ => rfl
  | a :: l, h => by
    have h := List.nodup_cons.mp h
    simp [va_nd, nb_nd' l h.2, h.1]
theorem nb_nd (n : Nat) : va_nd (List.range n) = true := nb_nd' _ List.nodup_range
theorem nb_J (hP : va_P D cl (ws ++ [x]) H) (hD : va_D A (ws ++ [x])) (hk : ∀ q : Nat, q < H.size → ¬ va_A [x] H.size q → H1[q]? = H[q]?) (hF : ∀ q, va_A [x] H.size q → A q) (hP1 : va_P D cl w1 H1) (hD1 : va_D (va_A [x] H.size) w1) : va_P D cl (ws ++ w1) H1 ∧ va_D A (ws ++ w1) := by
  refine va_join (wc := [x]) (wr := ws) hP hD [ws.length] (List.range ws.length) (by simp) ?_ (nb_nd _) (fun i hi => ?_) hk hF hP1 hD1
  · apply List.ext_getElem?
    intro i
    rw [List.getElem?_map, List.getElem?_map]
    by_cases h : i < ws.length
    · rw [List.getElem?_range h]
      simp [h, List.getElem?_append_left h]
    · rw [List.getElem?_eq_none (by simp; omega), List.getElem?_eq_none (by omega)]
      rfl
  · have := List.mem_range.mp hi
    simp
    omega
end NB
