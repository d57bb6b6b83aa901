/-! WHAT A MACHINE'S HEAP STANDS FOR: ad gives each object's and each array's address. -/
def nc_v (ad : Nat → Nat → Nat) (v : nc_V) : Value := match v with
  | .inl x => .int x
  | .inr (.inl y) => .long y
  | .inr (.inr q) => .ref (ad q.1 q.2)
theorem nc_v_cat (ad : Nat → Nat → Nat) (v : nc_V) : (nc_v ad v).category = nc_cat v := by rcases v with x | (y | q) <;> rfl
theorem nc_cats_eq (ad : Nat → Nat → Nat) : ∀ st : List nc_V, ((st.map (nc_v ad)).map fun v => v.category).sum = nc_cats st
  | [] => rfl
  | v :: r => by
    show (nc_v ad v).category + ((r.map (nc_v ad)).map fun v => v.category).sum = nc_cat v + nc_cats r
    rw [nc_v_cat, nc_cats_eq ad r]
theorem nc_look_mem {α : Type} (d : α) (k : Nat) : ∀ l : List (Nat × α), nc_look d k l = d ∨ (k, nc_look d k l) ∈ l
  | [] => Or.inl rfl
  | q :: r => by
    unfold nc_look
    rcases h : Nat.beq q.1 k with _ | _
    · rcases nc_look_mem d k r with h1 | h1
      · exact Or.inl h1
      · exact Or.inr (List.mem_cons_of_mem _ h1)
    · have e := Nat.eq_of_beq_eq_true h
      subst e
      exact Or.inr List.mem_cons_self
def nc_tags : List (Nat × Nat) := [(0, 1), (1, 1), (2, 4), (3, 1), (4, 1), (5, 1), (6, 2), (7, 14), (8, 1), (9, 4), (10, 1), (11, 1), (12, 1), (100, 1), (101, 1), (102, 1), (166, 1), (167, 1), (236, 4), (237, 4), (238, 4), (239, 4), (240, 4), (241, 4), (242, 4), (243, 4), (244, 4), (245, 4), (246, 4), (420, 1), (553, 14), (554, 14), (555, 14), (556, 14), (557, 14), (558, 14), (559, 14), (560, 14), (561, 14), (562, 14), (563, 14), (564, 14), (615, 1), (616, 1), (676, 4), (677, 4), (678, 4), (740, 1), (742, 1), (743, 1), (744, 1), (745, 1), (746, 1), (869, 1), (874, 1), (875, 1), (876, 1), (877, 1), (878, 1), (889, 1), (890, 1), (891, 1), (895, 1), (902, 1), (905, 1), (907, 1), (913, 1), (914, 1), (915, 1), (916, 1)]
def nc_ok (q : Nat × Nat) : Bool := Nat.blt q.2 (nc_look 0 q.1 nc_tags)
def nc_U : List (Nat × Nat) := nc_tags.flatMap (fun p => (List.range p.2).map (fun a => (p.1, a)))
theorem nc_U_nd : nc_U.Nodup := by decide +kernel
theorem nc_U_ok {q : Nat × Nat} (h : nc_ok q = true) : q ∈ nc_U := by
  have h1 : q.2 < nc_look 0 q.1 nc_tags := Nat.blt_eq.mp h
  rcases nc_look_mem 0 q.1 nc_tags with h2 | h2
  · rw [h2] at h1
    exact absurd h1 (Nat.not_lt_zero _)
  · exact List.mem_flatMap.mpr ⟨_, h2, List.mem_map.mpr ⟨q.2, List.mem_range.mpr h1, rfl⟩⟩
def nc_nf (t : Nat) : Nat := ((nc_fkT[t]?).getD []).length
def nc_fv (ad : Nat → Nat → Nat) (w : nc_H) (t a k : Nat) : Value := match nc_fk t k with
  | 1 => .long (w.2 t a k)
  | 2 => .ref (ad (nc_fr t k a).1 (nc_fr t k a).2)
  | _ => .int (w.1 t a k)
def nc_ac (ad : Nat → Nat → Nat) (w : nc_H) (t a : Nat) : (Nat → Int32) ⊕ (Nat → Int64) ⊕ (Nat → UInt32) ⊕ (Nat → UInt64) ⊕ (Nat → Option Nat) := match nc_ak t with
  | 3 => .inr (.inl (w.2 t a))
  | 4 => .inr (.inr (.inr (.inr (fun j => some (ad 7 (2 + j))))))
  | _ => .inl (w.1 t a)
def nc_cell (ad : Nat → Nat → Nat) (cA : Nat → ClassId) (w : nc_H) (q : Nat × Nat) : va_E :=
  if q.1 < 100 then .inr (q.1, (List.range (nc_nf q.1)).map (nc_fv ad w q.1 q.2)) else .inl (cA (nc_ak q.1), nc_al q.1, nc_ac ad w q.1 q.2)
def nc_W (ad : Nat → Nat → Nat) (cA : Nat → ClassId) (w : nc_H) : va_W := nc_U.map (fun q => (ad q.1 q.2, nc_cell ad cA w q))
def nc_tys (cA : Nat → ClassId) : List (ClassId × FieldType) := [(cA 0, .int), (cA 1, .byte), (cA 2, .boolean), (cA 3, .long), (cA 4, .object "NewsCows$Life")]
theorem nc_W_at {ad : Nat → Nat → Nat} {cA : Nat → ClassId} {q : Nat × Nat} (h : nc_ok q = true) : ∃ k : Nat, nc_U[k]? = some q ∧ ∀ w, (nc_W ad cA w)[k]? = some (ad q.1 q.2, nc_cell ad cA w q) := by
  obtain ⟨k, hk⟩ := List.getElem?_of_mem (nc_U_ok h)
  exact ⟨k, hk, fun w => by unfold nc_W; rw [List.getElem?_map, hk]; rfl⟩
theorem nc_W_set {ad : Nat → Nat → Nat} {cA : Nat → ClassId} {k : Nat} {q : Nat × Nat} {w w' : nc_H} (h : nc_U[k]? = some q) (hw : ∀ q', q' ≠ q → nc_cell ad cA w' q' = nc_cell ad cA w q') {cl : va_E} (hc : cl = nc_cell ad cA w' q) : (nc_W ad cA w).set k (ad q.1 q.2, cl) = nc_W ad cA w' := by
  subst hc
  apply List.ext_getElem?
  intro j
  have hl : k < nc_U.length := (List.getElem?_eq_some_iff.mp h).1
  unfold nc_W
  rw [List.getElem?_set, List.getElem?_map, List.getElem?_map, List.length_map]
  by_cases e : k = j
  · subst e
    rw [if_pos rfl, if_pos hl, h]
    rfl
  · rw [if_neg e]
    rcases hj : nc_U[j]? with _ | q'
    · rfl
    · have hne : q' ≠ q := by
        intro e2
        subst e2
        exact e ((List.getElem?_inj hl nc_U_nd).mp (h.trans hj.symm))
      show some (ad q'.1 q'.2, nc_cell ad cA w q') = some (ad q'.1 q'.2, nc_cell ad cA w' q')
      rw [hw q' hne]
theorem nc_cell_same {ad : Nat → Nat → Nat} {cA : Nat → ClassId} {w w' : nc_H} {q : Nat × Nat} (h1 : w'.1 q.1 q.2 = w.1 q.1 q.2) (h2 : w'.2 q.1 q.2 = w.2 q.1 q.2) : nc_cell ad cA w' q = nc_cell ad cA w q := by
  unfold nc_cell nc_ac
  rw [h1, h2]
  have h3 : nc_fv ad w' q.1 q.2 = nc_fv ad w q.1 q.2 := by
    funext k
    unfold nc_fv
    rw [h1, h2]
  rw [h3]
theorem nc_ne {q : Nat × Nat} {t a : Nat} (h : q ≠ (t, a)) (k : Nat) (P : Prop) : ¬ (q.1 = t ∧ q.2 = a ∧ P) := fun e => h (by rcases q with ⟨x, y⟩; rw [e.1.symm, e.2.1.symm])
theorem nc_si_cell {ad : Nat → Nat → Nat} {cA : Nat → ClassId} {w : nc_H} {t a k : Nat} {x : Int32} {q : Nat × Nat} (h : q ≠ (t, a)) : nc_cell ad cA (nc_si w t a k x) q = nc_cell ad cA w q :=
  nc_cell_same (by funext k'; show (if q.1 = t ∧ q.2 = a ∧ k' = k then x else _) = _; rw [if_neg (nc_ne h k' _)]) rfl
theorem nc_sl_cell {ad : Nat → Nat → Nat} {cA : Nat → ClassId} {w : nc_H} {t a k : Nat} {x : Int64} {q : Nat × Nat} (h : q ≠ (t, a)) : nc_cell ad cA (nc_sl w t a k x) q = nc_cell ad cA w q :=
  nc_cell_same rfl (by funext k'; show (if q.1 = t ∧ q.2 = a ∧ k' = k then x else _) = _; rw [if_neg (nc_ne h k' _)])
theorem nc_cpi_cell {ad : Nat → Nat → Nat} {cA : Nat → ClassId} {w : nc_H} {t0 a0 sp t a dp n : Nat} {q : Nat × Nat} (h : q ≠ (t, a)) : nc_cell ad cA (nc_cpi w t0 a0 sp t a dp n) q = nc_cell ad cA w q :=
  nc_cell_same (by funext k'; show (if q.1 = t ∧ q.2 = a ∧ (dp ≤ k' ∧ k' < dp + n) then _ else _) = _; rw [if_neg (nc_ne h k' _)]) rfl
theorem nc_cpl_cell {ad : Nat → Nat → Nat} {cA : Nat → ClassId} {w : nc_H} {t0 a0 sp t a dp n : Nat} {q : Nat × Nat} (h : q ≠ (t, a)) : nc_cell ad cA (nc_cpl w t0 a0 sp t a dp n) q = nc_cell ad cA w q :=
  nc_cell_same rfl (by funext k'; show (if q.1 = t ∧ q.2 = a ∧ (dp ≤ k' ∧ k' < dp + n) then _ else _) = _; rw [if_neg (nc_ne h k' _)])
/-! the locals -/
def nc_lv (ad : Nat → Nat → Nat) : Nat → nc_L → List (Nat × Value)
  | _, [] => []
  | i, none :: r => nc_lv ad (i + 1) r
  | i, some v :: r => (i, nc_v ad v) :: nc_lv ad (i + 1) r
theorem nc_lv_mem {ad : Nat → Nat → Nat} {q : Nat × Value} : ∀ {L : nc_L} {i : Nat}, q ∈ nc_lv ad i L → ∃ k v, q = (i + k, nc_v ad v) ∧ nc_get L k = some v
  | [], i, h => by simp [nc_lv] at h
  | none :: r, i, h => by
    obtain ⟨k, v, h1, h2⟩ := nc_lv_mem (L := r) h
    exact ⟨k + 1, v, by rw [h1, Nat.add_right_comm, Nat.add_assoc], h2⟩
  | some u :: r, i, h => by
    rcases List.mem_cons.mp h with h | h
    · exact ⟨0, u, h, rfl⟩
    · obtain ⟨k, v, h1, h2⟩ := nc_lv_mem (L := r) h
      exact ⟨k + 1, v, by rw [h1, Nat.add_right_comm, Nat.add_assoc], h2⟩
theorem nc_lv_of {ad : Nat → Nat → Nat} {v : nc_V} : ∀ {L : nc_L} {i k : Nat}, nc_get L k = some v → (i + k, nc_v ad v) ∈ nc_lv ad i L
  | [], i, k, h => by simp [nc_get] at h
  | none :: r, i, 0, h => by simp [nc_get] at h
  | some u :: r, i, 0, h => by
    have e : u = v := Option.some.inj h
    subst e
    exact List.mem_cons_self
  | none :: r, i, k + 1, h => by
    have := nc_lv_of (ad := ad) (L := r) (i := i + 1) (k := k) h
    rwa [Nat.add_right_comm, Nat.add_assoc] at this
  | some u :: r, i, k + 1, h => by
    have := nc_lv_of (ad := ad) (L := r) (i := i + 1) (k := k) h
    rw [Nat.add_right_comm, Nat.add_assoc] at this
    exact List.mem_cons_of_mem _ this
theorem nc_has_sub {ls : Array Slot} {n : Nat} {l l' : List (Nat × Value)} (h : lv_has ls n l) (hs : ∀ q ∈ l', q ∈ l) : lv_has ls n l' := ⟨h.1, h.2.1, fun q hq => h.2.2 q (hs q hq)⟩
theorem nc_put1_get {v : nc_V} : ∀ {L : nc_L} {k j : Nat} {u : nc_V}, nc_get (nc_put1 v L k) j = some u → (j = k ∧ u = v) ∨ (j ≠ k ∧ nc_get L j = some u ∧ ¬ (j + 1 = k ∧ nc_cat u = 2))
  | [], k, j, u, h => by simp [nc_put1, nc_get] at h
  | o :: r, 0, 0, u, h => by
    simp only [nc_put1, nc_get] at h
    exact Or.inl ⟨rfl, (Option.some.inj h).symm⟩
  | o :: r, 0, j + 1, u, h => by
    simp only [nc_put1, nc_get] at h
    exact Or.inr ⟨by omega, h, by omega⟩
  | o :: r, k + 1, j, u, h => by
    have key : ∀ o', (o' = o ∨ o' = none) → (k = 0 → ∀ z, o' ≠ some (.inr (.inl z))) → nc_get (o' :: nc_put1 v r k) j = some u → (j = k + 1 ∧ u = v) ∨ (j ≠ k + 1 ∧ nc_get (o :: r) j = some u ∧ ¬ (j + 1 = k + 1 ∧ nc_cat u = 2)) := by
      intro o' ho hz hg
      cases j with
      | zero =>
        simp only [nc_get] at hg
        rcases ho with ho | ho
        · refine Or.inr ⟨by omega, by rw [← ho]; exact hg, fun e => ?_⟩
          have k0 : k = 0 := by omega
          rcases u with x | (y | q)
          · exact absurd e.2 (by show ¬ (1 : Nat) = 2; omega)
          · exact hz k0 y hg
          · exact absurd e.2 (by show ¬ (1 : Nat) = 2; omega)
        · rw [ho] at hg
          cases hg
      | succ j =>
        simp only [nc_get] at hg
        rcases nc_put1_get (L := r) hg with h1 | h1
        · exact Or.inl ⟨by omega, h1.2⟩
        · exact Or.inr ⟨by omega, h1.2.1, fun e => h1.2.2 ⟨by omega, e.2⟩⟩
    cases k with
    | succ k =>
      have e : nc_put1 v (o :: r) (k + 1 + 1) = o :: nc_put1 v r (k + 1) := by
        rcases o with _ | (x | (y | q)) <;> rfl
      rw [e] at h
      exact key o (Or.inl rfl) (fun q => by omega) h
    | zero =>
      rcases o with _ | (x | (y | q))
      · exact key none (Or.inl rfl) (fun _ z e => by cases e) h
      · exact key _ (Or.inl rfl) (fun _ z e => by cases e) h
      · exact key none (Or.inr rfl) (fun _ z e => by cases e) h
      · exact key _ (Or.inl rfl) (fun _ z e => by cases e) h
theorem nc_put2_get {v : nc_V} : ∀ {L : nc_L} {k j : Nat} {u : nc_V}, nc_get (nc_put2 v L k) j = some u → k + 1 < L.length → (j = k ∧ u = v) ∨ (j ≠ k ∧ j ≠ k + 1 ∧ nc_get L j = some u ∧ ¬ (j + 1 = k ∧ nc_cat u = 2))
  | [], k, j, u, h, hl => by simp [nc_put2, nc_get] at h
  | [o], 0, j, u, h, hl => by simp at hl
  | o :: o2 :: r, 0, 0, u, h, hl => by
    simp only [nc_put2, nc_get] at h
    exact Or.inl ⟨rfl, (Option.some.inj h).symm⟩
  | o :: o2 :: r, 0, 1, u, h, hl => by
    simp [nc_put2, nc_get] at h
  | o :: o2 :: r, 0, j + 2, u, h, hl => by
    simp only [nc_put2, nc_get] at h
    exact Or.inr ⟨by omega, by omega, h, by omega⟩
  | o :: r, k + 1, j, u, h, hl => by
    have hl' : k + 1 < r.length := by simp at hl; omega
    have key : ∀ o', (o' = o ∨ o' = none) → (k = 0 → ∀ z, o' ≠ some (.inr (.inl z))) → nc_get (o' :: nc_put2 v r k) j = some u → (j = k + 1 ∧ u = v) ∨ (j ≠ k + 1 ∧ j ≠ k + 1 + 1 ∧ nc_get (o :: r) j = some u ∧ ¬ (j + 1 = k + 1 ∧ nc_cat u = 2)) := by
      intro o' ho hz hg
      cases j with
      | zero =>
        simp only [nc_get] at hg
        rcases ho with ho | ho
        · refine Or.inr ⟨by omega, by omega, by rw [← ho]; exact hg, fun e => ?_⟩
          have k0 : k = 0 := by omega
          rcases u with x | (y | q)
          · exact absurd e.2 (by show ¬ (1 : Nat) = 2; omega)
          · exact hz k0 y hg
          · exact absurd e.2 (by show ¬ (1 : Nat) = 2; omega)
        · rw [ho] at hg
          cases hg
      | succ j =>
        simp only [nc_get] at hg
        rcases nc_put2_get (L := r) hg hl' with h1 | h1
        · exact Or.inl ⟨by omega, h1.2⟩
        · exact Or.inr ⟨by omega, by omega, h1.2.2.1, fun e => h1.2.2.2 ⟨by omega, e.2⟩⟩
    cases k with
    | succ k =>
      have e : nc_put2 v (o :: r) (k + 1 + 1) = o :: nc_put2 v r (k + 1) := by
        rcases o with _ | (x | (y | q)) <;> cases r <;> rfl
      rw [e] at h
      exact key o (Or.inl rfl) (fun q => by omega) h
    | zero =>
      rcases o with _ | (x | (y | q))
      · exact key none (Or.inl rfl) (fun _ z e => by cases e) (by cases r <;> exact h)
      · exact key _ (Or.inl rfl) (fun _ z e => by cases e) (by cases r <;> exact h)
      · exact key none (Or.inr rfl) (fun _ z e => by cases e) (by cases r <;> exact h)
      · exact key _ (Or.inl rfl) (fun _ z e => by cases e) (by cases r <;> exact h)
theorem nc_put1_len {v : nc_V} : ∀ (L : nc_L) (k : Nat), (nc_put1 v L k).length = L.length
  | [], k => by cases k <;> rfl
  | o :: r, 0 => by rcases o with _ | (x | (y | q)) <;> rfl
  | o :: r, 1 => by
    have := nc_put1_len (v := v) r 0
    rcases o with _ | (x | (y | q)) <;> simp [nc_put1, this]
  | o :: r, k + 2 => by
    have := nc_put1_len (v := v) r (k + 1)
    rcases o with _ | (x | (y | q)) <;> simp [nc_put1, this]
theorem nc_put2_len {v : nc_V} : ∀ (L : nc_L) (k : Nat), (nc_put2 v L k).length = L.length
  | [], k => by cases k <;> rfl
  | [o], 0 => by rcases o with _ | (x | (y | q)) <;> rfl
  | o :: o2 :: r, 0 => by rcases o with _ | (x | (y | q)) <;> rfl
  | o :: r, 1 => by
    have := nc_put2_len (v := v) r 0
    rcases o with _ | (x | (y | q)) <;> simp [nc_put2, this]
  | o :: r, k + 2 => by
    have := nc_put2_len (v := v) r (k + 1)
    rcases o with _ | (x | (y | q)) <;> simp [nc_put2, this]
theorem nc_mask_get : ∀ {bs : List Bool} {L : nc_L} {j : Nat} {u : nc_V}, nc_get (nc_mask bs L) j = some u → nc_get L j = some u
  | [], L, j, u, h => by simpa [nc_mask] using h
  | b :: bs, [], j, u, h => by simpa [nc_mask] using h
  | b :: bs, o :: os, 0, u, h => by
    cases b
    · simp [nc_mask, nc_get] at h
    · simpa [nc_mask, nc_get] using h
  | b :: bs, o :: os, j + 1, u, h => by
    simp only [nc_mask, nc_get] at h ⊢
    exact nc_mask_get h
theorem nc_mask_len : ∀ (bs : List Bool) (L : nc_L), (nc_mask bs L).length = L.length
  | [], L => by simp [nc_mask]
  | b :: bs, [] => by simp [nc_mask]
  | b :: bs, o :: os => by simp [nc_mask, nc_mask_len bs os]
theorem nc_lv_mask {ad : Nat → Nat → Nat} {ls : Array Slot} {n : Nat} {bs : List Bool} {L : nc_L} (h : lv_has ls n (nc_lv ad 0 L)) : lv_has ls n (nc_lv ad 0 (nc_mask bs L)) :=
  nc_has_sub h (fun q hq => by
    obtain ⟨k, v, h1, h2⟩ := nc_lv_mem hq
    rw [h1]
    exact nc_lv_of (nc_mask_get h2))
theorem nc_lv_put1 {ad : Nat → Nat → Nat} {ls : Array Slot} {n k : Nat} {v : nc_V} {L : nc_L} (h : lv_has ls n ((k, nc_v ad v) :: (nc_lv ad 0 L).filter (fun q => !(q.1 == k) && !(q.1 + 1 == k && q.2.category == 2)))) : lv_has ls n (nc_lv ad 0 (nc_put1 v L k)) :=
  nc_has_sub h (fun q hq => by
    obtain ⟨j, u, h1, h2⟩ := nc_lv_mem hq
    rw [Nat.zero_add] at h1
    rcases nc_put1_get h2 with ⟨e1, e2⟩ | ⟨e1, e2, e3⟩
    · rw [h1, e1, e2]
      exact List.mem_cons_self
    · refine List.mem_cons_of_mem _ (List.mem_filter.mpr ⟨?_, ?_⟩)
      · rw [h1]
        have := nc_lv_of (ad := ad) (i := 0) e2
        rwa [Nat.zero_add] at this
      · rw [h1]
        simp only [nc_v_cat, Bool.and_eq_true, Bool.not_eq_true', beq_eq_false_iff_ne, Bool.and_eq_false_imp, beq_iff_eq]
        exact ⟨e1, fun a b => e3 ⟨a, b⟩⟩)
theorem nc_lv_put2 {ad : Nat → Nat → Nat} {ls : Array Slot} {n k : Nat} {v : nc_V} {L : nc_L} (hk : k + 1 < L.length) (h : lv_has ls n ((k, nc_v ad v) :: (nc_lv ad 0 L).filter (fun q => !(q.1 == k) && (!(q.1 == k + 1) && !(q.1 + 1 == k && q.2.category == 2))))) : lv_has ls n (nc_lv ad 0 (nc_put2 v L k)) :=
  nc_has_sub h (fun q hq => by
    obtain ⟨j, u, h1, h2⟩ := nc_lv_mem hq
    rw [Nat.zero_add] at h1
    rcases nc_put2_get h2 hk with ⟨e1, e2⟩ | ⟨e1, e0, e2, e3⟩
    · rw [h1, e1, e2]
      exact List.mem_cons_self
    · refine List.mem_cons_of_mem _ (List.mem_filter.mpr ⟨?_, ?_⟩)
      · rw [h1]
        have := nc_lv_of (ad := ad) (i := 0) e2
        rwa [Nat.zero_add] at this
      · rw [h1]
        simp only [nc_v_cat, Bool.and_eq_true, Bool.not_eq_true', beq_eq_false_iff_ne, Bool.and_eq_false_imp, beq_iff_eq]
        exact ⟨e1, e0, fun a b => e3 ⟨a, b⟩⟩)
/-- a reference that is one of the world's, or the text of signs -/
def nc_vok (v : nc_V) : Prop := match v with
  | .inr (.inr q) => nc_ok q = true ∨ q = (90, 0)
  | _ => True
def nc_Sok (st : List nc_V) : Prop := ∀ v ∈ st, nc_vok v
def nc_Lok (n : Nat) (L : nc_L) : Prop := L.length = n ∧ ∀ k v, nc_get L k = some v → nc_vok v
theorem nc_so_c {v : nc_V} {r : List nc_V} (h1 : nc_vok v) (h : nc_Sok r) : nc_Sok (v :: r) := fun u hu => (List.mem_cons.mp hu).elim (fun e => e ▸ h1) (h u)
theorem nc_so_t {v : nc_V} {r : List nc_V} (h : nc_Sok (v :: r)) : nc_Sok r := fun u hu => h u (List.mem_cons_of_mem _ hu)
theorem nc_so_h {v : nc_V} {r : List nc_V} (h : nc_Sok (v :: r)) : nc_vok v := h v List.mem_cons_self
theorem nc_lo_put1 {n k : Nat} {v : nc_V} {L : nc_L} (h1 : nc_vok v) (h : nc_Lok n L) : nc_Lok n (nc_put1 v L k) := ⟨(nc_put1_len L k).trans h.1, fun j u hj => by
  rcases nc_put1_get hj with ⟨_, e⟩ | ⟨_, e, _⟩
  · exact e ▸ h1
  · exact h.2 _ _ e⟩
theorem nc_lo_put2 {n k : Nat} {v : nc_V} {L : nc_L} (hk : k + 1 < n) (h1 : nc_vok v) (h : nc_Lok n L) : nc_Lok n (nc_put2 v L k) := ⟨(nc_put2_len L k).trans h.1, fun j u hj => by
  rcases nc_put2_get hj (by rw [h.1]; exact hk) with ⟨_, e⟩ | ⟨_, _, e, _⟩
  · exact e ▸ h1
  · exact h.2 _ _ e⟩
theorem nc_lo_mask {n : Nat} {bs : List Bool} {L : nc_L} (h : nc_Lok n L) : nc_Lok n (nc_mask bs L) := ⟨(nc_mask_len bs L).trans h.1, fun j u hj => h.2 _ _ (nc_mask_get hj)⟩

