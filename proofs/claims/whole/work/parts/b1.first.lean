/-! THE FIRST WORLD. -/
def fw_T : List (Nat × (Nat × Nat)) := [(100, (0, 0)), (101, (0, 1)), (102, (0, 2)), (166, (1, 0)), (167, (1, 1)), (236, (2, 0)), (237, (2, 1)), (238, (2, 2)), (239, (2, 3)), (240, (2, 4)), (241, (2, 5)), (242, (2, 6)), (243, (2, 7)), (244, (2, 8)), (245, (2, 9)), (246, (2, 10)), (420, (5, 0)), (553, (7, 0)), (554, (7, 1)), (555, (7, 2)), (556, (7, 3)), (557, (7, 4)), (558, (7, 5)), (559, (7, 6)), (560, (7, 7)), (561, (7, 8)), (562, (7, 9)), (563, (7, 10)), (564, (7, 11)), (615, (8, 0)), (616, (8, 1)), (676, (9, 0)), (677, (9, 1)), (678, (9, 2)), (740, (10, 0)), (742, (10, 1)), (743, (10, 2)), (744, (10, 3)), (745, (10, 4)), (746, (10, 5)), (869, (12, 0)), (874, (12, 1)), (875, (12, 2)), (876, (12, 3)), (877, (12, 4)), (878, (12, 5)), (889, (12, 6)), (890, (12, 7)), (891, (12, 8)), (895, (12, 9)), (902, (12, 10)), (905, (12, 11)), (907, (12, 12)), (913, (12, 13)), (914, (12, 14)), (915, (12, 15)), (916, (12, 16))]
def fw_ad (X : Nat → Nat → Nat) (U : Nat → Nat → Nat → Nat) (x y : Nat) (t a : Nat) : Nat := if t < 13 then X t a else if t = 90 then x else if t = 91 then y else U (nc_look (0, 0) t fw_T).1 a (nc_look (0, 0) t fw_T).2
def md0 : Nat → Int64 := (vp_updL (vp_updL (vp_updL (vp_updL (vp_updL (vp_updL (vp_updL (vp_updL (vp_updL (vp_updL (vp_updL (vp_updL (vp_updL (vp_updL (vp_updL (vp_updL (vp_updL (vp_updL (vp_updL (vp_updL (vp_updL (vp_updL (vp_updL (vp_updL (fun _ => 0) 0 1717662317) 1 6516599) 2 1852143475) 3 482854660462) 4 32478892436775276) 5 7823730) 6 33606991467799922) 7 7104869) 8 448377677669) 9 448377483891) 10 439956631140) 11 6578553) 12 28530) 13 6385252) 14 7237492) 15 6582905) 16 27995156865901924) 17 24948) 18 461414299507) 19 448377483876) 20 1835625579) 21 444150998382) 22 110429873534067) 23 121450625394034)
def w0 (byt : List Int32) : nc_H := (fun t _ => if t = 2 then (fun k => if k = 5 then 3 else 0) else if t = 558 then fl8 (fun _ => 0) (-100) else if t = 11 then (fun k => if k = 15 then -1 else 0) else if t = 1 then (fun k => if k = 8 then -1 else if k = 9 then -1 else if k = 10 then -1 else 0) else if t = 12 then (fun k => if k = 28 then -1 else 0) else if t = 874 then upd (fun _ => 0) 4 3 else (fun _ => 0), fun t _ => if t = 742 then tpE byt 0 (fun _ => 0) else if t = 878 then md0 else (fun _ => 0))
theorem arrV_congr (cI : ClassId) (N : Nat) {f g : Nat → Value} (h : ∀ j, j < N → f j = g j) : arrV cI N f = arrV cI N g := by
  have e : (Array.ofFn (n := N) fun j => f j.val) = (Array.ofFn (n := N) fun j => g j.val) := by
    congr 1
    funext j
    exact h j.1 j.2
  unfold arrV
  rw [e]
def ceq (e e' : va_E) : Prop := ∀ (D : va_G) (a : Nat) (H : Heap), va_at D nc_cl (a, e) H → va_at D nc_cl (a, e') H
theorem ceq.of {e e' : va_E} (h : e = e') : ceq e e' := by
  subst h
  exact fun _ _ _ h => h
theorem ceq.q {c : ClassId} {n : Nat} {f g : Nat → Option Nat} (h : ∀ j, j < n → f j = g j) : ceq (.inl (c, n, .inr (.inr (.inr (.inr f))))) (.inl (c, n, .inr (.inr (.inr (.inr g))))) := by
  intro D a H h1
  have h2 : H[a]? = some (vp_cell c (n, .inr (.inr (.inr (.inr f))))) := h1
  show H[a]? = some (vp_cell c (n, .inr (.inr (.inr (.inr g)))))
  rw [h2, vp_cell_q, vp_cell_q, arrV_congr c n (fun j hj => by rw [h j hj])]
def bok (ad : Nat → Nat → Nat) (cA : Nat → ClassId) (w : nc_H) : List (Nat × Nat) → va_W → Prop
  | [], [] => True
  | q :: ks, e :: es => (e.1 = ad q.1 q.2 ∧ ceq e.2 (nc_cell ad cA w q)) ∧ bok ad cA w ks es
  | _, _ => False
section BOK
variable {ad : Nat → Nat → Nat} {cA : Nat → ClassId} {w : nc_H}
theorem bok.app : ∀ {k1 k2 : List (Nat × Nat)} {b1 b2 : va_W}, bok ad cA w k1 b1 → bok ad cA w k2 b2 → bok ad cA w (k1 ++ k2) (b1 ++ b2)
  | [], _, [], _, _, h2 => h2
  | _ :: _, _, _ :: _, _, h1, h2 => ⟨h1.1, bok.app h1.2 h2⟩
  | [], _, _ :: _, _, h1, _ => h1.elim
  | _ :: _, _, [], _, h1, _ => h1.elim
theorem bok.at : ∀ {ks : List (Nat × Nat)} {b : va_W}, bok ad cA w ks b → ∀ (i : Nat) (q : Nat × Nat), ks[i]? = some q → ∃ e, b[i]? = some (ad q.1 q.2, e) ∧ ceq e (nc_cell ad cA w q)
  | [], [], _, i, q, h => by simp at h
  | q0 :: _, e0 :: _, h1, 0, q, h => by
    have e : q0 = q := by simpa using h
    subst e
    exact ⟨e0.2, by rw [← h1.1.1]; rfl, h1.1.2⟩
  | _ :: _, _ :: _, h1, i + 1, q, h => by
    obtain ⟨e, h2, h3⟩ := bok.at h1.2 i q (by simpa using h)
    exact ⟨e, by simpa using h2, h3⟩
  | [], _ :: _, h1, _, _, _ => h1.elim
  | _ :: _, [], h1, _, _, _ => h1.elim
theorem bok.P {ks : List (Nat × Nat)} {b : va_W} {D : va_G} {H : Heap} (h : bok ad cA w ks b) (hU : ∀ q ∈ nc_U, q ∈ ks) (hP : va_P D nc_cl b H) : va_P D nc_cl (nc_W ad cA w) H := by
  intro k q hk
  unfold nc_W at hk
  rw [List.getElem?_map] at hk
  cases hu : nc_U[k]? with
  | none => rw [hu] at hk; cases hk
  | some z =>
    rw [hu] at hk
    obtain ⟨i, hi⟩ := List.getElem?_of_mem (hU z (List.mem_of_getElem? hu))
    obtain ⟨e, h1, h2⟩ := h.at i z hi
    have e9 : q = (ad z.1 z.2, nc_cell ad cA w z) := (Option.some.inj hk).symm
    rw [e9]
    exact h2 D _ H (hP i _ h1)
theorem bok.D {ks : List (Nat × Nat)} {b : va_W} {A : Nat → Prop} (h : bok ad cA w ks b) (hU : ∀ q ∈ nc_U, q ∈ ks) (hD : va_D A b) : va_D A (nc_W ad cA w) := by
  have key : ∀ (k : Nat) (q : Nat × va_E), (nc_W ad cA w)[k]? = some q → ∃ (z : Nat × Nat) (i : Nat) (e : va_E), nc_U[k]? = some z ∧ ks[i]? = some z ∧ b[i]? = some (q.1, e) := by
    intro k q hk
    unfold nc_W at hk
    rw [List.getElem?_map] at hk
    cases hu : nc_U[k]? with
    | none => rw [hu] at hk; cases hk
    | some z =>
      rw [hu] at hk
      obtain ⟨i, hi⟩ := List.getElem?_of_mem (hU z (List.mem_of_getElem? hu))
      obtain ⟨e, h1, h2⟩ := h.at i z hi
      have e9 : q = (ad z.1 z.2, nc_cell ad cA w z) := (Option.some.inj hk).symm
      exact ⟨z, i, e, rfl, hi, by rw [e9]; exact h1⟩
  refine ⟨fun i j p q hi hj hpq => ?_, fun k q hk => ?_⟩
  · obtain ⟨z, i1, e1, h1, h2, h3⟩ := key i p hi
    obtain ⟨z', i2, e2, h4, h5, h6⟩ := key j q hj
    have := hD.1 i1 i2 _ _ h3 h6 hpq
    subst this
    rw [h2] at h5
    cases h5
    exact (List.getElem?_inj (List.getElem?_eq_some_iff.mp h1).1 nc_U_nd).mp (h1.trans h4.symm)
  · obtain ⟨z, i, e, h1, h2, h3⟩ := key k q hk
    exact hD.2 i (q.1, e) h3
end BOK
section FW
variable (X : Nat → Nat → Nat) (U : Nat → Nat → Nat → Nat) (x y : Nat) (cA : Nat → ClassId) (byt : List Int32)
set_option maxRecDepth 100000 in
theorem fw_2 (a : Nat) : bok (fw_ad X U x y) cA (w0 byt) [(2, a), (236, a), (237, a), (238, a), (239, a), (240, a), (241, a), (242, a), (243, a), (244, a), (245, a), (246, a)] (bk2 cA (X 2 a) (U 2 a)) := ⟨⟨rfl, ceq.of rfl⟩, ⟨rfl, ceq.of rfl⟩, ⟨rfl, ceq.of rfl⟩, ⟨rfl, ceq.of rfl⟩, ⟨rfl, ceq.of rfl⟩, ⟨rfl, ceq.of rfl⟩, ⟨rfl, ceq.of rfl⟩, ⟨rfl, ceq.of rfl⟩, ⟨rfl, ceq.of rfl⟩, ⟨rfl, ceq.of rfl⟩, ⟨rfl, ceq.of rfl⟩, ⟨rfl, ceq.of rfl⟩, trivial⟩
set_option maxRecDepth 100000 in
theorem fw_9 (a : Nat) : bok (fw_ad X U x y) cA (w0 byt) [(9, a), (676, a), (677, a), (678, a)] (bk9 cA (X 9 a) (U 9 a)) := ⟨⟨rfl, ceq.of rfl⟩, ⟨rfl, ceq.of rfl⟩, ⟨rfl, ceq.of rfl⟩, ⟨rfl, ceq.of rfl⟩, trivial⟩
set_option maxRecDepth 100000 in
theorem fw_0  : bok (fw_ad X U x y) cA (w0 byt) [(0, 0), (100, 0), (101, 0), (102, 0)] (bk0 cA (X 0 0) (U 0 0)) := ⟨⟨rfl, ceq.of rfl⟩, ⟨rfl, ceq.of rfl⟩, ⟨rfl, ceq.of rfl⟩, ⟨rfl, ceq.of rfl⟩, trivial⟩
set_option maxRecDepth 100000 in
theorem fw_4 (u : Nat → Nat) : bok (fw_ad X U x y) cA (w0 byt) [(4, 0)] (bk4 cA (X 4 0) u) := ⟨⟨rfl, ceq.of rfl⟩, trivial⟩
set_option maxRecDepth 100000 in
theorem fw_3 (u : Nat → Nat) : bok (fw_ad X U x y) cA (w0 byt) [(3, 0)] (bk3 cA (X 3 0) (X 10 0) (X 2 1) u) := ⟨⟨rfl, ceq.of rfl⟩, trivial⟩
set_option maxRecDepth 100000 in
theorem fw_1  : bok (fw_ad X U x y) cA (w0 byt) [(1, 0), (166, 0), (167, 0)] (bk1 cA (X 1 0) (X 2 0) (X 7 0) (U 1 0)) := ⟨⟨rfl, ceq.of rfl⟩, ⟨rfl, ceq.of rfl⟩, ⟨rfl, ceq.of rfl⟩, trivial⟩
set_option maxRecDepth 100000 in
theorem fw_7 (a : Nat) : bok (fw_ad X U x y) cA (w0 byt) [(7, a), (553, a), (554, a), (555, a), (556, a), (557, a), (558, a), (559, a), (560, a), (561, a), (562, a), (563, a), (564, a)] (bk7 cA (X 7 a) (X 2 (nc_ld a)) (U 7 a)) := ⟨⟨rfl, ceq.of rfl⟩, ⟨rfl, ceq.of rfl⟩, ⟨rfl, ceq.of rfl⟩, ⟨rfl, ceq.of rfl⟩, ⟨rfl, ceq.of rfl⟩, ⟨rfl, ceq.of rfl⟩, ⟨rfl, ceq.of rfl⟩, ⟨rfl, ceq.of rfl⟩, ⟨rfl, ceq.of rfl⟩, ⟨rfl, ceq.of rfl⟩, ⟨rfl, ceq.of rfl⟩, ⟨rfl, ceq.of rfl⟩, ⟨rfl, ceq.of rfl⟩, trivial⟩
set_option maxRecDepth 100000 in
theorem fw_10  : bok (fw_ad X U x y) cA (w0 byt) [(10, 0), (740, 0), (742, 0), (743, 0), (744, 0), (745, 0), (746, 0)] (bk10 cA (X 10 0) byt (U 10 0)) := ⟨⟨rfl, ceq.of rfl⟩, ⟨rfl, ceq.of rfl⟩, ⟨rfl, ceq.of rfl⟩, ⟨rfl, ceq.of rfl⟩, ⟨rfl, ceq.of rfl⟩, ⟨rfl, ceq.of rfl⟩, ⟨rfl, ceq.of rfl⟩, trivial⟩
set_option maxRecDepth 100000 in
theorem fw_12  : bok (fw_ad X U x y) cA (w0 byt) [(12, 0), (869, 0), (874, 0), (875, 0), (876, 0), (877, 0), (878, 0), (889, 0), (890, 0), (891, 0), (895, 0), (902, 0), (905, 0), (907, 0), (913, 0), (914, 0), (915, 0), (916, 0)] (bk12 cA (X 12 0) (U 12 0)) := ⟨⟨rfl, ceq.of rfl⟩, ⟨rfl, ceq.of rfl⟩, ⟨rfl, ceq.of rfl⟩, ⟨rfl, ceq.of rfl⟩, ⟨rfl, ceq.of rfl⟩, ⟨rfl, ceq.of rfl⟩, ⟨rfl, ceq.of rfl⟩, ⟨rfl, ceq.of rfl⟩, ⟨rfl, ceq.of rfl⟩, ⟨rfl, ceq.of rfl⟩, ⟨rfl, ceq.of rfl⟩, ⟨rfl, ceq.of rfl⟩, ⟨rfl, ceq.of rfl⟩, ⟨rfl, ceq.of rfl⟩, ⟨rfl, ceq.of rfl⟩, ⟨rfl, ceq.of rfl⟩, ⟨rfl, ceq.of rfl⟩, ⟨rfl, ceq.of rfl⟩, trivial⟩
set_option maxRecDepth 100000 in
theorem fw_11  : bok (fw_ad X U x y) cA (w0 byt) [(11, 0)] ([(X 11 0, .inr (11, [.ref (X 10 0), .ref (X 2 0), .ref (X 2 1), .ref (X 3 0), .ref (X 7 0), .ref (X 7 1), .ref (X 5 0), .ref (X 9 0), .ref (X 9 1), .ref (X 0 0), .ref (X 1 0), .ref (X 8 0), .ref (X 4 0), .ref (X 6 0), .ref (X 6 1), .int (-1)]))]) := ⟨⟨rfl, ceq.of rfl⟩, trivial⟩
set_option maxRecDepth 100000 in
theorem fw_6 (a : Nat) : bok (fw_ad X U x y) cA (w0 byt) [(6, a)] ([(X 6 a, .inr (6, [.int 0, .ref (X 2 (2 + a)), .ref (X 7 (12 + a)), .ref (X 9 (2 + a))]))]) := ⟨⟨rfl, ceq.of rfl⟩, trivial⟩
set_option maxRecDepth 100000 in
theorem fw_8  : bok (fw_ad X U x y) cA (w0 byt) [(8, 0), (615, 0), (616, 0)] ([(X 8 0, .inr (8, [.ref (X 2 0), .ref (X 7 10), .ref (X 7 11), .ref (U 8 0 0), .ref (U 8 0 1), .int 0, .int 0])), (U 8 0 0, .inl (cA 0, 3, .inl (fun _ => 0))), (U 8 0 1, .inl (cA 0, 3, .inl (fun _ => 0)))]) := ⟨⟨rfl, ceq.of rfl⟩, ⟨rfl, ceq.of rfl⟩, ⟨rfl, ceq.of rfl⟩, trivial⟩
set_option maxRecDepth 100000 in
theorem fw_5 : bok (fw_ad X U x y) cA (w0 byt) [(5, 0), (420, 0)] [(X 5 0, .inr (5, [.ref (U 5 0 0), .int 0, .int 0])), (U 5 0 0, .inl (cA 4, 8, .inr (.inr (.inr (.inr (va_up (va_up (va_up (va_up (va_up (va_up (va_up (va_up (fun _ => none) 0 (some (X 7 2))) 1 (some (X 7 3))) 2 (some (X 7 4))) 3 (some (X 7 5))) 4 (some (X 7 6))) 5 (some (X 7 7))) 6 (some (X 7 8))) 7 (some (X 7 9))))))))] := by
  refine ⟨⟨rfl, ceq.of rfl⟩, ⟨rfl, ceq.q (fun j hj => ?_)⟩, trivial⟩
  have h : j = 0 ∨ j = 1 ∨ j = 2 ∨ j = 3 ∨ j = 4 ∨ j = 5 ∨ j = 6 ∨ j = 7 := by omega
  rcases h with rfl | rfl | rfl | rfl | rfl | rfl | rfl | rfl <;> rfl
end FW
def fwX (h0 hm q0 q1 q2 q3 q4 q5 q6 q7 q8 q9 q10 q11 q12 q13 q14 : Nat) (u0 : Nat → Nat) (u1 : Nat → Nat) (u2 : Nat → Nat) (u3 : Nat → Nat) (u4 : Nat → Nat) (u5 : Nat → Nat) (u6 : Nat → Nat → Nat) (u7 : Nat → Nat) (u8 : Nat → Nat) (u9 : Nat → Nat) (u10 : Nat → Nat) (u11 : Nat → Nat → Nat) (u12 : Nat → Nat) (u13 : Nat → Nat → Nat) (u14 : Nat → Nat → Nat) (um : Nat → Nat) (t a : Nat) : Nat := if t = 11 then h0 else if t = 10 then q0 else if t = 2 then (if a = 0 then q1 else if a = 1 then q2 else if a = 2 then u13 0 0 else u14 0 0) else if t = 3 then q3 else if t = 7 then (if a = 0 then q4 else if a = 1 then q5 else if a < 10 then u6 1 (a - 2) else if a = 10 then u11 1 0 else if a = 11 then u11 1 1 else if a = 12 then u13 0 1 else u14 0 1) else if t = 5 then q6 else if t = 9 then (if a = 0 then q7 else if a = 1 then q8 else if a = 2 then u13 0 2 else u14 0 2) else if t = 0 then q9 else if t = 1 then q10 else if t = 8 then q11 else if t = 4 then q12 else if t = 6 then (if a = 0 then q13 else q14) else if t = 12 then hm else 0
def fwU (h0 hm q0 q1 q2 q3 q4 q5 q6 q7 q8 q9 q10 q11 q12 q13 q14 : Nat) (u0 : Nat → Nat) (u1 : Nat → Nat) (u2 : Nat → Nat) (u3 : Nat → Nat) (u4 : Nat → Nat) (u5 : Nat → Nat) (u6 : Nat → Nat → Nat) (u7 : Nat → Nat) (u8 : Nat → Nat) (u9 : Nat → Nat) (u10 : Nat → Nat) (u11 : Nat → Nat → Nat) (u12 : Nat → Nat) (u13 : Nat → Nat → Nat) (u14 : Nat → Nat → Nat) (um : Nat → Nat) (t a : Nat) : Nat → Nat := if t = 10 then u0 else if t = 2 then (if a = 0 then u1 else if a = 1 then u2 else if a = 2 then u13 1 else u14 1) else if t = 7 then (if a = 0 then u4 else if a = 1 then u5 else if a < 10 then u6 a else if a = 10 then u11 2 else if a = 11 then u11 3 else if a = 12 then u13 2 else u14 2) else if t = 5 then u6 0 else if t = 9 then (if a = 0 then u7 else if a = 1 then u8 else if a = 2 then u13 3 else u14 3) else if t = 0 then u9 else if t = 1 then u10 else if t = 8 then u11 0 else if t = 12 then um else (fun _ => 0)
theorem fw_n {ad : Nat → Nat → Nat} {cA : Nat → ClassId} {w : nc_H} : bok ad cA w [] [] := trivial
def fw_K : List (Nat × Nat) := (([(11, 0)] ++ ((((((((((((((([] ++ [(10, 0), (740, 0), (742, 0), (743, 0), (744, 0), (745, 0), (746, 0)]) ++ [(2, 0), (236, 0), (237, 0), (238, 0), (239, 0), (240, 0), (241, 0), (242, 0), (243, 0), (244, 0), (245, 0), (246, 0)]) ++ [(2, 1), (236, 1), (237, 1), (238, 1), (239, 1), (240, 1), (241, 1), (242, 1), (243, 1), (244, 1), (245, 1), (246, 1)]) ++ [(3, 0)]) ++ [(7, 0), (553, 0), (554, 0), (555, 0), (556, 0), (557, 0), (558, 0), (559, 0), (560, 0), (561, 0), (562, 0), (563, 0), (564, 0)]) ++ [(7, 1), (553, 1), (554, 1), (555, 1), (556, 1), (557, 1), (558, 1), (559, 1), (560, 1), (561, 1), (562, 1), (563, 1), (564, 1)]) ++ (((((((([(5, 0), (420, 0)] ++ [(7, 2), (553, 2), (554, 2), (555, 2), (556, 2), (557, 2), (558, 2), (559, 2), (560, 2), (561, 2), (562, 2), (563, 2), (564, 2)]) ++ [(7, 3), (553, 3), (554, 3), (555, 3), (556, 3), (557, 3), (558, 3), (559, 3), (560, 3), (561, 3), (562, 3), (563, 3), (564, 3)]) ++ [(7, 4), (553, 4), (554, 4), (555, 4), (556, 4), (557, 4), (558, 4), (559, 4), (560, 4), (561, 4), (562, 4), (563, 4), (564, 4)]) ++ [(7, 5), (553, 5), (554, 5), (555, 5), (556, 5), (557, 5), (558, 5), (559, 5), (560, 5), (561, 5), (562, 5), (563, 5), (564, 5)]) ++ [(7, 6), (553, 6), (554, 6), (555, 6), (556, 6), (557, 6), (558, 6), (559, 6), (560, 6), (561, 6), (562, 6), (563, 6), (564, 6)]) ++ [(7, 7), (553, 7), (554, 7), (555, 7), (556, 7), (557, 7), (558, 7), (559, 7), (560, 7), (561, 7), (562, 7), (563, 7), (564, 7)]) ++ [(7, 8), (553, 8), (554, 8), (555, 8), (556, 8), (557, 8), (558, 8), (559, 8), (560, 8), (561, 8), (562, 8), (563, 8), (564, 8)]) ++ [(7, 9), (553, 9), (554, 9), (555, 9), (556, 9), (557, 9), (558, 9), (559, 9), (560, 9), (561, 9), (562, 9), (563, 9), (564, 9)])) ++ [(9, 0), (676, 0), (677, 0), (678, 0)]) ++ [(9, 1), (676, 1), (677, 1), (678, 1)]) ++ [(0, 0), (100, 0), (101, 0), (102, 0)]) ++ [(1, 0), (166, 0), (167, 0)]) ++ (([(8, 0), (615, 0), (616, 0)] ++ [(7, 10), (553, 10), (554, 10), (555, 10), (556, 10), (557, 10), (558, 10), (559, 10), (560, 10), (561, 10), (562, 10), (563, 10), (564, 10)]) ++ [(7, 11), (553, 11), (554, 11), (555, 11), (556, 11), (557, 11), (558, 11), (559, 11), (560, 11), (561, 11), (562, 11), (563, 11), (564, 11)])) ++ [(4, 0)]) ++ ((([(6, 0)] ++ [(2, 2), (236, 2), (237, 2), (238, 2), (239, 2), (240, 2), (241, 2), (242, 2), (243, 2), (244, 2), (245, 2), (246, 2)]) ++ [(7, 12), (553, 12), (554, 12), (555, 12), (556, 12), (557, 12), (558, 12), (559, 12), (560, 12), (561, 12), (562, 12), (563, 12), (564, 12)]) ++ [(9, 2), (676, 2), (677, 2), (678, 2)])) ++ ((([(6, 1)] ++ [(2, 3), (236, 3), (237, 3), (238, 3), (239, 3), (240, 3), (241, 3), (242, 3), (243, 3), (244, 3), (245, 3), (246, 3)]) ++ [(7, 13), (553, 13), (554, 13), (555, 13), (556, 13), (557, 13), (558, 13), (559, 13), (560, 13), (561, 13), (562, 13), (563, 13), (564, 13)]) ++ [(9, 3), (676, 3), (677, 3), (678, 3)]))) ++ [(12, 0), (869, 0), (874, 0), (875, 0), (876, 0), (877, 0), (878, 0), (889, 0), (890, 0), (891, 0), (895, 0), (902, 0), (905, 0), (907, 0), (913, 0), (914, 0), (915, 0), (916, 0)])
theorem fw_Kin : ∀ q ∈ nc_U, q ∈ fw_K := by decide +kernel
set_option maxRecDepth 100000 in
set_option maxHeartbeats 4000000 in
theorem fw_all (cA : Nat → ClassId) (byt : List Int32) (h0 hm q0 q1 q2 q3 q4 q5 q6 q7 q8 q9 q10 q11 q12 q13 q14 : Nat) (u0 : Nat → Nat) (u1 : Nat → Nat) (u2 : Nat → Nat) (u3 : Nat → Nat) (u4 : Nat → Nat) (u5 : Nat → Nat) (u6 : Nat → Nat → Nat) (u7 : Nat → Nat) (u8 : Nat → Nat) (u9 : Nat → Nat) (u10 : Nat → Nat) (u11 : Nat → Nat → Nat) (u12 : Nat → Nat) (u13 : Nat → Nat → Nat) (u14 : Nat → Nat → Nat) (um : Nat → Nat) (x y : Nat) : bok (fw_ad (fwX h0 hm q0 q1 q2 q3 q4 q5 q6 q7 q8 q9 q10 q11 q12 q13 q14 u0 u1 u2 u3 u4 u5 u6 u7 u8 u9 u10 u11 u12 u13 u14 um) (fwU h0 hm q0 q1 q2 q3 q4 q5 q6 q7 q8 q9 q10 q11 q12 q13 q14 u0 u1 u2 u3 u4 u5 u6 u7 u8 u9 u10 u11 u12 u13 u14 um) x y) cA (w0 byt) fw_K (bk11 cA h0 byt q0 q1 q2 q3 q4 q5 q6 q7 q8 q9 q10 q11 q12 q13 q14 u0 u1 u2 u3 u4 u5 u6 u7 u8 u9 u10 u11 u12 u13 u14 ++ bk12 cA hm um) :=
  let X := fwX h0 hm q0 q1 q2 q3 q4 q5 q6 q7 q8 q9 q10 q11 q12 q13 q14 u0 u1 u2 u3 u4 u5 u6 u7 u8 u9 u10 u11 u12 u13 u14 um
  let U := fwU h0 hm q0 q1 q2 q3 q4 q5 q6 q7 q8 q9 q10 q11 q12 q13 q14 u0 u1 u2 u3 u4 u5 u6 u7 u8 u9 u10 u11 u12 u13 u14 um
  (bok.app (bok.app (fw_11 X U x y cA byt) (bok.app (bok.app (bok.app (bok.app (bok.app (bok.app (bok.app (bok.app (bok.app (bok.app (bok.app (bok.app (bok.app (bok.app (bok.app fw_n (fw_10 X U x y cA byt)) (fw_2 X U x y cA byt 0)) (fw_2 X U x y cA byt 1)) (fw_3 X U x y cA byt u3)) (fw_7 X U x y cA byt 0)) (fw_7 X U x y cA byt 1)) (bok.app (bok.app (bok.app (bok.app (bok.app (bok.app (bok.app (bok.app (fw_5 X U x y cA byt) (fw_7 X U x y cA byt 2)) (fw_7 X U x y cA byt 3)) (fw_7 X U x y cA byt 4)) (fw_7 X U x y cA byt 5)) (fw_7 X U x y cA byt 6)) (fw_7 X U x y cA byt 7)) (fw_7 X U x y cA byt 8)) (fw_7 X U x y cA byt 9))) (fw_9 X U x y cA byt 0)) (fw_9 X U x y cA byt 1)) (fw_0 X U x y cA byt)) (fw_1 X U x y cA byt)) (bok.app (bok.app (fw_8 X U x y cA byt) (fw_7 X U x y cA byt 10)) (fw_7 X U x y cA byt 11))) (fw_4 X U x y cA byt u12)) (bok.app (bok.app (bok.app (fw_6 X U x y cA byt 0) (fw_2 X U x y cA byt 2)) (fw_7 X U x y cA byt 12)) (fw_9 X U x y cA byt 2))) (bok.app (bok.app (bok.app (fw_6 X U x y cA byt 1) (fw_2 X U x y cA byt 3)) (fw_7 X U x y cA byt 13)) (fw_9 X U x y cA byt 3)))) (fw_12 X U x y cA byt))
