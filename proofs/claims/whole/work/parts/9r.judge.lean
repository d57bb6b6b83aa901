/-! A book judged, of both. -/
section BJ
variable {w w' v v' : nc_H} {f C N h d : Nat} {S : Nat → Int32}
def Lv (w v : nc_H) (f C N h : Nat) (S : Nat → Int32) (d : Nat) : Prop := LR w 1 S f C N ∧ DR w 0 S f C N h ∧ dok S f C N h ∧ lok S C N d ∧ v.1 874 0 = S
theorem wyF_c {n : Int32} : wyF S n = 0 ∨ wyF S n = 1 ∨ wyF S n = 2 := by
  unfold wyF
  by_cases q : bq (S 57) n
  · rw [if_pos q]
    by_cases q2 : bq (S 78) n
    · rw [if_pos q2]; exact Or.inr (Or.inr rfl)
    · rw [if_neg q2]; exact Or.inl rfl
  · rw [if_neg q]; exact Or.inr (Or.inl rfl)
theorem jl_line {a p q x y z : Int32} {j : Nat} (hj : j < 40) (h0 : w.1 100 0 j = a) (h1 : w.1 101 0 j = p) (h2 : w.1 102 0 j = q) (hr : lnR a p q x y z C N) (L : Lv w v f C N h S d) : ∃ r w' v' S' d', nc_Call m_X0_live [.inr (.inr (0, 0)), lO 1, .inl (nI j)] w = some (some (.inl r), w') ∧ nc_Call m_X12_does [mO, .inl x, .inl y, .inl z] v = some (some (.inl r), v') ∧ eqO (lP 1) w w' ∧ eqO mD v v' ∧ Lv w' v' f C N h S' d' ∧ (∀ k, k < 76 ∨ 332 ≤ k → S' k = S k) ∧ (r ≤ 0 ↔ r = 0) ∧ (r ≠ 0 → S' = S) := by
  obtain ⟨l1, l2, l3, l4, l5⟩ := L
  have hC : C ≤ 8 := l2.1.2.2.2.2.2.1
  have hN : N ≤ 10 := l2.1.2.2.2.2.2.2.1
  have bj : ∀ k : Nat → Option nc_R, nc_bd (nI j) 40 k = k j := fun k => bd8 j 40 hj (by decide)
  have P := pow_N hN
  rcases hr with ⟨ha, hx, c, n, c1, n1, hp, hq, hy, hz⟩ | ⟨ha, hx, n, n1, hq, hz⟩ | ⟨ha, hx, k, k1, k2, hq, hy⟩
  · subst hx hp hq hy hz ha
    obtain ⟨k, kk1, kk2⟩ := l4.2.2.2 c c1
    have e1 := sl_whyNotTold (a := 1) (n := n) w l2 l1.1.1 (show c < 8 by omega) (show k < 1024 by omega) kk2
    have e2 := sm_whyTell (n := n) v (show c < 8 by omega) (show k < 1024 by omega) (by rw [l5]; exact kk2)
    rw [l5] at e2
    have hcl := qc_X0_live 0 1 (nI j) w
    rw [bj, h0, if_pos (by decide), bj, h0, if_pos (by decide), bj, bj, h1, h2, e1, nc_bI_v] at hcl
    have hml := qc_X12_does 0 0 (nI c) (nI n) v
    rw [if_pos (by decide), if_neg (fun z => z rfl), e2, nc_bI_v] at hml
    by_cases z : wyT S c n k = 0
    · obtain ⟨w2, z1, z2, z3⟩ := sl_hearK (a := 1) l2 l1.1 (dOK_of l4) l3.2.2.1 c1 n1
      rw [if_neg (fun q => q z), bj, bj, h1, h2, z1, nc_bV_v, z] at hcl
      rw [if_pos (wyT_0.mpr z), if_neg (fun z => z rfl), sm_tells v (by omega) (by omega), nc_bV_v, l5] at hml
      refine ⟨0, w2, row v 874 0 (tellS S c n), tellS S c n, d, hcl, hml, z2.mono (fun t a q => ⟨q.1, by have := q.2; omega⟩), eqO.rf.row ⟨rfl, by omega⟩, ⟨⟨z3, LG_eq l1.2 z2 (fun j hj => tellS_o (by omega) (by omega) (by omega))⟩, DR_eq l2 (fun t ht => z2.2 t 0 (by unfold lQ; omega)) (fun k hk => tellS_o (by omega) (by omega) (by omega)), dok_c l3 (fun k hk => tellS_o (by omega) (by omega) (by omega)), lok_tell l4 hC hN c1 n1, row_s⟩, fun k hk => tellS_o (by omega) (by omega) (by omega), by decide, fun q => absurd rfl q⟩
    · rw [if_pos z] at hcl
      rw [if_neg (fun q => z (wyT_0.mp q)), show (10 : Int32) * 0 = 0 from rfl, Int32.zero_add] at hml
      exact ⟨_, w, v, S, d, hcl, hml, eqO.rf, eqO.rf, ⟨l1, l2, l3, l4, l5⟩, fun _ _ => rfl, wyT_0, fun _ => rfl⟩
  · subst hx hq hz ha
    have e1 := sl_whyNotFound (a := 1) (nI n) w l2 l1.1.1
    have e2 := sm_whyFind (nI n) v
    rw [l5] at e2
    have hcl := qc_X0_live 0 1 (nI j) w
    rw [bj, h0, if_pos (by decide), bj, h0, if_neg (fun z => z rfl), bj, h2, e1, nc_bI_v] at hcl
    have hml := qc_X12_does 0 1 y (nI n) v
    rw [if_pos (by decide), if_pos (by decide), e2, nc_bI_v] at hml
    by_cases z : wyF S (nI n) = 0
    · obtain ⟨w2, z1, z2, z3⟩ := sl_findOut (a := 1) l2 l1.1 n1
      rw [if_pos z, bj, h2, z1, nc_bV_v] at hcl
      rw [if_pos (wyF_0.mpr z), if_pos (by decide), sm_finds (by rw [l5]; exact l2.1) n1, nc_bV_v, l5] at hml
      refine ⟨0, w2, row v 874 0 (findS S C n), findS S C n, d, hcl, hml, z2.mono (fun t a q => ⟨q.1, by have := q.2; omega⟩), eqO.rf.row ⟨rfl, by omega⟩, ⟨⟨z3, LG_eq l1.2 z2 (fun j hj => findS_o (by omega))⟩, DR_eq l2 (fun t ht => z2.2 t 0 (by unfold lQ; omega)) (fun k hk => findS_o (by omega)), dok_c l3 (fun k hk => findS_o (by omega)), lok_find l4 hC, row_s⟩, fun k hk => findS_ag hC hk, by decide, fun q => absurd rfl q⟩
    · rw [if_neg z] at hcl
      rw [if_neg (fun q => z (wyF_0.mp q)), show (10 : Int32) * 1 = 10 from rfl] at hml
      refine ⟨_, w, v, S, d, hcl, hml, eqO.rf, eqO.rf, ⟨l1, l2, l3, l4, l5⟩, fun _ _ => rfl, ?_, fun _ => rfl⟩
      rcases wyF_c (S := S) (n := nI n) with e | e | e
      · exact absurd e z
      · rw [e]; decide
      · rw [e]; decide
  · subst hx hq hy ha
    have e7 : w.1 7 1 1 = nI d := l1.1.1.1.1.trans l4.1
    have e76 : v.1 874 0 76 = nI d := by rw [l5]; exact l4.1
    have hd := l4.2.1
    have hcl := qc_X0_live 0 1 (nI j) w
    rw [bj, h0, if_neg (fun z => z rfl), bj, h2, e7, nI_add] at hcl
    have hml := qc_X12_does 0 2 (nI k) z v
    rw [if_neg (fun z => z rfl), e76, nI_add] at hml
    have e4 : (nI (d + k) ≤ (400 : Int32)) ↔ d + k ≤ 400 := nI_le_iff (b := 400) (by omega) (by omega)
    by_cases q : d + k ≤ 400
    · obtain ⟨w2, z1, z2, z3⟩ := sl_goDays (a := 1) (n := k) l2 l1 l3 l4 k2
      obtain ⟨v2, y1, y2, y3⟩ := sm_goesOn (n := k) l5 l3 l4 (by omega)
      rw [if_pos (e4.mpr q), bj, h2, z1, nc_bI_v] at hcl
      rw [if_pos (e4.mpr q), y1, nc_bI_v] at hml
      have em : min k (400 - d) = k := by omega
      rw [em] at z3 y3
      refine ⟨0, w2, v2, dayN S d f C N h k, d + k, hcl, hml, z2, y2, ⟨z3, DR_eq l2 (fun t ht => z2.2 t 0 (by unfold lP; omega)) (fun k hk => dayN_lo l3 hk _), dayN_dok l3 k, dayN_lok l3 l4 k q, y3⟩, fun j hj => ?_, by decide, fun q => absurd rfl q⟩
      rcases hj with hj | hj
      · exact dayN_lo l3 hj k
      · exact dayN_hi l3 hj k
    · rw [if_neg (fun z => q (e4.mp z))] at hcl
      rw [if_neg (fun z => q (e4.mp z))] at hml
      exact ⟨21, w, v, S, d, hcl, hml, eqO.rf, eqO.rf, ⟨l1, l2, l3, l4, l5⟩, fun _ _ => rfl, by decide, fun _ => rfl⟩
/-- the model's end of a book -/
noncomputable def bkE (x r : Int32) (v : nc_H) : Option nc_R :=
    nc_lt (nc_si v 905 0 2 (v.1 874 0 76)) fun w1 =>
    nc_lt (nc_si w1 905 0 3 (w1.1 874 0 77)) fun w2 =>
    nc_lt (nc_si w2 12 0 38 1) fun w3 =>
    if x ≠ 1 then
      if x ≠ 0 then
        some (some (.inl r), w3)
      else
        nc_bV (nc_Call m_X12_back [mO] w3) fun w4 =>
        some (some (.inl r), w4)
    else
      if (w3.1 905 0 1) ≤ 0 then
        if x ≠ 0 then
          some (some (.inl r), w3)
        else
          nc_bV (nc_Call m_X12_back [mO] w3) fun w5 =>
          some (some (.inl r), w5)
      else
        nc_bV (nc_Call m_X12_keep [mO] w3) fun w6 =>
        nc_Run m_X12_book 242 [some mO, some (.inl x), some (.inl r), some (.inl 0)] [] w6
theorem jx {i : Nat} (hx : w.1 0 0 3 ≤ nI i ∨ w.1 0 0 5 ≠ 0) : nc_Run m_X0_judge 17 [some (.inr (.inr (0, 0))), some (lO 1), some (.inl (nI i))] [] w = some (some (.inl (if w.1 0 0 5 ≠ 0 then w.1 0 0 6 else -1)), nc_si (nc_si w 0 0 7 (w.1 7 1 1)) 0 0 8 (w.1 7 1 3)) := by
  have e1 : (nc_si w 0 0 7 (w.1 7 1 1)).1 7 1 3 = w.1 7 1 3 := by rw [si_t (by decide)]
  have e5 : (nc_si (nc_si w 0 0 7 (w.1 7 1 1)) 0 0 8 (w.1 7 1 3)).1 0 0 5 = w.1 0 0 5 := by rw [si_k (by decide), si_k (by decide)]
  have e6 : (nc_si (nc_si w 0 0 7 (w.1 7 1 1)) 0 0 8 (w.1 7 1 3)).1 0 0 6 = w.1 0 0 6 := by rw [si_k (by decide), si_k (by decide)]
  rw [qr_X0_judge_17]
  have T : (nc_lt (nc_si w 0 0 7 (w.1 7 1 1)) fun w1 =>
    nc_lt (nc_si w1 0 0 8 (w1.1 7 1 3)) fun w2 =>
    if (w2.1 0 0 5) ≠ 0 then
      some (some (.inl (w2.1 0 0 6)), w2)
    else
      some (some (.inl (-1)), w2)) = (some (some (.inl (if w.1 0 0 5 ≠ 0 then w.1 0 0 6 else -1)), nc_si (nc_si w 0 0 7 (w.1 7 1 1)) 0 0 8 (w.1 7 1 3)) : Option nc_R) := by
    rw [nc_lt_v, nc_lt_v, e1, e5, e6]
    by_cases q : w.1 0 0 5 ≠ 0
    · rw [if_pos q, if_pos q]
    · rw [if_neg q, if_neg q]
  by_cases q : w.1 0 0 3 ≤ nI i
  · rw [if_pos q]
    exact T
  · rw [if_neg q, if_pos (hx.resolve_left q)]
    exact T
def jJ (t a : Nat) : Prop := (t = 0 ∧ a = 0) ∨ lP 1 t a
def mJ (t a : Nat) : Prop := a = 0 ∧ (t = 874 ∨ t = 889 ∨ t = 905)
theorem eqO.si {P : Nat → Nat → Prop} {t a k : Nat} {x : Int32} (h : eqO P w w') (hp : P t a) : eqO P w (nc_si w' t a k x) := by
  rw [si_rw]
  exact h.row hp
theorem Lv_z {d : Nat} (L : Lv w v f C N h S d) (hw : ∀ t a, t = 2 ∨ (238 ≤ t ∧ t ≤ 246) ∨ t = 7 ∨ (553 ≤ t ∧ t ≤ 562) → w'.1 t a = w.1 t a) (hv : v'.1 874 0 = v.1 874 0) : Lv w' v' f C N h S d := by
  obtain ⟨l1, l2, l3, l4, l5⟩ := L
  exact ⟨LR_eq l1 (fun t ht => hw t 1 (by omega)), DR_eq l2 (fun t ht => hw t 0 (by omega)) (fun _ _ => rfl), l3, l4, hv.trans l5⟩
theorem jg_loop {x : Int32} {m : Nat} (hm : m ≤ 40) : ∀ q i w v S d, i + q = m → lnA w v C N m → w.1 0 0 3 = nI m → w.1 0 0 5 = 0 → w.1 0 0 6 = nI i → v.1 905 0 0 = 0 → v.1 905 0 1 = nI i → v.1 12 0 36 = nI m → Lv w v f C N h S d → ∃ r i' S' d' w' v', nc_Run m_X0_judge 17 [some (.inr (.inr (0, 0))), some (lO 1), some (.inl (nI i))] [] w = some (some (.inl r), w') ∧ nc_Run m_X12_book 111 [some mO, some (.inl x), some (.inl (-1)), some (.inl (nI i))] [] v = bkE x r v' ∧ eqO jJ w w' ∧ eqO mJ v v' ∧ (∀ k, k < 5 → w'.1 0 0 k = w.1 0 0 k) ∧ Lv w' v' f C N h S' d' ∧ (∀ k, k < 76 ∨ 332 ≤ k → S' k = S k) ∧ (i ≤ i' ∧ i' ≤ m ∧ (i' = i → S' = S)) ∧ w'.1 0 0 5 = v'.1 905 0 0 ∧ w'.1 0 0 6 = nI i' ∧ v'.1 905 0 1 = nI i' ∧ w'.1 0 0 7 = S' 76 ∧ w'.1 0 0 8 = S' 77 := by
  intro q
  induction q with
  | zero =>
    intro i w v S d hi lA h3 h5 h6 v0 v1 v36 L
    have e : i = m := by omega
    subst e
    refine ⟨-1, i, S, d, nc_si (nc_si w 0 0 7 (w.1 7 1 1)) 0 0 8 (w.1 7 1 3), v, ?_, ?_, (eqO.rf.si (Or.inl ⟨rfl, rfl⟩)).si (Or.inl ⟨rfl, rfl⟩), eqO.rf, fun k hk => ?_, Lv_z L (fun t a ht => by rw [si_t (by omega), si_t (by omega)]) rfl, fun _ _ => rfl, ⟨Nat.le_refl _, Nat.le_refl _, fun _ => rfl⟩, ?_, ?_, v1, ?_, ?_⟩
    · rw [jx (Or.inl (by rw [h3]; exact Int32.le_refl _)), if_neg (fun z => z h5)]
    · rw [qr_X12_book_111, v36, if_pos (Int32.le_refl _)]
      rfl
    · rw [si_k (by omega), si_k (by omega)]
    · rw [si_k (by decide), si_k (by decide), h5, v0]
    · rw [si_k (by decide), si_k (by decide), h6]
    · rw [si_k (by decide), si_s]
      exact L.1.1.1.1.1
    · rw [si_s]
      exact L.1.1.1.1.2.1
  | succ q ih =>
    intro i w v S d hi lA h3 h5 h6 v0 v1 v36 L
    obtain ⟨r, w1, u1, S1, d1, a1, a2, a3, a4, a5, a6, a7, a8⟩ := jl_line (j := i) (by omega) rfl rfl rfl (lA i (by omega)) L
    have f0 : w1.1 0 0 = w.1 0 0 := a3.2 0 0 (by unfold lP; omega)
    have g12 : u1.1 12 0 = v.1 12 0 := a4.2 12 0 (by unfold mD; omega)
    have g905 : u1.1 905 0 = v.1 905 0 := a4.2 905 0 (by unfold mD; omega)
    have nlt : ¬ nI m ≤ nI i := nI_ge (by omega) (by omega)
    have hcl := qr_X0_judge_17 0 1 (nI i) w
    rw [h3, if_neg nlt, if_neg (fun z => z h5), a1, nc_bI_v, nc_lt_v, si_s] at hcl
    have ix0 : (3 : Int32) * nI i = nI (3 * i) := x3m
    have hml := qr_X12_book_111 0 x (-1) (nI i) v
    rw [v36, if_neg nlt, if_neg (by decide), ix0, bd8 (3 * i) 135 (by omega) (by decide), i1_135 (by omega), i2_135 (by omega), a2, nc_bI_v, nc_lt_v, si_s] at hml
    by_cases z : r = 0
    · subst z
      rw [if_neg (fun z => z rfl), nc_lt_v, nc_li_v, nI_1] at hcl
      have k5 : (nc_si u1 905 0 0 0).1 905 0 1 = nI i := by rw [si_k (by decide), g905]; exact v1
      rw [if_pos (by decide), nc_lt_v, nc_li_v, k5, nI_1] at hml
      have lA' : lnA (nc_si (nc_si w1 0 0 5 0) 0 0 6 (nI (i + 1))) (nc_si (nc_si u1 905 0 0 0) 905 0 1 (nI (i + 1))) C N m := by
        unfold lnA
        rw [si_t (show 100 ≠ 0 by decide), si_t (show 100 ≠ 0 by decide), si_t (show 101 ≠ 0 by decide), si_t (show 101 ≠ 0 by decide), si_t (show 102 ≠ 0 by decide), si_t (show 102 ≠ 0 by decide), si_t (show 876 ≠ 905 by decide), si_t (show 876 ≠ 905 by decide), a3.2 100 0 (by unfold lP; omega), a3.2 101 0 (by unfold lP; omega), a3.2 102 0 (by unfold lP; omega), a4.2 876 0 (by unfold mD; omega)]
        exact lA
      obtain ⟨r, i', S', d', w', v', b1, b2, b3, b4, b5, b6, b7, b8, b9, b10, b11, b12, b13⟩ := ih (i + 1) (nc_si (nc_si w1 0 0 5 0) 0 0 6 (nI (i + 1))) (nc_si (nc_si u1 905 0 0 0) 905 0 1 (nI (i + 1))) S1 d1 (by omega) lA' (by rw [si_k (by decide), si_k (by decide), f0]; exact h3) (by rw [si_k (by decide), si_s]) si_s (by rw [si_k (by decide), si_s]) si_s (by rw [si_t (by decide), si_t (by decide), g12]; exact v36) (Lv_z a5 (fun t a ht => by rw [si_t (by omega), si_t (by omega)]) (by rw [si_t (by decide), si_t (by decide)]))
      refine ⟨r, i', S', d', w', v', hcl.trans b1, hml.trans b2, (((a3.mono (fun t a q => Or.inr q)).si (Or.inl ⟨rfl, rfl⟩)).si (Or.inl ⟨rfl, rfl⟩)).tr b3, (((a4.mono (fun t a q => ⟨q.1, by have := q.2; omega⟩)).si ⟨rfl, by omega⟩).si ⟨rfl, by omega⟩).tr b4, fun k hk => ?_, b6, fun k hk => (b7 k hk).trans (a6 k hk), ⟨by omega, b8.2.1, fun e => by omega⟩, b9, b10, b11, b12, b13⟩
      rw [b5 k hk, si_k (by omega), si_k (by omega), f0]
    · rw [if_pos z, nc_lt_v, nc_li_v, nI_1] at hcl
      have w5 : (nc_si (nc_si w1 0 0 5 r) 0 0 6 (nI i)).1 0 0 5 = r := by rw [si_k (by decide), si_s]
      have w7 : (nc_si (nc_si w1 0 0 5 r) 0 0 6 (nI i)).1 7 = w1.1 7 := by rw [si_t (by decide), si_t (by decide)]
      rw [jx (w := nc_si (nc_si w1 0 0 5 r) 0 0 6 (nI i)) (Or.inr (by rw [w5]; exact z)), w5, if_pos z, si_s] at hcl
      rw [if_neg (fun q => z (a7.mp q)), nc_li_v, nI_1, qr_X12_book_111 0 x (nI i) (nI (i + 1)) (nc_si u1 905 0 0 r)] at hml
      have hml2 : nc_Run m_X12_book 111 [some mO, some (.inl x), some (.inl (-1)), some (.inl (nI i))] [] v = bkE x (nI i) (nc_si u1 905 0 0 r) := by
        by_cases q2 : (nc_si u1 905 0 0 r).1 12 0 36 ≤ nI (i + 1)
        · rw [if_pos q2] at hml
          exact hml
        · rw [if_neg q2, if_pos (nI_pos' (by omega))] at hml
          exact hml
      have eS := a8 z
      subst eS
      refine ⟨nI i, i, S1, d1, _, _, hcl, hml2, ((((a3.mono (fun t a q => Or.inr q)).si (Or.inl ⟨rfl, rfl⟩)).si (Or.inl ⟨rfl, rfl⟩)).si (Or.inl ⟨rfl, rfl⟩)).si (Or.inl ⟨rfl, rfl⟩), (a4.mono (fun t a q => ⟨q.1, by have := q.2; omega⟩)).si ⟨rfl, by omega⟩, fun k hk => ?_, Lv_z a5 (fun t a ht => by rw [si_t (by omega), si_t (by omega), si_t (by omega), si_t (by omega)]) (by rw [si_t (by decide)]), fun _ _ => rfl, ⟨Nat.le_refl _, by omega, fun _ => rfl⟩, ?_, ?_, ?_, ?_, ?_⟩
      · rw [si_k (by omega), si_k (by omega), si_k (by omega), si_k (by omega), f0]
      · rw [si_k (by decide), si_k (by decide), w5, si_s]
      · rw [si_k (by decide), si_k (by decide), si_s]
      · rw [si_k (by decide), g905]
        exact v1
      · rw [si_k (by decide), si_s, w7]
        exact a5.1.1.1.1.1
      · rw [si_s, w7]
        exact a5.1.1.1.1.2.1
end BJ
