/-! drawn, of both. -/
section DV
variable {w w' v : nc_H} {f C N h d n a : Nat} {S : Nat → Int32} {x : Int32} {g : Int32 → Int32} {G : Int32 → Nat → Nat}
theorem sm_dayOf (hG : ∀ (y : Int32) {m : Nat}, 0 < m → G y m < m) (hdr : ∀ (v : nc_H) {n : Nat}, 0 < n → n < 2 ^ 31 → nc_Call m_X12_draw [mO, .inl (nI n)] v = some (some (.inl (nI (G (g (v.1 12 0 35)) n))), row v 12 0 (upd (v.1 12 0) 35 (g (v.1 12 0 35))))) (hk : dok S f C N h) (hl : lok S C N d) (hd : d < 400) (h0 : 0 < N) (hS : w.1 874 0 = S) (hx : w.1 12 0 35 = x) (z xd : Int32) : ∃ w', nc_Run m_X12_draws 28 [some mO, some (.inl z), none, some (.inl xd), some (.inl (nI 0)), none] [] w = nc_Run m_X12_draws 7 [some mO, some (.inl z), none, some (.inl (xd + 1)), none, none] [] w' ∧ eqO mP w w' ∧ (∀ k, k ≠ 35 → w'.1 12 0 k = w.1 12 0 k) ∧ w'.1 874 0 = dayS (tfS g G C N (S, x)).1 d f C N h ∧ w'.1 12 0 35 = (tfS g G C N (S, x)).2 := by
  have hf : f ≤ 4 := hk.1.2.2.2.2.1
  have hC : C ≤ 8 := hk.1.2.2.2.2.2.1
  have hN : N ≤ 10 := hk.1.2.2.2.2.2.2.1
  have p10 := pow_N hN
  have fin : ∀ (v : nc_H), eqO mP w v → (∀ k, k ≠ 35 → v.1 12 0 k = w.1 12 0 k) → v.1 874 0 = (tfS g G C N (S, x)).1 → v.1 12 0 35 = (tfS g G C N (S, x)).2 → ∃ w', nc_bV (nc_Call m_X12_day [mO] v) (fun w3 => nc_li (xd + 1) fun x4 => nc_Run m_X12_draws 7 [some mO, some (.inl z), none, some (.inl x4), none, none] [] w3) = nc_Run m_X12_draws 7 [some mO, some (.inl z), none, some (.inl (xd + 1)), none, none] [] w' ∧ eqO mP w w' ∧ (∀ k, k ≠ 35 → w'.1 12 0 k = w.1 12 0 k) ∧ w'.1 874 0 = dayS (tfS g G C N (S, x)).1 d f C N h ∧ w'.1 12 0 35 = (tfS g G C N (S, x)).2 := by
    intro v q1 q2 q3 q4
    have t := tfS_ok (g := g) (p := (S, x)) hG hC hN h0 hl
    have kk : dok (v.1 874 0) f C N h := by
      rw [q3]
      exact dok_c hk (fun j hj => t.1 j (by omega))
    obtain ⟨w3, a1, a2, a3⟩ := sm_day (w := v) (d := d) kk.1 (hev_of kk.2.2.2.2.1) (by rw [q3]; exact t.2.1.1) (by omega)
    refine ⟨w3, ?_, q1.tr (a3.mono (fun t a q => ⟨q.1, by have := q.2; omega⟩)), fun k hk => ?_, ?_, ?_⟩
    · rw [a1, nc_bV_v, nc_li_v]
    · rw [a3.2 12 0 (by unfold mD; omega), q2 k hk]
    · rw [a2, q3]
    · rw [a3.2 12 0 (by unfold mD; omega), q4]
  refine lp (R := fun i (v : nc_H) => nc_Run m_X12_draws 28 [some mO, some (.inl z), none, some (.inl xd), some (.inl (nI i)), none] [] v) (I := fun i v => eqO mP w v ∧ (∀ k, k ≠ 35 → v.1 12 0 k = w.1 12 0 k) ∧ v.1 874 0 = (it (cst g G N) 0 i (S, x)).1 ∧ v.1 12 0 35 = (it (cst g G N) 0 i (S, x)).2) (n := C) (Q := fun r => ∃ w', r = nc_Run m_X12_draws 7 [some mO, some (.inl z), none, some (.inl (xd + 1)), none, none] [] w' ∧ eqO mP w w' ∧ (∀ k, k ≠ 35 → w'.1 12 0 k = w.1 12 0 k) ∧ w'.1 874 0 = dayS (tfS g G C N (S, x)).1 d f C N h ∧ w'.1 12 0 35 = (tfS g G C N (S, x)).2) ?_ ?_ C 0 w (by omega) ⟨eqO.rf, fun _ _ => rfl, hS, hx⟩
  · rintro i v hi ⟨q1, q5, q2, q3⟩
    right
    obtain ⟨o1, o2, -⟩ := its_ok (g := g) (p := (S, x)) hG hC hN h0 hl i (by omega)
    rw [it_succ, Nat.zero_add]
    generalize it (cst g G N) 0 i (S, x) = p at q2 q3 o1 o2 ⊢
    have kk : dok p.1 f C N h := dok_c hk (fun j hj => o1 j (by omega))
    have e2 : v.1 874 0 1 = nI C := by rw [q2]; exact kk.1.2.1
    have e3 : ∀ y, (row v 12 0 y).1 874 0 2 = nI N := fun y => by rw [row_t (by decide), q2]; exact kk.1.2.2.1
    have hm := hG (g (g p.2)) h0
    show ∃ b, nc_Run m_X12_draws 28 _ _ v = _ ∧ _
    rw [qr_X12_draws_28, e2, if_neg (nI_ge hi (by omega)), show (3 : Int32) = nI 3 from rfl, hdr _ (by omega) (by omega), nc_bI_v, q3]
    unfold cst
    by_cases y : G (g p.2) 3 = 0
    · obtain ⟨k, k1, k2⟩ := o2.2.2.2 i hi
      rw [if_pos (by rw [y]; decide), if_pos y, e3, hdr _ h0 (by omega), nc_bI_v, row_s, upd_s, row_r]
      have s1 : (row v 12 0 (upd (upd (v.1 12 0) 35 (g p.2)) 35 (g (g p.2)))).1 874 0 = p.1 := by rw [row_t (by decide), q2]
      have E2 : eqO mP w (row v 12 0 (upd (upd (v.1 12 0) 35 (g p.2)) 35 (g (g p.2)))) := q1.row ⟨rfl, by omega⟩
      have F2 : ∀ k, k ≠ 35 → (row v 12 0 (upd (upd (v.1 12 0) 35 (g p.2)) 35 (g (g p.2)))).1 12 0 k = w.1 12 0 k := fun k hk => by rw [row_s, upd_n hk, upd_n hk, q5 k hk]
      have F3 : (row v 12 0 (upd (upd (v.1 12 0) 35 (g p.2)) 35 (g (g p.2)))).1 12 0 35 = g (g p.2) := by rw [row_s, upd_s]
      rw [sm_whyTell _ (by omega) (show k < 1024 by omega) (by rw [s1]; exact k2), nc_bI_v, s1, wyt_eq (by omega) k2]
      by_cases r : wyt p.1 i (G (g (g p.2)) N) = 0
      · rw [if_neg (fun y => y r), sm_tells _ (by omega) (by omega), nc_bV_v, nc_li_v, nI_1, if_pos r, s1]
        exact ⟨_, rfl, E2.row ⟨rfl, by omega⟩, fun k hk => by rw [row_t (by decide), F2 k hk], row_s, by rw [row_t (by decide), F3]⟩
      · rw [if_pos r, nc_li_v, nI_1, if_neg r]
        exact ⟨_, rfl, E2, F2, s1, F3⟩
    · rw [if_neg (nI_nle (by omega) (by have := hG (g p.2) (m := 3) (by omega); omega)), if_neg y, nc_li_v, nI_1]
      refine ⟨_, rfl, q1.row ⟨rfl, by omega⟩, fun k hk => by rw [row_s, upd_n hk, q5 k hk], by rw [row_t (by decide), q2], by rw [row_s, upd_s]⟩
  · rintro v ⟨q1, q5, q2, q3⟩
    obtain ⟨o1, o2, -⟩ := its_ok (g := g) (p := (S, x)) hG hC hN h0 hl C (Nat.le_refl _)
    have tf : tfS g G C N (S, x) = fns g G C N (it (cst g G N) 0 C (S, x)) := rfl
    generalize it (cst g G N) 0 C (S, x) = p at q2 q3 o1 o2 tf
    have kk : dok p.1 f C N h := dok_c hk (fun j hj => o1 j (by omega))
    have e2 : v.1 874 0 1 = nI C := by rw [q2]; exact kk.1.2.1
    have e3 : ∀ y, (row v 12 0 y).1 874 0 2 = nI N := fun y => by rw [row_t (by decide), q2]; exact kk.1.2.2.1
    have hm := hG (g (g p.2)) h0
    show ∃ w', nc_Run m_X12_draws 28 _ _ v = _ ∧ _
    rw [qr_X12_draws_28, e2, if_pos (nI_le (Nat.le_refl _) (by omega)), show (12 : Int32) = nI 12 from rfl, hdr _ (by omega) (by omega), nc_bI_v, q3]
    unfold fns at tf
    by_cases y : G (g p.2) 12 = 0
    · rw [if_neg (fun z => z (by rw [y]; rfl)), e3, hdr _ h0 (by omega), nc_bI_v, row_s, upd_s, row_r]
      rw [if_pos y] at tf
      have s1 : (row v 12 0 (upd (upd (v.1 12 0) 35 (g p.2)) 35 (g (g p.2)))).1 874 0 = p.1 := by rw [row_t (by decide), q2]
      have E2 : eqO mP w (row v 12 0 (upd (upd (v.1 12 0) 35 (g p.2)) 35 (g (g p.2)))) := q1.row ⟨rfl, by omega⟩
      have F2 : ∀ k, k ≠ 35 → (row v 12 0 (upd (upd (v.1 12 0) 35 (g p.2)) 35 (g (g p.2)))).1 12 0 k = w.1 12 0 k := fun k hk => by rw [row_s, upd_n hk, upd_n hk, q5 k hk]
      have F3 : (row v 12 0 (upd (upd (v.1 12 0) 35 (g p.2)) 35 (g (g p.2)))).1 12 0 35 = g (g p.2) := by rw [row_s, upd_s]
      rw [sm_whyFind, nc_bI_v, s1]
      by_cases r : wyF p.1 (nI (G (g (g p.2)) N)) = 0
      · rw [if_pos r] at tf
        rw [if_neg (fun y => y r), sm_finds (f := f) (C := C) (N := N) (h := h) (by rw [s1]; exact kk.1) hm, nc_bV_v, s1]
        exact fin _ (E2.row ⟨rfl, by omega⟩) (fun k hk => by rw [row_t (by decide), F2 k hk]) (by rw [row_s, tf]) (by rw [row_t (by decide), F3, tf])
      · rw [if_neg r] at tf
        rw [if_pos r]
        exact fin _ E2 F2 (by rw [s1, tf]) (by rw [F3, tf])
    · rw [if_neg y] at tf
      rw [if_pos (fun z => y ((nI_eq (by have := hG (g p.2) (m := 12) (by omega); omega) (by omega)).mp (z.trans (show (0 : Int32) = nI 0 from rfl))))]
      exact fin _ (q1.row ⟨rfl, by omega⟩) (fun k hk => by rw [row_s, upd_n hk, q5 k hk]) (by rw [row_t (by decide), q2, tf]) (by rw [row_s, upd_s, tf])
theorem sm_drawsG (hG : ∀ (y : Int32) {m : Nat}, 0 < m → G y m < m) (hdr : ∀ (v : nc_H) {n : Nat}, 0 < n → n < 2 ^ 31 → nc_Call m_X12_draw [mO, .inl (nI n)] v = some (some (.inl (nI (G (g (v.1 12 0 35)) n))), row v 12 0 (upd (v.1 12 0) 35 (g (v.1 12 0 35))))) (hk : dok S f C N h) (hl : lok S C N d) (h0 : 0 < N) (hS : w.1 874 0 = S) (hn : n ≤ 60) : ∃ w', nc_Call m_X12_draws [mO, .inl (nI n), .inl x] w = some (some (.inl (nI (min n (400 - d)))), w') ∧ eqO mP w w' ∧ (∀ k, k ≠ 35 → w'.1 12 0 k = w.1 12 0 k) ∧ w'.1 874 0 = (drN g G S x d f C N h (min n (400 - d))).1 := by
  rw [qc_X12_draws, nc_lt_v, si_rw]
  refine lp (R := fun i (v : nc_H) => nc_Run m_X12_draws 7 [some mO, some (.inl (nI n)), none, some (.inl (nI i)), none, none] [] v) (I := fun i v => i ≤ 400 - d ∧ eqO mP w v ∧ (∀ k, k ≠ 35 → v.1 12 0 k = w.1 12 0 k) ∧ v.1 874 0 = (drN g G S x d f C N h i).1 ∧ v.1 12 0 35 = (drN g G S x d f C N h i).2) (n := n) (Q := fun r => ∃ w', r = some (some (.inl (nI (min n (400 - d)))), w') ∧ eqO mP w w' ∧ (∀ k, k ≠ 35 → w'.1 12 0 k = w.1 12 0 k) ∧ w'.1 874 0 = (drN g G S x d f C N h (min n (400 - d))).1) ?_ ?_ n 0 _ (by omega) ?_
  · rintro i v hi ⟨q0, q1, q5, q2, q3⟩
    have hd4 := hl.2.1
    obtain ⟨o1, o2⟩ := drN_ok (g := g) (x := x) hG hk hl h0 i (by omega)
    have e7 : v.1 874 0 76 = nI (d + i) := by rw [q2]; exact o2.1
    by_cases y : d + i = 400
    · left
      show ∃ w', nc_Run m_X12_draws 7 _ _ v = _ ∧ _
      rw [qr_X12_draws_7, if_neg (nI_ge hi (by omega)), e7, if_pos ((lit400 (by omega)).mpr (by omega)), show min n (400 - d) = i by omega]
      exact ⟨v, rfl, q1, q5, q2⟩
    · right
      obtain ⟨w', a1, a2, a3, a4, a5⟩ := sm_dayOf (g := g) (G := G) (w := v) hG hdr (drN_dok (g := g) (x := x) hG hk hl h0 (k := i) (by omega)) o2 (by omega) h0 q2 q3 (nI n) (nI i)
      refine ⟨w', ?_, by omega, q1.tr a2, fun k hk => by rw [a3 k hk, q5 k hk], a4, a5⟩
      show nc_Run m_X12_draws 7 _ _ v = nc_Run m_X12_draws 7 _ _ w'
      rw [qr_X12_draws_7, if_neg (nI_ge hi (by omega)), e7, if_neg (fun q => by rw [lit400 (by omega)] at q; omega), ← nI_1]
      exact a1
  · rintro v ⟨q0, q1, q5, q2, q3⟩
    show ∃ w', nc_Run m_X12_draws 7 _ _ v = _ ∧ _
    rw [qr_X12_draws_7, if_pos (nI_le (Nat.le_refl _) (by omega)), show min n (400 - d) = n by omega]
    exact ⟨v, rfl, q1, q5, q2⟩
  · exact ⟨by omega, eqO.rf.row ⟨rfl, by omega⟩, fun k hk => by rw [row_s, upd_n hk], by rw [row_t (by decide), hS]; rfl, by rw [row_s, upd_s]; rfl⟩
/-- the class's draws over Life 0 -/
theorem sc_drawsG (hG : ∀ (y : Int32) {m : Nat}, 0 < m → G y m < m) (hdr : ∀ (v : nc_H) {n : Nat}, 0 < n → n < 2 ^ 31 → nc_Call m_X4_draw [dO, .inl (nI n)] v = some (some (.inl (nI (G (g (v.1 4 0 0)) n))), row v 4 0 (upd (v.1 4 0) 0 (g (v.1 4 0 0))))) (hD : DR w 0 S f C N h) (hL : LR w 0 S f C N) (hk : dok S f C N h) (hl : lok S C N d) (h0 : 0 < N) (hx : w.1 4 0 0 = x) (hn : n ≤ 60) : ∃ w', nc_Run m_X11_drawn 66 [some cO, some (.inl (nI n)), none, some (.inl (nI d)), some (.inl (nI 0))] [] w = some (some (.inl (nI (min n (400 - d)))), w') ∧ eqO aP w w' ∧ LR w' 0 (drN g G S x d f C N h (min n (400 - d))).1 f C N := by
  have hd4 := hl.2.1
  refine lp (R := fun i (v : nc_H) => nc_Run m_X11_drawn 66 [some cO, some (.inl (nI n)), none, some (.inl (nI d)), some (.inl (nI i))] [] v) (I := fun i v => i ≤ 400 - d ∧ eqO aP w v ∧ LR v 0 (drN g G S x d f C N h i).1 f C N ∧ v.1 4 0 0 = (drN g G S x d f C N h i).2) (n := n) (Q := fun r => ∃ w', r = some (some (.inl (nI (min n (400 - d)))), w') ∧ eqO aP w w' ∧ LR w' 0 (drN g G S x d f C N h (min n (400 - d))).1 f C N) ?_ ?_ n 0 w (by omega) ⟨by omega, eqO.rf, hL, hx⟩
  · rintro i v hi ⟨q0, q1, q2, q3⟩
    obtain ⟨o1, o2⟩ := drN_ok (g := g) (x := x) hG hk hl h0 i (by omega)
    have e7 : v.1 7 0 1 = nI (d + i) := q2.1.1.1.1.trans o2.1
    by_cases y : d + i = 400
    · left
      show ∃ w', nc_Run m_X11_drawn 66 _ _ v = _ ∧ _
      rw [qr_X11_drawn_66, if_neg (nI_ge hi (by omega)), e7, if_pos ((lit400 (by omega)).mpr (by omega)), pk_sub (by omega), Nat.add_sub_cancel_left, show min n (400 - d) = i by omega]
      exact ⟨v, rfl, q1, q2⟩
    · right
      have kk := drN_dok (g := g) (x := x) hG hk hl h0 (k := i) (by omega)
      have D : DR v (nc_ld 0) (drN g G S x d f C N h i).1 f C N h := DR_eq hD (fun t ht => q1.2 t 0 (by unfold aP lP; omega)) (fun k hk => o1 k (Or.inl hk))
      obtain ⟨w1, a1, a2, a3, a4⟩ := sc_tellAndFind (g := g) (G := G) hG hdr D q2.1 kk o2 h0 q3
      have t := tfS_ok (g := g) (p := drN g G S x d f C N h i) hG hk.1.2.2.2.2.2.1 hk.1.2.2.2.2.2.2.1 h0 o2
      have G1 : LG w1 0 (tfS g G C N (drN g G S x d f C N h i)).1 f := by
        obtain ⟨h1, h2, h3⟩ := q2.2
        have n0 : ∀ t, t = 560 ∨ t = 561 ∨ t = 562 → w1.1 t 0 = v.1 t 0 := fun t ht => a2.2 t 0 (by unfold tQ lQ; omega)
        refine ⟨fun c hc => ?_, fun g hg => ?_, fun d' hd' e g' t' hg ht h4 => ?_⟩
        · rw [n0 560 (by omega), t.1 _ (by omega)]
          exact h1 c hc
        · rw [n0 561 (by omega), t.1 _ (by omega)]
          exact h2 g hg
        · rw [n0 562 (by omega), t.1 _ (by omega)]
          rw [t.1 76 (by omega)] at e
          exact h3 d' hd' e g' t' hg ht h4
      have D1 : DR w1 (nc_ld 0) (tfS g G C N (drN g G S x d f C N h i)).1 f C N h := DR_eq D (fun t ht => a2.2 t 0 (by unfold tQ lQ; omega)) (fun k hk => t.1 k (by omega))
      obtain ⟨w2, b1, b2, b3⟩ := sl_goDays (a := 0) (n := 1) D1 ⟨a3, G1⟩ (tf_dok (g := g) hG kk o2 h0) t.2.1 (by omega)
      rw [show min 1 (400 - (d + i)) = 1 by omega] at b1 b3
      refine ⟨w2, ?_, by omega, (q1.tr (a2.mono (fun t a q => q.elim (fun z => Or.inl ⟨z.1, by have := z.2; omega⟩) (fun z => Or.inr z)))).tr (b2.mono (fun t a q => Or.inl q)), b3, ?_⟩
      · show nc_Run m_X11_drawn 66 _ _ v = nc_Run m_X11_drawn 66 _ _ w2
        rw [qr_X11_drawn_66, if_neg (nI_ge hi (by omega)), e7, if_neg (fun q => by rw [lit400 (by omega)] at q; omega), a1, nc_bV_v, show (1 : Int32) = nI 1 from rfl, b1, nc_bI_v, nc_li_v, nI_add]
      · rw [b2.2 4 0 (by unfold lP; omega), a4]
        rfl
  · rintro v ⟨q0, q1, q2, q3⟩
    obtain ⟨o1, o2⟩ := drN_ok (g := g) (x := x) hG hk hl h0 n (by omega)
    have e7 : v.1 7 0 1 = nI (d + n) := q2.1.1.1.1.trans o2.1
    show ∃ w', nc_Run m_X11_drawn 66 _ _ v = _ ∧ _
    rw [qr_X11_drawn_66, if_pos (nI_le (Nat.le_refl _) (by omega)), e7, pk_sub (by omega), Nat.add_sub_cancel_left, show min n (400 - d) = n by omega]
    exact ⟨v, rfl, q1, q2⟩
end DV
