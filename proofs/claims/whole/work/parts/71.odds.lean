/-! drawn, odds. -/
section DU
variable {w w' v : nc_H} {f C N h d n a : Nat} {S : Nat → Int32} {x : Int32}
theorem gG : ∃ (g : Int32 → Int32) (G : Int32 → Nat → Nat), (∀ (y : Int32) {m : Nat}, 0 < m → G y m < m) ∧ (∀ (v : nc_H) {n : Nat}, 0 < n → n < 2 ^ 31 → nc_Call m_X4_draw [dO, .inl (nI n)] v = some (some (.inl (nI (G (g (v.1 4 0 0)) n))), row v 4 0 (upd (v.1 4 0) 0 (g (v.1 4 0 0))))) ∧ (∀ (v : nc_H) {n : Nat}, 0 < n → n < 2 ^ 31 → nc_Call m_X12_draw [mO, .inl (nI n)] v = some (some (.inl (nI (G (g (v.1 12 0 35)) n))), row v 12 0 (upd (v.1 12 0) 35 (g (v.1 12 0 35))))) :=
  ⟨nxt, dn, fun y _ h => dn_lt y h, fun _ _ h1 h2 => sc_draw h1 h2, fun _ _ h1 h2 => sm_draw h1 h2⟩
theorem op_drawn (hI : Inv w) (y x : Int32) : Op w (nc_Call m_X11_drawn [cO, .inl y, .inl x]) (nc_Call m_X12_drawn [mO, .inl y, .inl x]) := by
  obtain ⟨g, G, hG, hdc, hdm⟩ := gG
  have hI0 := hI
  obtain ⟨⟨f, C, N, h, d, hW⟩, -⟩ := hI
  have hW' := hW
  obtain ⟨⟨x1, x2, x3, x4, x5, x6⟩, x7⟩ := hW'
  have hf : f ≤ 4 := x3.1.2.2.2.2.1
  have hC : C ≤ 8 := x3.1.2.2.2.2.2.1
  have hN : N ≤ 10 := x3.1.2.2.2.2.2.2.1
  have hd4 := x2.2.1
  have e7 : w.1 7 0 1 = nI d := x5.1.1.1.1.trans x2.1
  have e3 : w.1 2 0 3 = nI N := x3.2.1.2.2.1
  have m3 : w.1 874 0 2 = nI N := x3.1.2.2.1
  rcases lit_1n (x := y) (n := 60) (by decide) with ⟨n, n1, n2, rfl⟩ | b
  · have g1 : ¬ nI n < 1 := by rw [show (1 : Int32) = nI 1 from rfl, nI_ltI (by omega) (by omega)]; omega
    have g2 : nI n ≤ 60 := nI_le n2 (by decide)
    have g3 : ¬ (60 : Int32) < nI n := Int32.not_lt.mpr g2
    by_cases h0 : N = 0
    · refine rd hI0 ⟨-1, ?_, ?_⟩
      · rw [qc_X11_drawn, if_neg g1, if_neg g3, e3, if_neg (fun q => q (by rw [h0]; rfl))]
      · rw [qc_X12_drawn, nc_lt_v, thr_si, sm_isIn, nc_bI_v, tI_t ⟨Int32.not_lt.mp g1, g2⟩, if_neg (by decide), thr_874, m3, if_neg (fun q => q (by rw [h0]; rfl))]
    · have h0 : 0 < N := by omega
      by_cases z : d = 400
      · have D1 : DR (row w 4 0 (upd (w.1 4 0) 0 x)) 0 (w.1 874 0) f C N h := DR_eq x3 (fun t ht => by rw [row_t (by omega)]) (fun _ _ => rfl)
        have L1 : LR (row w 4 0 (upd (w.1 4 0) 0 x)) 0 (w.1 874 0) f C N := LR_eq x5 (fun t ht => by rw [row_t (by omega)])
        have R : nc_Run m_X11_drawn 66 [some cO, some (.inl (nI n)), none, some (.inl (nI d)), some (.inl (nI 0))] [] (row w 4 0 (upd (w.1 4 0) 0 x)) = some (some (.inl (nI 0)), row w 4 0 (upd (w.1 4 0) 0 x)) := by
          rw [qr_X11_drawn_66, if_neg (nI_ge (by omega) (by omega)), row_t (by decide), e7, if_pos ((lit400 (by omega)).mpr (by omega)), pk_sub (by omega), Nat.sub_self]
        have s4 : (thr (row w 4 0 (upd (w.1 4 0) 0 x)) 0).1 874 0 = w.1 874 0 := by rw [thr_874, row_t (by decide)]
        refine ⟨nI 0, row w 4 0 (upd (w.1 4 0) 0 x), row (thr (row w 4 0 (upd (w.1 4 0) 0 x)) 0) 12 0 (upd ((thr (row w 4 0 (upd (w.1 4 0) 0 x)) 0).1 12 0) 35 x), ?_, ?_, ?_⟩
        · rw [qc_X11_drawn, if_neg g1, if_neg g3, e3, if_pos (nI_ne0 h0 (by omega)), e7, if_pos ((lit400 (by omega)).mpr (by omega)), nc_lt_v, nc_li_v, si_rw, row_t (show (7 : Nat) ≠ 4 by decide), e7]
          exact R
        · rw [qc_X12_drawn, nc_lt_v, thr_si, sm_isIn, nc_bI_v, tI_t ⟨Int32.not_lt.mp g1, g2⟩, if_neg (by decide), s4, m3, if_pos (nI_ne0 h0 (by omega)), x2.1, if_pos ((lit400 (by omega)).mpr (by omega)), qc_X12_draws, nc_lt_v, si_rw]
          have M : nc_Run m_X12_draws 7 [some mO, some (.inl (nI n)), none, some (.inl (nI 0)), none, none] [] (row (thr (row w 4 0 (upd (w.1 4 0) 0 x)) 0) 12 0 (upd ((thr (row w 4 0 (upd (w.1 4 0) 0 x)) 0).1 12 0) 35 x)) = some (some (.inl (nI 0)), row (thr (row w 4 0 (upd (w.1 4 0) 0 x)) 0) 12 0 (upd ((thr (row w 4 0 (upd (w.1 4 0) 0 x)) 0).1 12 0) 35 x)) := by
            rw [qr_X12_draws_7, if_neg (nI_ge (by omega) (by omega)), row_t (by decide), s4, x2.1, if_pos ((lit400 (by omega)).mpr (by omega))]
          exact (congrArg (fun q => nc_bI q fun r5 w4 => some (some (.inl r5), w4)) M)
        · refine Inv_try hI0 (((eqO.rf.row (Or.inl ⟨rfl, by omega⟩)).row (Or.inl ⟨rfl, by omega⟩)).row (Or.inl ⟨rfl, by omega⟩)) (by rw [row_t (by decide), s4]) (fun k hk => ?_)
          unfold k12 at hk
          rw [row_s, upd_n (by omega), thr_k (by omega), row_t (by decide)]
      · obtain ⟨u, nw, w1, y1, y2, y3, y4, y5, y6, y7, y8⟩ := keep2 hW
        have D1 : DR (row w1 4 0 (upd (w1.1 4 0) 0 x)) 0 (w.1 874 0) f C N h := DR_eq y6 (fun t ht => by rw [row_t (by omega)]) (fun _ _ => rfl)
        have L1 : LR (row w1 4 0 (upd (w1.1 4 0) 0 x)) 0 (w.1 874 0) f C N := LR_eq y5 (fun t ht => by rw [row_t (by omega)])
        obtain ⟨w2, z1, z2, z3⟩ := sc_drawsG (g := g) (G := G) (x := x) (n := n) hG hdc D1 L1 x1 x2 h0 (by rw [row_s, upd_s]) n2
        have A1 : eqO aP w1 w2 := (eqO.rf.row (Or.inr ⟨rfl, rfl⟩)).tr z2
        have s2 : (thr w2 0).1 874 0 = w.1 874 0 := by
          rw [thr_874, A1.2 874 0 (fun q => by unfold aP lP at q; omega), y3.2 874 0 (fun q => by unfold kC lC at q; omega)]
        have f24 : (thr w2 0).1 12 0 24 = nI u := by
          rw [thr_k (by decide), A1.2 12 0 (fun q => by unfold aP lP at q; omega), y3.2 12 0 (fun q => by unfold kC lC at q; omega)]
          exact y1.2.2.1
        obtain ⟨w3, v1, v2, v3, v4, v5⟩ := sm_keep (w := thr w2 0) y1.1 f24
        have s3 : w3.1 874 0 = w.1 874 0 := (v2.2 874 0 (fun q => by unfold mK at q; omega)).trans s2
        obtain ⟨w4, p1, p2, p3, p4⟩ := sm_drawsG (g := g) (G := G) (w := w3) (x := x) (n := n) hG hdm x1 x2 h0 s3 n2
        obtain ⟨o1, o2⟩ := drN_ok (g := g) (x := x) hG x1 x2 h0 (min n (400 - d)) (by omega)
        refine ⟨nI (min n (400 - d)), w2, w4, ?_, ?_, ?_⟩
        · rw [qc_X11_drawn, if_neg g1, if_neg g3, e3, if_pos (nI_ne0 h0 (by omega)), e7, if_neg (fun q => by rw [lit400 (by omega)] at q; omega), y2, nc_bV_v, nc_lt_v, nc_li_v, si_rw, row_t (show (7 : Nat) ≠ 4 by decide), y3.2 7 0 (fun q => by unfold kC lC at q; omega), e7]
          exact z1
        · rw [qc_X12_drawn, nc_lt_v, thr_si, sm_isIn, nc_bI_v, tI_t ⟨Int32.not_lt.mp g1, g2⟩, if_neg (by decide), s2, m3, if_pos (nI_ne0 h0 (by omega)), x2.1, if_neg (fun q => by rw [lit400 (by omega)] at q; omega), v1, nc_bV_v, p1, nc_bI_v]
        · refine act_end (d' := d + min n (400 - d)) hI0 hW y1 y3 y4 y7 y8 A1 v2 v3 v4 v5 p2 (fun k hk => p3 k (by unfold k12 at hk; omega)) (fun j hj => ?_) ?_ ?_
          · rw [p4, o1 j hj]
          · rw [p4]
            exact o2
          · rw [p4]
            exact z3
  · refine rd hI0 ⟨-1, ?_, ?_⟩
    · rw [qc_X11_drawn]
      by_cases b1 : y < 1
      · rw [if_pos b1]
      · rw [if_neg b1, if_pos (show (60 : Int32) < y from Int32.not_le.mp (b.elim (fun q => absurd q b1) id))]
    · rw [qc_X12_drawn, nc_lt_v, thr_si, sm_isIn, nc_bI_v, tI_f (fun q => b.elim (fun z => absurd q.1 (Int32.not_le.mpr z)) (fun z => z q.2)), if_pos rfl]
section OD
variable {g : Int32 → Int32} {G : Int32 → Nat → Nat}
theorem drN_dry (hG : ∀ (y : Int32) {m : Nat}, 0 < m → G y m < m) (hk : dok S f C N h) (hl : lok S C N d) (h0 : 0 < N) {c i : Nat} (hc : c < 32) (hb : bq ((drN g G S x d f C N h i).1 77) (nI c)) : ∀ k, d + (i + k) ≤ 400 → bq ((drN g G S x d f C N h (i + k)).1 77) (nI c)
  | 0, _ => hb
  | k + 1, hh => by
    have hf : f ≤ 4 := hk.1.2.2.2.2.1
    have hC : C ≤ 8 := hk.1.2.2.2.2.2.1
    have hN : N ≤ 10 := hk.1.2.2.2.2.2.2.1
    have ih := drN_dry hG hk hl h0 hc hb k (by omega)
    obtain ⟨o1, o2⟩ := drN_ok (g := g) (x := x) hG hk hl h0 (i + k) (by omega)
    have t := (tfS_ok (g := g) (p := drN g G S x d f C N h (i + k)) hG hC hN h0 o2).2.2 c hc ih
    show bq (dayS (tfS g G C N (drN g G S x d f C N h (i + k))).1 (d + (i + k)) f C N h 77) (nI c)
    rw [dayS_o hf hC (by omega)]
    exact t
theorem sc_driesByDraws (hG : ∀ (y : Int32) {m : Nat}, 0 < m → G y m < m) (hdr : ∀ (v : nc_H) {n : Nat}, 0 < n → n < 2 ^ 31 → nc_Call m_X4_draw [dO, .inl (nI n)] v = some (some (.inl (nI (G (g (v.1 4 0 0)) n))), row v 4 0 (upd (v.1 4 0) 0 (g (v.1 4 0 0))))) {c : Nat} (hc : c < 32) (hD : DR w 0 S f C N h) (hL : LK w 1 S C N) (hk : dok S f C N h) (hl : lok S C N d) (h0 : 0 < N) (hx : w.1 4 0 0 = x) : ∃ w', nc_Call m_X11_driesByDraws [cO, .inl (nI c)] w = some (some (.inl (tI (bq ((drN g G S x d f C N h (min 20 (400 - d))).1 77) (nI c)))), w') ∧ eqO (tQ 1) w w' := by
  have hd4 := hl.2.1
  rw [qc_X11_driesByDraws]
  refine lp (R := fun i (v : nc_H) => nc_Run m_X11_driesByDraws 2 [some cO, some (.inl (nI c)), some (.inl (nI i))] [] v) (I := fun i v => i ≤ 400 - d ∧ eqO (tQ 1) w v ∧ LK v 1 (drN g G S x d f C N h i).1 C N ∧ v.1 4 0 0 = (drN g G S x d f C N h i).2) (n := 20) (Q := fun r => ∃ w', r = some (some (.inl (tI (bq ((drN g G S x d f C N h (min 20 (400 - d))).1 77) (nI c)))), w') ∧ eqO (tQ 1) w w') ?_ ?_ 20 0 w (by omega) ⟨by omega, eqO.rf, hL, hx⟩
  · rintro i v hi ⟨q0, q1, q2, q3⟩
    obtain ⟨o1, o2⟩ := drN_ok (g := g) (x := x) hG hk hl h0 i (by omega)
    have e7 : v.1 7 1 1 = nI (d + i) := q2.1.1.1.trans o2.1
    have e77 : v.1 7 1 3 = (drN g G S x d f C N h i).1 77 := q2.1.1.2.1
    by_cases y : d + i = 400
    · left
      show ∃ w', nc_Run m_X11_driesByDraws 2 _ _ v = _ ∧ _
      rw [qr_X11_driesByDraws_2, if_neg (show ¬ (20 : Int32) ≤ nI i from nI_ge hi (by decide)), e7, if_pos ((lit400 (by omega)).mpr (by omega)), sl_isDry, nc_bI_v, nc_z_tI, e77, show min 20 (400 - d) = i by omega]
      exact ⟨v, rfl, q1⟩
    · by_cases b : bq ((drN g G S x d f C N h i).1 77) (nI c)
      · left
        have bb := drN_dry (g := g) (x := x) hG hk hl h0 hc b (min 20 (400 - d) - i) (by omega)
        rw [show i + (min 20 (400 - d) - i) = min 20 (400 - d) by omega] at bb
        show ∃ w', nc_Run m_X11_driesByDraws 2 _ _ v = _ ∧ _
        rw [qr_X11_driesByDraws_2, if_neg (show ¬ (20 : Int32) ≤ nI i from nI_ge hi (by decide)), e7, if_neg (fun q => by rw [lit400 (by omega)] at q; omega), sl_isDry, nc_bI_v, e77, if_pos (tI_ne.mpr b), sl_isDry, nc_bI_v, nc_z_tI, e77, tI_t b, tI_t bb]
        exact ⟨v, rfl, q1⟩
      · right
        have kk := drN_dok (g := g) (x := x) hG hk hl h0 (k := i) (by omega)
        have D : DR v (nc_ld 1) (drN g G S x d f C N h i).1 f C N h := DR_eq hD (fun t ht => q1.2 t 0 (by unfold tQ lQ; omega)) (fun k hk => o1 k (Or.inl hk))
        obtain ⟨w1, a1, a2, a3, a4⟩ := sc_tellAndFind (g := g) (G := G) hG hdr D q2 kk o2 h0 q3
        have t := tfS_ok (g := g) (p := drN g G S x d f C N h i) hG hk.1.2.2.2.2.2.1 hk.1.2.2.2.2.2.2.1 h0 o2
        have D1 : DR w1 (nc_ld 1) (tfS g G C N (drN g G S x d f C N h i)).1 f C N h := DR_eq D (fun t ht => a2.2 t 0 (by unfold tQ lQ; omega)) (fun k hk => t.1 k (by omega))
        obtain ⟨w2, w3, b1, b2, b3, b4⟩ := sl_tt D1 a3 (tf_dok (g := g) hG kk o2 h0) t.2.1
        refine ⟨w3, ?_, by omega, (q1.tr a2).tr (b3.mono (fun t a q => Or.inl q)), b4, ?_⟩
        · show nc_Run m_X11_driesByDraws 2 _ _ v = nc_Run m_X11_driesByDraws 2 _ _ w3
          rw [qr_X11_driesByDraws_2, if_neg (show ¬ (20 : Int32) ≤ nI i from nI_ge hi (by decide)), e7, if_neg (fun q => by rw [lit400 (by omega)] at q; omega), sl_isDry, nc_bI_v, e77, if_neg (fun q => q (tI_eq0.mpr b)), a1, nc_bV_v, b1, nc_bV_v, b2, nc_bV_v, nc_li_v, nI_1]
        · rw [b3.2 4 0 (by unfold lQ; omega), a4]
          rfl
  · rintro v ⟨q0, q1, q2, q3⟩
    have e77 : v.1 7 1 3 = (drN g G S x d f C N h 20).1 77 := q2.1.1.2.1
    show ∃ w', nc_Run m_X11_driesByDraws 2 _ _ v = _ ∧ _
    rw [qr_X11_driesByDraws_2, if_pos (by decide +kernel), sl_isDry, nc_bI_v, nc_z_tI, e77, show min 20 (400 - d) = 20 by omega]
    exact ⟨v, rfl, q1⟩
/-- how many of i seeds dry cow c -/
def odn (g : Int32 → Int32) (G : Int32 → Nat → Nat) (S : Nat → Int32) (x : Int32) (d f C N h c i : Nat) : Int32 := it (fun k (z : Int32) => if bq ((drN g G S (x + nI k) d f C N h (min 20 (400 - d))).1 77) (nI c) then z + 1 else z) 0 i 0
theorem odn_s {c i : Nat} : odn g G S x d f C N h c (i + 1) = if bq ((drN g G S (x + nI i) d f C N h (min 20 (400 - d))).1 77) (nI c) then odn g G S x d f C N h c i + 1 else odn g G S x d f C N h c i := by
  unfold odn
  rw [it_succ, Nat.zero_add]
end OD
theorem op_odds (hI : Inv w) (y z x : Int32) : Op w (nc_Call m_X11_odds [cO, .inl y, .inl z, .inl x]) (nc_Call m_X12_odds [mO, .inl y, .inl z, .inl x]) := by
  obtain ⟨g, G, hG, hdc, hdm⟩ := gG
  have hI0 := hI
  obtain ⟨⟨f, C, N, h, d, hW⟩, -⟩ := hI
  obtain ⟨⟨x1, x2, x3, x4, x5, x6⟩, x7⟩ := hW
  have hf : f ≤ 4 := x3.1.2.2.2.2.1
  have hC : C ≤ 8 := x3.1.2.2.2.2.2.1
  have hN : N ≤ 10 := x3.1.2.2.2.2.2.2.1
  have hd4 := x2.2.1
  have e3 : w.1 2 0 3 = nI N := x3.2.1.2.2.1
  have e2 : w.1 2 0 2 = nI C := x3.2.1.2.1
  have m3 : w.1 874 0 2 = nI N := x3.1.2.2.1
  have m2 : w.1 874 0 1 = nI C := x3.1.2.1
  have m2' : (thr w 0).1 874 0 1 = nI C := by rw [thr_874]; exact m2
  by_cases b : rng y C
  · rcases lit_1n (x := z) (n := 30) (by decide) with ⟨n, n1, n2, rfl⟩ | b2
    · have g1 : ¬ nI n < 1 := by rw [show (1 : Int32) = nI 1 from rfl, nI_ltI (by omega) (by omega)]; omega
      have g2 : nI n ≤ 30 := nI_le n2 (by decide)
      have g3 : ¬ (30 : Int32) < nI n := Int32.not_lt.mpr g2
      by_cases h0 : N = 0
      · refine rd hI0 ⟨-1, ?_, ?_⟩
        · rw [qc_X11_odds, sc_isCow_t e2 (by omega) b, nc_bI_v, if_neg (by decide), if_neg g1, if_neg g3, e3, if_neg (fun q => q (by rw [h0]; rfl))]
        · rw [qc_X12_odds, nc_lt_v, thr_si, mm_isCow_t m2' (by omega) b, nc_bI_v, if_neg (by decide), sm_isIn, nc_bI_v, tI_t ⟨Int32.not_lt.mp g1, g2⟩, if_neg (by decide), thr_874, m3, if_neg (fun q => q (by rw [h0]; rfl))]
      · have h0 : 0 < N := by omega
        have b' := b
        obtain ⟨c, c1, rfl⟩ := b'
        have A : ∃ w1, nc_Run m_X11_odds 37 [some cO, some (.inl (nI c)), some (.inl (nI n)), some (.inl x), some (.inl (odn g G (w.1 874 0) x d f C N h c 0)), some (.inl (nI 0))] [] w = some (some (.inl (odn g G (w.1 874 0) x d f C N h c n)), w1) ∧ eqO (fun t a => lP 1 t a ∨ (t = 4 ∧ a = 0)) w w1 := by
          refine lp (R := fun i (v : nc_H) => nc_Run m_X11_odds 37 [some cO, some (.inl (nI c)), some (.inl (nI n)), some (.inl x), some (.inl (odn g G (w.1 874 0) x d f C N h c i)), some (.inl (nI i))] [] v) (I := fun i v => eqO (fun t a => lP 1 t a ∨ (t = 4 ∧ a = 0)) w v) (n := n) (Q := fun r => ∃ w1, r = some (some (.inl (odn g G (w.1 874 0) x d f C N h c n)), w1) ∧ eqO (fun t a => lP 1 t a ∨ (t = 4 ∧ a = 0)) w w1) ?_ ?_ n 0 w (by omega) eqO.rf
          · intro i v hi q1
            right
            obtain ⟨w1, a1, a2, a3⟩ := sl_copyFrom (w := v) (a := 1) (b := 0) (by omega)
            have q0 : ∀ t, t = 2 ∨ t = 7 ∨ (236 ≤ t ∧ t ≤ 246) ∨ (553 ≤ t ∧ t ≤ 562) → v.1 t 0 = w.1 t 0 := fun t ht => q1.2 t 0 (by unfold lP; omega)
            have D0 : DR v 0 (w.1 874 0) f C N h := DR_eq x3 (fun t ht => q0 t (by omega)) (fun _ _ => rfl)
            have D1 : DR (row w1 4 0 (upd (w1.1 4 0) 0 (x + nI i))) 0 (w.1 874 0) f C N h := DR_eq D0 (fun t ht => by rw [row_t (by omega), a2.2 t 0 (by unfold lC; omega)]) (fun _ _ => rfl)
            have L1 : LK w1 1 (w.1 874 0) C N := LK_cp hC hN a3 (LK_eq x5.1 (fun t ht => q0 t (by omega)))
            obtain ⟨w2, b1, b2⟩ := sc_driesByDraws (g := g) (G := G) (x := x + nI i) (c := c) hG hdc (by omega) D1 (LK_eq L1 (fun t ht => by rw [row_t (by omega)])) x1 x2 h0 (by rw [row_s, upd_s])
            have E : eqO (fun t a => lP 1 t a ∨ (t = 4 ∧ a = 0)) w w2 := ((q1.tr (a2.mono (fun t a q => Or.inl ⟨q.1, by have := q.2; omega⟩))).row (Or.inr ⟨rfl, rfl⟩)).tr (b2.mono (fun t a q => q.elim (fun z => Or.inl ⟨z.1, by have := z.2; omega⟩) (fun z => Or.inr z)))
            refine ⟨w2, ?_, E⟩
            show nc_Run m_X11_odds 37 _ _ v = nc_Run m_X11_odds 37 _ _ w2
            rw [qr_X11_odds_37, if_neg (nI_ge hi (by omega)), a1, nc_bV_v, nc_lt_v, si_rw, b1, nc_bI_v, odn_s]
            by_cases r : bq ((drN g G (w.1 874 0) (x + nI i) d f C N h (min 20 (400 - d))).1 77) (nI c)
            · rw [if_neg (tI_ne.mpr r), nc_li_v, nc_li_v, nI_1, if_pos r]
            · rw [if_pos (tI_eq0.mpr r), nc_li_v, nI_1, if_neg r]
          · intro v q1
            show ∃ w1, nc_Run m_X11_odds 37 _ _ v = _ ∧ _
            rw [qr_X11_odds_37, if_pos (nI_le (Nat.le_refl _) (by omega))]
            exact ⟨v, rfl, q1⟩
        obtain ⟨w1, a1, a2⟩ := A
        have s1 : (thr w1 0).1 874 0 = w.1 874 0 := by rw [thr_874, a2.2 874 0 (by unfold lP; omega)]
        let v1 : nc_H := row (thr w1 0) 891 0 (fun k => if k < 256 then (thr w1 0).1 874 0 (76 + k) else (thr w1 0).1 891 0 k)
        have s2 : v1.1 874 0 = w.1 874 0 := by
          show (row _ 891 0 _).1 874 0 = _
          rw [row_t (by decide), s1]
        have hb : ∀ k, k < 256 → v1.1 891 0 k = w.1 874 0 (76 + k) := fun k hk => by
          show (row _ 891 0 _).1 891 0 k = _
          rw [row_s, if_pos hk, s1]
        have B : ∃ w2, nc_Run m_X12_odds 44 [some mO, some (.inl (nI c)), some (.inl (nI n)), some (.inl x), some (.inl (odn g G (w.1 874 0) x d f C N h c 0)), some (.inl (nI 0))] [] v1 = some (some (.inl (odn g G (w.1 874 0) x d f C N h c n)), w2) ∧ eqO mP v1 w2 ∧ w2.1 874 0 = w.1 874 0 ∧ ∀ k, k ≠ 35 → w2.1 12 0 k = v1.1 12 0 k := by
          refine lp (R := fun i (v : nc_H) => nc_Run m_X12_odds 44 [some mO, some (.inl (nI c)), some (.inl (nI n)), some (.inl x), some (.inl (odn g G (w.1 874 0) x d f C N h c i)), some (.inl (nI i))] [] v) (I := fun i v => eqO mP v1 v ∧ v.1 874 0 = w.1 874 0 ∧ ∀ k, k ≠ 35 → v.1 12 0 k = v1.1 12 0 k) (n := n) (Q := fun r => ∃ w2, r = some (some (.inl (odn g G (w.1 874 0) x d f C N h c n)), w2) ∧ eqO mP v1 w2 ∧ w2.1 874 0 = w.1 874 0 ∧ ∀ k, k ≠ 35 → w2.1 12 0 k = v1.1 12 0 k) ?_ ?_ n 0 v1 (by omega) ⟨eqO.rf, s2, fun _ _ => rfl⟩
          · rintro i v hi ⟨q1, q2, q3⟩
            right
            obtain ⟨w4, p1, p2, p3, p4⟩ := sm_drawsG (g := g) (G := G) (w := v) (x := x + nI i) (n := 20) hG hdm x1 x2 h0 q2 (by omega)
            obtain ⟨o1, o2⟩ := drN_ok (g := g) (x := x + nI i) hG x1 x2 h0 (min 20 (400 - d)) (by omega)
            have bk := sm_back (w := w4) (S := w.1 874 0) (fun k hk => by rw [p2.2 891 0 (by unfold mP; omega), q1.2 891 0 (by unfold mP; omega)]; exact hb k hk) (fun k hk => by rw [p4]; exact o1 k hk)
            refine ⟨row w4 874 0 (w.1 874 0), ?_, (q1.tr p2).row ⟨rfl, by omega⟩, row_s, fun k hk => by rw [row_t (by decide), p3 k hk, q3 k hk]⟩
            show nc_Run m_X12_odds 44 _ _ v = nc_Run m_X12_odds 44 _ _ _
            rw [qr_X12_odds_44, if_neg (nI_ge hi (by omega)), show (20 : Int32) = nI 20 from rfl, p1, nc_bI_v, sm_isDry, nc_bI_v, p4, odn_s]
            by_cases r : bq ((drN g G (w.1 874 0) (x + nI i) d f C N h (min 20 (400 - d))).1 77) (nI c)
            · rw [if_neg (tI_ne.mpr r), nc_li_v, bk, nc_bV_v, nc_li_v, nI_1, if_pos r]
            · rw [if_pos (tI_eq0.mpr r), nc_li_v, bk, nc_bV_v, nc_li_v, nI_1, if_neg r, Int32.add_zero]
          · rintro v ⟨q1, q2, q3⟩
            show ∃ w2, nc_Run m_X12_odds 44 _ _ v = _ ∧ _
            rw [qr_X12_odds_44, if_pos (nI_le (Nat.le_refl _) (by omega))]
            exact ⟨v, rfl, q1, q2, q3⟩
        obtain ⟨w2, b1, b2, b3, b4⟩ := B
        refine ⟨odn g G (w.1 874 0) x d f C N h c n, w1, w2, ?_, ?_, ?_⟩
        · rw [qc_X11_odds, sc_isCow_t e2 (by omega) b, nc_bI_v, if_neg (by decide), if_neg g1, if_neg g3, e3, if_pos (nI_ne0 h0 (by omega))]
          exact a1
        · rw [qc_X12_odds, nc_lt_v, thr_si, mm_isCow_t (by rw [s1]; exact m2) (by omega) b, nc_bI_v, if_neg (by decide), sm_isIn, nc_bI_v, tI_t ⟨Int32.not_lt.mp g1, g2⟩, if_neg (by decide), s1, m3, if_pos (nI_ne0 h0 (by omega)), sm_tries, nc_bV_v]
          exact b1
        · refine Inv_try hI0 ⟨b2.1.trans a2.1, fun t a q => ?_⟩ b3 (fun k hk => ?_)
          · unfold jT at q
            rw [b2.2 t a (by unfold mP; omega)]
            show (row _ 891 0 _).1 t a = _
            rw [row_n (by omega), row_n (by omega), a2.2 t a (by unfold lP; omega)]
          · unfold k12 at hk
            rw [b4 k (by omega)]
            show (row _ 891 0 _).1 12 0 k = _
            rw [row_t (by decide), thr_k (by omega), a2.2 12 0 (by unfold lP; omega)]
    · refine rd hI0 ⟨-1, ?_, ?_⟩
      · rw [qc_X11_odds, sc_isCow_t e2 (by omega) b, nc_bI_v, if_neg (by decide)]
        by_cases b1 : z < 1
        · rw [if_pos b1]
        · rw [if_neg b1, if_pos (show (30 : Int32) < z from Int32.not_le.mp (b2.elim (fun q => absurd q b1) id))]
      · rw [qc_X12_odds, nc_lt_v, thr_si, mm_isCow_t m2' (by omega) b, nc_bI_v, if_neg (by decide), sm_isIn, nc_bI_v, tI_f (fun q => b2.elim (fun z => absurd q.1 (Int32.not_le.mpr z)) (fun z => z q.2)), if_pos rfl]
  · refine rd hI0 ⟨-1, ?_, ?_⟩
    · rw [qc_X11_odds, sc_isCow_f e2 (by omega) b, nc_bI_v, if_pos rfl]
    · rw [qc_X12_odds, nc_lt_v, thr_si, mm_isCow_f m2' (by omega) b, nc_bI_v, if_pos rfl]
end DU
