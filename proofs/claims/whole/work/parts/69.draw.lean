/-! DRAWS. -/
def nxt (x : Int32) : Int32 := x * 1103515245 + 12345
def dn (x : Int32) (n : Nat) : Nat := (x.toBitVec.toNat / 256) % n
section DW
variable {w w' v : nc_H} {f C N h d n a : Nat} {S : Nat → Int32} {x : Int32}
theorem ush8 : ((x.toUInt32 >>> ((8 : Int32).toUInt32 &&& Int32.toUInt32 31)).toInt32) = nI (x.toBitVec.toNat / 256) := by
  refine Int32.toBitVec_inj.mp (BitVec.eq_of_toNat_eq ?_)
  rw [pk_ushr x 8 8 (by decide +kernel), pk_tn]
  · have := x.toBitVec.isLt
    omega
theorem dr_eq (h0 : 0 < n) (hn : n < 2 ^ 31) : ((x.toUInt32 >>> ((8 : Int32).toUInt32 &&& Int32.toUInt32 31)).toInt32) - ((x.toUInt32 >>> ((8 : Int32).toUInt32 &&& Int32.toUInt32 31)).toInt32) / nI n * nI n = nI (dn x n) := by
  have := x.toBitVec.isLt
  rw [ush8, pk_rem (by omega) h0 hn, dn]
abbrev dO : nc_V := .inr (.inr (4, 0))
theorem sc_draw (h0 : 0 < n) (hn : n < 2 ^ 31) : nc_Call m_X4_draw [dO, .inl (nI n)] w = some (some (.inl (nI (dn (nxt (w.1 4 0 0)) n))), row w 4 0 (upd (w.1 4 0) 0 (nxt (w.1 4 0 0)))) := by
  rw [qc_X4_draw, nc_lt_v, if_neg (nI_nle h0 hn), if_neg (nI_ne0 h0 hn), si_rw, row_s, upd_s, dr_eq h0 hn]
  rfl
theorem sm_draw (h0 : 0 < n) (hn : n < 2 ^ 31) : nc_Call m_X12_draw [mO, .inl (nI n)] w = some (some (.inl (nI (dn (nxt (w.1 12 0 35)) n))), row w 12 0 (upd (w.1 12 0) 35 (nxt (w.1 12 0 35)))) := by
  rw [qc_X12_draw, nc_lt_v, if_neg (nI_ne0 h0 hn), si_rw, row_s, upd_s, dr_eq h0 hn]
  rfl
theorem dn_lt (x : Int32) (h : 0 < n) : dn x n < n := by
  unfold dn
  exact Nat.mod_lt _ h
variable {g : Int32 → Int32} {G : Int32 → Nat → Nat}
def wyt (S : Nat → Int32) (c n : Nat) : Int32 := wyT S c n (S (100 + c)).toBitVec.toNat
theorem wyt_eq {c n k : Nat} (hk : k < 1024) (e : S (100 + c) = nI k) : wyT S c n k = wyt S c n := by
  unfold wyt
  rw [e, pk_tn (by omega)]
/-- a cow's draws -/
def cst (g : Int32 → Int32) (G : Int32 → Nat → Nat) (N c : Nat) (p : (Nat → Int32) × Int32) : (Nat → Int32) × Int32 := if G (g p.2) 3 = 0 then ((if wyt p.1 c (G (g (g p.2)) N) = 0 then tellS p.1 c (G (g (g p.2)) N) else p.1), g (g p.2)) else (p.1, g p.2)
/-- the draws for what is found -/
def fns (g : Int32 → Int32) (G : Int32 → Nat → Nat) (C N : Nat) (p : (Nat → Int32) × Int32) : (Nat → Int32) × Int32 := if G (g p.2) 12 = 0 then ((if wyF p.1 (nI (G (g (g p.2)) N)) = 0 then findS p.1 C (G (g (g p.2)) N) else p.1), g (g p.2)) else (p.1, g p.2)
def tfS (g : Int32 → Int32) (G : Int32 → Nat → Nat) (C N : Nat) (p : (Nat → Int32) × Int32) : (Nat → Int32) × Int32 := fns g G C N (it (cst g G N) 0 C p)
/-- what draws leave as it was -/
def agd (S S' : Nat → Int32) : Prop := ∀ k, k < 77 ∨ (87 ≤ k ∧ k < 99) ∨ 212 ≤ k → S' k = S k
theorem cst_ok {p : (Nat → Int32) × Int32} {c : Nat} (hG : ∀ (y : Int32) {m : Nat}, 0 < m → G y m < m) (hC : C ≤ 8) (hN : N ≤ 10) (h0 : 0 < N) (hc : c < C) (hl : lok p.1 C N d) : agd p.1 (cst g G N c p).1 ∧ lok (cst g G N c p).1 C N d ∧ (cst g G N c p).1 77 = p.1 77 := by
  have hm := hG (g (g p.2)) h0
  unfold cst
  by_cases q : G (g p.2) 3 = 0
  · rw [if_pos q]
    by_cases r : wyt p.1 c (G (g (g p.2)) N) = 0
    · rw [if_pos r]
      exact ⟨fun k hk => tellS_o (by omega) (by omega) (by omega), lok_tell hl hC hN hc hm, tellS_o (by omega) (by omega) (by omega)⟩
    · rw [if_neg r]
      exact ⟨fun _ _ => rfl, hl, rfl⟩
  · rw [if_neg q]
    exact ⟨fun _ _ => rfl, hl, rfl⟩
theorem agd.tr {S1 S2 S3 : Nat → Int32} (h1 : agd S1 S2) (h2 : agd S2 S3) : agd S1 S3 := fun k hk => (h2 k hk).trans (h1 k hk)
theorem its_ok {p : (Nat → Int32) × Int32} (hG : ∀ (y : Int32) {m : Nat}, 0 < m → G y m < m) (hC : C ≤ 8) (hN : N ≤ 10) (h0 : 0 < N) (hl : lok p.1 C N d) : ∀ i, i ≤ C → agd p.1 (it (cst g G N) 0 i p).1 ∧ lok (it (cst g G N) 0 i p).1 C N d ∧ (it (cst g G N) 0 i p).1 77 = p.1 77
  | 0, _ => ⟨fun _ _ => rfl, hl, rfl⟩
  | i + 1, hi => by
    have ih := its_ok hG hC hN h0 hl i (by omega)
    rw [it_succ, Nat.zero_add]
    have s := cst_ok (g := g) hG hC hN h0 (show i < C by omega) ih.2.1
    exact ⟨ih.1.tr s.1, s.2.1, s.2.2.trans ih.2.2⟩
theorem fns_ok {p : (Nat → Int32) × Int32} (hC : C ≤ 8) (hl : lok p.1 C N d) : agd p.1 (fns g G C N p).1 ∧ lok (fns g G C N p).1 C N d ∧ ∀ i, i < 32 → bq (p.1 77) (nI i) → bq ((fns g G C N p).1 77) (nI i) := by
  unfold fns
  by_cases q : G (g p.2) 12 = 0
  · rw [if_pos q]
    by_cases r : wyF p.1 (nI (G (g (g p.2)) N)) = 0
    · rw [if_pos r]
      exact ⟨fun k hk => findS_o (by omega), lok_find hl hC, fun i hi z => by
        show bq (findS p.1 C _ 77) (nI i)
        rw [findS_77, bq_or hi]
        exact Or.inl z⟩
    · rw [if_neg r]
      exact ⟨fun _ _ => rfl, hl, fun _ _ z => z⟩
  · rw [if_neg q]
    exact ⟨fun _ _ => rfl, hl, fun _ _ z => z⟩
theorem tfS_ok {p : (Nat → Int32) × Int32} (hG : ∀ (y : Int32) {m : Nat}, 0 < m → G y m < m) (hC : C ≤ 8) (hN : N ≤ 10) (h0 : 0 < N) (hl : lok p.1 C N d) : agd p.1 (tfS g G C N p).1 ∧ lok (tfS g G C N p).1 C N d ∧ ∀ i, i < 32 → bq (p.1 77) (nI i) → bq ((tfS g G C N p).1 77) (nI i) := by
  have a := its_ok (g := g) (p := p) hG hC hN h0 hl C (Nat.le_refl _)
  have b := fns_ok (g := g) (G := G) (N := N) (p := it (cst g G N) 0 C p) hC a.2.1
  exact ⟨a.1.tr b.1, b.2.1, fun i hi z => b.2.2 i hi (by rw [a.2.2]; exact z)⟩
/-- Life a and the draws' seed -/
def tQ (a t a' : Nat) : Prop := lQ a t a' ∨ (t = 4 ∧ a' = 0)
theorem sc_tellAndFind (hG : ∀ (y : Int32) {m : Nat}, 0 < m → G y m < m) (hdr : ∀ (v : nc_H) {n : Nat}, 0 < n → n < 2 ^ 31 → nc_Call m_X4_draw [dO, .inl (nI n)] v = some (some (.inl (nI (G (g (v.1 4 0 0)) n))), row v 4 0 (upd (v.1 4 0) 0 (g (v.1 4 0 0))))) (hD : DR w (nc_ld a) S f C N h) (hL : LK w a S C N) (hk : dok S f C N h) (hl : lok S C N d) (h0 : 0 < N) (hx : w.1 4 0 0 = x) : ∃ w', nc_Call m_X4_tellAndFind [dO, lO a] w = some (none, w') ∧ eqO (tQ a) w w' ∧ LK w' a (tfS g G C N (S, x)).1 C N ∧ w'.1 4 0 0 = (tfS g G C N (S, x)).2 := by
  have hC : C ≤ 8 := hD.1.2.2.2.2.2.1
  have hN : N ≤ 10 := hD.1.2.2.2.2.2.2.1
  have e3 : w.1 2 (nc_ld a) 3 = nI N := hD.2.1.2.2.1
  have p10 := pow_N hN
  rw [qc_X4_tellAndFind, nc_li_v, e3, if_pos (nI_ne0 h0 (by omega))]
  have DD : ∀ (v : nc_H) (S' : Nat → Int32), eqO (tQ a) w v → agd S S' → DR v (nc_ld a) S' f C N h := fun v S' E g => DR_eq hD (fun t ht => E.2 t _ (by unfold tQ lQ; omega)) (fun k hk => g k (by omega))
  have LL : ∀ (v : nc_H) (S' : Nat → Int32) (y : Int32), LK v a S' C N → LK (row v 4 0 (upd (v.1 4 0) 0 y)) a S' C N := fun v S' y q => LK_eq q (fun t ht => by rw [row_t (by omega)])
  refine lp (R := fun i (v : nc_H) => nc_Run m_X4_tellAndFind 15 [some dO, some (lO a), some (.inl (nI N)), some (.inl (nI i)), none] [] v) (I := fun i v => eqO (tQ a) w v ∧ LK v a (it (cst g G N) 0 i (S, x)).1 C N ∧ v.1 4 0 0 = (it (cst g G N) 0 i (S, x)).2) (n := C) (Q := fun r => ∃ w', r = some (none, w') ∧ eqO (tQ a) w w' ∧ LK w' a (tfS g G C N (S, x)).1 C N ∧ w'.1 4 0 0 = (tfS g G C N (S, x)).2) ?_ ?_ C 0 w (by omega) ⟨eqO.rf, hL, hx⟩
  · rintro i v hi ⟨q1, q2, q3⟩
    right
    obtain ⟨o1, o2, -⟩ := its_ok (g := g) (p := (S, x)) hG hC hN h0 hl i (by omega)
    rw [it_succ, Nat.zero_add]
    generalize it (cst g G N) 0 i (S, x) = p at q2 q3 o1 o2 ⊢
    have D := DD v p.1 q1 o1
    have e2 : v.1 2 (nc_ld a) 2 = nI C := D.2.1.2.1
    have hm := hG (g (g p.2)) h0
    show ∃ b, nc_Run m_X4_tellAndFind 15 _ _ v = _ ∧ _
    rw [qr_X4_tellAndFind_15, e2, if_neg (nI_ge hi (by omega)), show (3 : Int32) = nI 3 from rfl, hdr _ (by omega) (by omega), nc_bI_v, q3]
    unfold cst
    by_cases z : G (g p.2) 3 = 0
    · obtain ⟨k, k1, k2⟩ := o2.2.2.2 i hi
      have D2 : DR (row (row v 4 0 (upd (v.1 4 0) 0 (g p.2))) 4 0 (upd (upd (v.1 4 0) 0 (g p.2)) 0 (g (g p.2)))) (nc_ld a) p.1 f C N h := DR_eq D (fun t ht => by rw [row_t (by omega), row_t (by omega)]) (fun _ _ => rfl)
      have L2 : LK (row (row v 4 0 (upd (v.1 4 0) 0 (g p.2))) 4 0 (upd (upd (v.1 4 0) 0 (g p.2)) 0 (g (g p.2)))) a p.1 C N := LK_eq q2 (fun t ht => by rw [row_t (by omega), row_t (by omega)])
      have E2 : eqO (tQ a) w (row (row v 4 0 (upd (v.1 4 0) 0 (g p.2))) 4 0 (upd (upd (v.1 4 0) 0 (g p.2)) 0 (g (g p.2)))) := (q1.row (Or.inr ⟨rfl, rfl⟩)).row (Or.inr ⟨rfl, rfl⟩)
      rw [if_neg (fun y => y (by rw [z]; rfl)), if_pos z, hdr _ h0 (by omega), nc_bI_v, row_s, upd_s]
      rw [sl_whyNotTold _ D2 L2.1 (by omega) (show k < 1024 by omega) k2, nc_bI_v, wyt_eq (by omega) k2]
      by_cases r : wyt p.1 i (G (g (g p.2)) N) = 0
      · obtain ⟨w2, z1, z2, z3⟩ := sl_hearK D2 L2 (dOK_of o2) (dok_c hk (fun k hk => o1 k (by omega))).2.2.1 hi hm
        have z1' : nc_Call m_X7_hear [lO a, .inl (nI i), .inl (nI (G (g (g p.2)) N))] _ = _ := z1
        rw [if_neg (fun y => y r), z1', nc_bV_v, nc_li_v, nI_1, if_pos r]
        refine ⟨w2, rfl, E2.tr (z2.mono (fun t a q => Or.inl q)), z3, ?_⟩
        rw [z2.2 4 0 (by unfold lQ; omega), row_s, upd_s]
      · rw [if_pos r, nc_li_v, nI_1, if_neg r]
        refine ⟨_, rfl, E2, L2, ?_⟩
        rw [row_s, upd_s]
    · rw [if_pos (fun y => z ((nI_eq (by have := hG (g p.2) (m := 12) (by omega); have := hG (g p.2) (m := 3) (by omega); omega) (by omega)).mp (y.trans (show (0 : Int32) = nI 0 from rfl)))), if_neg z, nc_li_v, nI_1]
      refine ⟨_, rfl, q1.row (Or.inr ⟨rfl, rfl⟩), LL v _ _ q2, ?_⟩
      rw [row_s, upd_s]
  · rintro v ⟨q1, q2, q3⟩
    obtain ⟨o1, o2, -⟩ := its_ok (g := g) (p := (S, x)) hG hC hN h0 hl C (Nat.le_refl _)
    unfold tfS
    generalize it (cst g G N) 0 C (S, x) = p at q2 q3 o1 o2 ⊢
    have D := DD v p.1 q1 o1
    have e2 : v.1 2 (nc_ld a) 2 = nI C := D.2.1.2.1
    have hm := hG (g (g p.2)) h0
    show ∃ w', nc_Run m_X4_tellAndFind 15 _ _ v = _ ∧ _
    rw [qr_X4_tellAndFind_15, e2, if_pos (nI_le (Nat.le_refl _) (by omega)), show (12 : Int32) = nI 12 from rfl, hdr _ (by omega) (by omega), nc_bI_v, q3]
    unfold fns
    by_cases z : G (g p.2) 12 = 0
    · have D2 : DR (row (row v 4 0 (upd (v.1 4 0) 0 (g p.2))) 4 0 (upd (upd (v.1 4 0) 0 (g p.2)) 0 (g (g p.2)))) (nc_ld a) p.1 f C N h := DR_eq D (fun t ht => by rw [row_t (by omega), row_t (by omega)]) (fun _ _ => rfl)
      have L2 : LK (row (row v 4 0 (upd (v.1 4 0) 0 (g p.2))) 4 0 (upd (upd (v.1 4 0) 0 (g p.2)) 0 (g (g p.2)))) a p.1 C N := LK_eq q2 (fun t ht => by rw [row_t (by omega), row_t (by omega)])
      have E2 : eqO (tQ a) w (row (row v 4 0 (upd (v.1 4 0) 0 (g p.2))) 4 0 (upd (upd (v.1 4 0) 0 (g p.2)) 0 (g (g p.2)))) := (q1.row (Or.inr ⟨rfl, rfl⟩)).row (Or.inr ⟨rfl, rfl⟩)
      rw [if_neg (fun y => y (by rw [z]; rfl)), if_pos z, hdr _ h0 (by omega), nc_bI_v, row_s, upd_s]
      rw [sl_whyNotFound _ _ D2 L2.1, nc_bI_v]
      by_cases r : wyF p.1 (nI (G (g (g p.2)) N)) = 0
      · obtain ⟨w2, z1, z2, z3⟩ := sl_findOut D2 L2 hm
        have z1' : nc_Call m_X7_findOut [lO a, .inl (nI (G (g (g p.2)) N))] _ = _ := z1
        rw [if_neg (fun y => y r), z1', nc_bV_v, if_pos r]
        refine ⟨w2, rfl, E2.tr (z2.mono (fun t a q => Or.inl q)), z3, ?_⟩
        rw [z2.2 4 0 (by unfold lQ; omega), row_s, upd_s]
      · rw [if_pos r, if_neg r]
        refine ⟨_, rfl, E2, L2, ?_⟩
        rw [row_s, upd_s]
    · rw [if_pos (fun y => z ((nI_eq (by have := hG (g p.2) (m := 12) (by omega); have := hG (g p.2) (m := 3) (by omega); omega) (by omega)).mp (y.trans (show (0 : Int32) = nI 0 from rfl)))), if_neg z]
      refine ⟨_, rfl, q1.row (Or.inr ⟨rfl, rfl⟩), LL v _ _ q2, ?_⟩
      rw [row_s, upd_s]
/-- k days by draws -/
def drN (g : Int32 → Int32) (G : Int32 → Nat → Nat) (S : Nat → Int32) (x : Int32) (d f C N h : Nat) : Nat → (Nat → Int32) × Int32
  | 0 => (S, x)
  | k + 1 => (dayS (tfS g G C N (drN g G S x d f C N h k)).1 (d + k) f C N h, (tfS g G C N (drN g G S x d f C N h k)).2)
theorem drN_ok (hG : ∀ (y : Int32) {m : Nat}, 0 < m → G y m < m) (hk : dok S f C N h) (hl : lok S C N d) (h0 : 0 < N) : ∀ k, d + k ≤ 400 → (∀ j, j < 76 ∨ 332 ≤ j → (drN g G S x d f C N h k).1 j = S j) ∧ lok (drN g G S x d f C N h k).1 C N (d + k)
  | 0, _ => ⟨fun _ _ => rfl, hl⟩
  | k + 1, hh => by
    have hf : f ≤ 4 := hk.1.2.2.2.2.1
    have hC : C ≤ 8 := hk.1.2.2.2.2.2.1
    have hN : N ≤ 10 := hk.1.2.2.2.2.2.2.1
    obtain ⟨i1, i2⟩ := drN_ok hG hk hl h0 k (by omega)
    have t := tfS_ok (g := g) (p := drN g G S x d f C N h k) hG hC hN h0 i2
    refine ⟨fun j hj => ?_, lok_day t.2.1 hf hC hN (by omega)⟩
    show dayS (tfS g G C N (drN g G S x d f C N h k)).1 (d + k) f C N h j = _
    rw [dayS_o hf hC (by omega), t.1 j (by omega), i1 j hj]
theorem drN_dok (hG : ∀ (y : Int32) {m : Nat}, 0 < m → G y m < m) (hk : dok S f C N h) (hl : lok S C N d) (h0 : 0 < N) {k : Nat} (hh : d + k ≤ 400) : dok (drN g G S x d f C N h k).1 f C N h := dok_c hk (fun j hj => (drN_ok hG hk hl h0 k hh).1 j (Or.inl hj))
theorem tf_dok {p : (Nat → Int32) × Int32} (hG : ∀ (y : Int32) {m : Nat}, 0 < m → G y m < m) (hk : dok p.1 f C N h) (hl : lok p.1 C N d) (h0 : 0 < N) : dok (tfS g G C N p).1 f C N h := dok_c hk (fun j hj => (tfS_ok hG hk.1.2.2.2.2.2.1 hk.1.2.2.2.2.2.2.1 h0 hl).1 j (by omega))
end DW
