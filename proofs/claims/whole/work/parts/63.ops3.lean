/-! pails, now, news. -/
section OP
variable {w : nc_H} {f C N h d : Nat} {S : Nat → Int32}
theorem mx_le {a b c : Int32} : mx a b ≤ c ↔ a ≤ c ∧ b ≤ c := by
  unfold mx
  by_cases q : a ≤ b
  · rw [if_pos q]
    exact ⟨fun z => ⟨Int32.le_trans q z, z⟩, fun z => z.2⟩
  · rw [if_neg q]
    exact ⟨fun z => ⟨z, Int32.le_trans (Int32.le_of_lt (Int32.not_le.mp q)) z⟩, fun z => z.1⟩
/-- what stands in pails of a day that is past -/
theorem sl_pailsOn_t {a g t : Nat} (hL : LR w a S f C N) (hf : f ≤ 4) (hl : lok S C N d) (hg : g < f) (ht : t < d) (hp : nI d - 30 ≤ nI t) : nc_Call m_X7_pailsOn [lO a, .inl (nI g), .inl (nI t)] w = some (some (.inl (S (212 + 30 * g + t % 30))), w) := by
  have e1 : w.1 7 a 1 = nI d := hL.1.1.1.1.trans hl.1
  have hd4 := hl.2.1
  have ix : (nI t - nI t / 30 * 30) * 4 + nI g = nI (4 * (t % 30) + g) := by
    rw [show (30 : Int32) = nI 30 from rfl, pk_rem (by omega) (by omega) (by omega), show (4 : Int32) = nI 4 from rfl, pk_mul, nI_add, Nat.mul_comm]
  have hm := Nat.mod_lt t (show 30 > 0 by decide)
  rw [qc_X7_pailsOn, if_neg (nI_pos (by omega)), e1, if_neg (nI_ge ht (by omega)), if_pos hp, nc_bd_of _ ix (by omega) (by decide), hL.2.2.2 d hd4 hl.1 g (t % 30) hg hm (by have := Nat.mod_le t 30; omega)]
theorem sl_pailsOn_f {a : Nat} {g x : Int32} (hL : LR w a S f C N) (hl : lok S C N d) (hx : ¬ ∃ t, t < d ∧ x = nI t ∧ nI d - 30 ≤ nI t) : nc_Call m_X7_pailsOn [lO a, .inl g, .inl x] w = some (some (.inl (-1)), w) := by
  have e1 : w.1 7 a 1 = nI d := hL.1.1.1.1.trans hl.1
  have hd4 := hl.2.1
  rw [qc_X7_pailsOn, e1]
  by_cases b : rng x d
  · obtain ⟨t, t1, rfl⟩ := b
    rw [if_neg (nI_pos (by omega)), if_neg (nI_ge t1 (by omega)), if_neg (fun q => hx ⟨t, t1, rfl, q⟩)]
  · by_cases b1 : x < 0
    · rw [if_pos b1]
    · rw [if_neg b1]
      by_cases b2 : nI d ≤ x
      · rw [if_pos b2]
      · exact absurd ((rng_C (by omega)).mp ⟨b1, b2⟩) b
theorem sm_isPast {x : Int32} (hl : lok (w.1 874 0) C N d) : (∃ t, t < d ∧ x = nI t ∧ nI d - 30 ≤ nI t) ∧ nc_Call m_X12_isPast [mO, .inl x] w = some (some (.inl 1), w) ∨ (¬ ∃ t, t < d ∧ x = nI t ∧ nI d - 30 ≤ nI t) ∧ nc_Call m_X12_isPast [mO, .inl x] w = some (some (.inl 0), w) := by
  have hd4 := hl.2.1
  rw [qc_X12_isPast, sm_greater, nc_bI_v, sm_isIn, nc_bI_v, nc_z_tI, hl.1]
  by_cases b : ∃ t, t < d ∧ x = nI t ∧ nI d - 30 ≤ nI t
  · left
    obtain ⟨t, t1, rfl, t2⟩ := b
    refine ⟨⟨t, t1, rfl, t2⟩, ?_⟩
    rw [tI_t ⟨mx_le.mpr ⟨nI_pos' (by omega), t2⟩, ((rng_M (n := d) (by omega)).mpr ⟨t, t1, rfl⟩).2⟩]
  · right
    refine ⟨b, ?_⟩
    rw [tI_f (fun q => b ?_)]
    have q1 := mx_le.mp q.1
    obtain ⟨t, t1, rfl⟩ := (rng_M (n := d) (by omega)).mp ⟨q1.1, q.2⟩
    exact ⟨t, t1, rfl, q1.2⟩
theorem op_pails (hI : Inv w) (x y : Int32) : Op w (nc_Call m_X11_pails [cO, .inl x, .inl y]) (nc_Call m_X12_pails [mO, .inl x, .inl y]) := by
  refine rd hI ?_
  obtain ⟨⟨f, C, N, h, d, ⟨⟨x1, x2, x3, x4, x5, x6⟩, x7⟩⟩, -⟩ := hI
  have hf : f ≤ 4 := x3.1.2.2.2.2.1
  have hd4 := x2.2.1
  have e1 : w.1 2 0 1 = nI f := x3.2.1.1
  have m1 : (thr w 0).1 874 0 0 = nI f := by rw [thr_874]; exact x3.1.1
  rw [qc_X11_pails, qc_X12_pails, nc_lt_v, thr_si]
  by_cases b : rng x f
  · rw [sc_isFarm_t e1 (by omega) b, mm_isFarm_t m1 (by omega) b]
    rcases sm_isPast (w := thr w 0) (C := C) (N := N) (d := d) (x := y) (by rw [thr_874]; exact x2) with ⟨⟨t, t1, rfl, t2⟩, q⟩ | ⟨b2, q⟩
    · obtain ⟨g, g1, rfl⟩ := b
      have ix : (212 + 30 * nI g) + (nI t - nI t / 30 * 30) = nI (212 + 30 * g + t % 30) := by
        rw [show (30 : Int32) = nI 30 from rfl, pk_rem (by omega) (by omega) (by omega), pk_mul, show (212 : Int32) = nI 212 from rfl, nI_add, nI_add]
      have hm := Nat.mod_lt t (show 30 > 0 by decide)
      have hb : ∀ {k : Nat → Option nc_R}, nc_bd ((212 + 30 * nI g) + (nI t - nI t / 30 * 30)) 513 k = k (212 + 30 * g + t % 30) := nc_bd_of _ ix (by omega) (by decide)
      simp +decide (disch := omega) only [↓nc_lt_v, ↓nc_li_v, ↓nc_bI_v, ↓nc_bV_v, ↓nc_bL_v, ↓nc_ll_v, ↓bd8, ↓reduceIte, ↓nc_z_tI, ↓nc_z_0, ↓nc_z_1, nI_leI, nI_ltI, nI_1, tI_ne, tI_eq0, ne_eq, not_true_eq_false, not_false_eq_true, Decidable.not_not, ↓q, ↓hb, ↓sl_pailsOn_t x5 hf x2 g1 t1 t2, thr_874]
      exact ⟨_, rfl, rfl⟩
    · simp +decide (disch := omega) only [↓nc_lt_v, ↓nc_li_v, ↓nc_bI_v, ↓nc_bV_v, ↓nc_bL_v, ↓nc_ll_v, ↓bd8, ↓reduceIte, ↓nc_z_tI, ↓nc_z_0, ↓nc_z_1, nI_leI, nI_ltI, nI_1, tI_ne, tI_eq0, ne_eq, not_true_eq_false, not_false_eq_true, Decidable.not_not, ↓q, ↓sl_pailsOn_f (g := x) x5 x2 b2]
      exact ⟨_, rfl, rfl⟩
  · rw [sc_isFarm_f e1 (by omega) b, mm_isFarm_f m1 (by omega) b]
    simp +decide (disch := omega) only [↓nc_lt_v, ↓nc_li_v, ↓nc_bI_v, ↓nc_bV_v, ↓nc_bL_v, ↓nc_ll_v, ↓bd8, ↓reduceIte, ↓nc_z_tI, ↓nc_z_0, ↓nc_z_1, nI_leI, nI_ltI, nI_1, tI_ne, tI_eq0, ne_eq, not_true_eq_false, not_false_eq_true, Decidable.not_not]
    exact ⟨_, rfl, rfl⟩
theorem sl_allPails {a : Nat} (hG : LG w a S f) : nc_Call m_X7_allPails [lO a] w = some (some (.inl (S 95 + S 96 + S 97 + S 98)), w) := by
  have g := hG.2.1
  rw [qc_X7_allPails]
  rw [show (0 : Int32) = nI 0 from rfl]
  rw [qr_X7_allPails_4, if_neg (by decide), bd8 0 4 (by decide) (by decide), nc_li_v, nc_li_v, nI_1]
  rw [qr_X7_allPails_4, if_neg (by decide), bd8 1 4 (by decide) (by decide), nc_li_v, nc_li_v, nI_1]
  rw [qr_X7_allPails_4, if_neg (by decide), bd8 2 4 (by decide) (by decide), nc_li_v, nc_li_v, nI_1]
  rw [qr_X7_allPails_4, if_neg (by decide), bd8 3 4 (by decide) (by decide), nc_li_v, nc_li_v, nI_1]
  rw [qr_X7_allPails_4, if_pos (by decide), g 0 (by decide), g 1 (by decide), g 2 (by decide), g 3 (by decide)]
  rw [show nI 0 + S (95 + 0) = S 95 from Int32.zero_add _]
theorem op_now (hI : Inv w) (x : Int32) : Op w (nc_Call m_X11_now [cO, .inl x]) (nc_Call m_X12_now [mO, .inl x]) := by
  refine rd hI ?_
  obtain ⟨⟨f, C, N, h, d, ⟨⟨x1, x2, x3, x4, x5, x6⟩, x7⟩⟩, -⟩ := hI
  have hh : h ≤ 6 := x3.1.2.2.2.2.2.2.2
  have tb := sl_talking (a := 0) x3 x5.1.1 (fun k hk => by
    obtain ⟨x, y, e, y1, y2, y3, y4, y5, y6, y7, y8⟩ := x1.2.2.2.2.1 k hk
    exact ⟨e, y4, y5, y8⟩)
  have key := it_loop (R := fun i (z : Int32) => nc_Run m_X12_now 9 [some mO, some (.inl x), some (.inl z), some (.inl (nI i))] [] (thr w 0)) (st := fun i (z : Int32) => z ||| (if tk (w.1 874 0) i then bs i else 0)) (I := fun _ _ => True) (n := h) (out := fun z => nc_Run m_X12_now 9 [some mO, some (.inl x), some (.inl z), some (.inl (nI h))] [] (thr w 0)) ?_ (fun _ _ => rfl) h 0 0 (by omega) trivial
  · rw [qc_X11_now, qc_X12_now, nc_lt_v, thr_si]
    have key2 : nc_Run m_X12_now 9 [some mO, some (.inl x), some (.inl 0), some (.inl 0)] [] (thr w 0) = nc_Run m_X12_now 9 [some mO, some (.inl x), some (.inl (tkb (w.1 874 0) h)), some (.inl (nI h))] [] (thr w 0) := key
    rw [key2, qr_X12_now_9]
    have e3 : (thr w 0).1 874 0 3 = nI h := by rw [thr_874]; exact x3.1.2.2.2.1
    have ap := sm_allPails (thr w 0)
    rw [thr_874] at ap
    have al := sl_allPails (a := 0) x5.2
    by_cases b : rng x 4
    · rcases rng_4 b with rfl | rfl | rfl | rfl
      · simp +decide (disch := omega) only [↓nc_lt_v, ↓nc_li_v, ↓nc_bI_v, ↓nc_bV_v, ↓nc_bL_v, ↓nc_ll_v, ↓bd8, ↓reduceIte, ↓nc_z_tI, ↓nc_z_0, ↓nc_z_1, nI_leI, nI_ltI, nI_1, tI_ne, tI_eq0, ne_eq, not_true_eq_false, not_false_eq_true, Decidable.not_not, e3, thr_874, Nat.le_refl, x5.1.1.1.1]
        exact ⟨_, rfl, rfl⟩
      · simp +decide (disch := omega) only [↓nc_lt_v, ↓nc_li_v, ↓nc_bI_v, ↓nc_bV_v, ↓nc_bL_v, ↓nc_ll_v, ↓bd8, ↓reduceIte, ↓nc_z_tI, ↓nc_z_0, ↓nc_z_1, nI_leI, nI_ltI, nI_1, tI_ne, tI_eq0, ne_eq, not_true_eq_false, not_false_eq_true, Decidable.not_not, e3, thr_874, Nat.le_refl, x5.1.1.1.2.1]
        exact ⟨_, rfl, rfl⟩
      · simp +decide (disch := omega) only [↓nc_lt_v, ↓nc_li_v, ↓nc_bI_v, ↓nc_bV_v, ↓nc_bL_v, ↓nc_ll_v, ↓bd8, ↓reduceIte, ↓nc_z_tI, ↓nc_z_0, ↓nc_z_1, nI_leI, nI_ltI, nI_1, tI_ne, tI_eq0, ne_eq, not_true_eq_false, not_false_eq_true, Decidable.not_not, e3, thr_874, Nat.le_refl, x5.1.1.1.2.2]
        exact ⟨_, rfl, rfl⟩
      · simp +decide (disch := omega) only [↓nc_lt_v, ↓nc_li_v, ↓nc_bI_v, ↓nc_bV_v, ↓nc_bL_v, ↓nc_ll_v, ↓bd8, ↓reduceIte, ↓nc_z_tI, ↓nc_z_0, ↓nc_z_1, nI_leI, nI_ltI, nI_1, tI_ne, tI_eq0, ne_eq, not_true_eq_false, not_false_eq_true, Decidable.not_not, e3, Nat.le_refl, ↓ap, ↓al]
        exact ⟨_, rfl, rfl⟩
    · have n0 : ¬ x = 0 := nrng b 0 (by omega)
      have n1 : ¬ x = 1 := nrng b 1 (by omega)
      have n2 : ¬ x = 2 := nrng b 2 (by omega)
      have n3 : ¬ x = 3 := nrng b 3 (by omega)
      by_cases b4 : x = 4
      · subst b4
        simp +decide (disch := omega) only [↓nc_lt_v, ↓nc_li_v, ↓nc_bI_v, ↓nc_bV_v, ↓nc_bL_v, ↓nc_ll_v, ↓bd8, ↓reduceIte, ↓nc_z_tI, ↓nc_z_0, ↓nc_z_1, nI_leI, nI_ltI, nI_1, tI_ne, tI_eq0, ne_eq, not_true_eq_false, not_false_eq_true, Decidable.not_not, e3, thr_874, Nat.le_refl, x5.1.2.1]
        exact ⟨_, rfl, rfl⟩
      · by_cases b5 : x = 5
        · subst b5
          simp +decide (disch := omega) only [↓nc_lt_v, ↓nc_li_v, ↓nc_bI_v, ↓nc_bV_v, ↓nc_bL_v, ↓nc_ll_v, ↓bd8, ↓reduceIte, ↓nc_z_tI, ↓nc_z_0, ↓nc_z_1, nI_leI, nI_ltI, nI_1, tI_ne, tI_eq0, ne_eq, not_true_eq_false, not_false_eq_true, Decidable.not_not, e3, Nat.le_refl, ↓tb]
          exact ⟨_, rfl, rfl⟩
        · simp +decide (disch := omega) only [↓nc_lt_v, ↓nc_li_v, ↓nc_bI_v, ↓nc_bV_v, ↓nc_bL_v, ↓nc_ll_v, ↓bd8, ↓reduceIte, ↓nc_z_tI, ↓nc_z_0, ↓nc_z_1, nI_leI, nI_ltI, nI_1, tI_ne, tI_eq0, ne_eq, not_true_eq_false, not_false_eq_true, Decidable.not_not, e3, Nat.le_refl, n0, n1, n2, n3, b4, b5]
          exact ⟨_, rfl, rfl⟩
  · intro i z hi _
    refine ⟨?_, trivial⟩
    have hgi : ¬ h ≤ i := by omega
    have e3 : (thr w 0).1 874 0 3 = nI h := by rw [thr_874]; exact x3.1.2.2.2.1
    have t1 := sm_talks (k := i) (thr w 0) (by omega) (by rw [thr_874]; exact hev_of x1.2.2.2.2.1 i hi)
    rw [thr_874] at t1
    show nc_Run m_X12_now 9 _ _ _ = nc_Run m_X12_now 9 _ _ _
    rw [qr_X12_now_9]
    by_cases b : tk (w.1 874 0) i
    · simp (disch := omega) only [↓nc_lt_v, ↓nc_li_v, ↓nc_bI_v, ↓nc_bV_v, ↓nc_bL_v, ↓nc_ll_v, ↓bd8, ↓reduceIte, ↓nc_z_tI, ↓nc_z_0, ↓nc_z_1, nI_leI, nI_ltI, nI_1, tI_ne, tI_eq0, ne_eq, not_true_eq_false, not_false_eq_true, Decidable.not_not, e3, hgi, ↓t1, eq_true b]
      rfl
    · simp (disch := omega) only [↓nc_lt_v, ↓nc_li_v, ↓nc_bI_v, ↓nc_bV_v, ↓nc_bL_v, ↓nc_ll_v, ↓bd8, ↓reduceIte, ↓nc_z_tI, ↓nc_z_0, ↓nc_z_1, nI_leI, nI_ltI, nI_1, tI_ne, tI_eq0, ne_eq, not_true_eq_false, not_false_eq_true, Decidable.not_not, e3, hgi, ↓t1, eq_false b]
/-- the cows that heard news n today, and that know it -/
def hbs (S : Nat → Int32) (C n : Nat) : Int32 := it (fun c (x : Int32) => x ||| (if bq (S (100 + c)) (nI n) then bs c else 0)) 0 C 0
def kbs (S : Nat → Int32) (C n : Nat) : Int32 := it (fun c (x : Int32) => x ||| (if kn S c n then bs c else 0)) 0 C 0
theorem it_pair {α β : Type} {s1 : Nat → α → α} {s2 : Nat → β → β} : ∀ (k i : Nat) (a : α) (b : β), it (fun i (p : α × β) => (s1 i p.1, s2 i p.2)) i k (a, b) = (it s1 i k a, it s2 i k b)
  | 0, _, _, _ => rfl
  | k + 1, i, a, b => it_pair k (i + 1) (s1 i a) (s2 i b)
theorem shl_0 : ∀ c, c < 8 → (0 : Int32) <<< (nI c &&& 31) = 0 := by decide +kernel
theorem bit_shl {x n : Int32} {c : Nat} (hc : c < 8) : ((x >>> (n &&& 31)) &&& 1) <<< (nI c &&& 31) = if bq x n then bs c else 0 := by
  by_cases b : bq x n
  · rw [if_pos b, show (x >>> (n &&& 31)) &&& 1 = 1 from b]
    rfl
  · rw [if_neg b, (bq_0 x n).mp b, shl_0 c hc]
theorem sc_cowsWith {t a : Nat} {n : Int32} (hC : C ≤ 8) (e2 : w.1 2 0 2 = nI C) (hk : nc_ak t = 0) (hl : nc_al t = 8) : nc_Call m_X11_cowsWith [cO, .inr (.inr (t, a)), .inl n] w = some (some (.inl (it (fun c (x : Int32) => x ||| (if bq (w.1 t a c) n then bs c else 0)) 0 C 0)), w) := by
  rw [qc_X11_cowsWith]
  have key := it_loop (R := fun i (z : Int32) => nc_Run m_X11_cowsWith 5 [some cO, some (.inr (.inr (t, a))), some (.inl n), some (.inl z), some (.inl (nI i))] [] w) (st := fun c (x : Int32) => x ||| (if bq (w.1 t a c) n then bs c else 0)) (I := fun _ _ => True) (n := C) (out := fun z => some (some (.inl z), w)) ?_ ?_ C 0 0 (by omega) trivial
  · exact key
  · intro i z hi _
    refine ⟨?_, trivial⟩
    show nc_Run m_X11_cowsWith 5 _ _ _ = nc_Run m_X11_cowsWith 5 _ _ _
    rw [qr_X11_cowsWith_5, e2, if_neg (nI_ge hi (by omega)), hk, hl, show Nat.beq 0 0 = true from rfl, cond_true, bd8 i 8 (by omega) (by decide), nc_li_v, nc_li_v, nI_1, bit_shl (by omega)]
  · intro z _
    show nc_Run m_X11_cowsWith 5 _ _ _ = _
    rw [qr_X11_cowsWith_5, e2, if_pos (nI_le (Nat.le_refl _) (by omega))]
theorem bq_found {x n : Int32} : (x >>> (n &&& 31)) &&& 1 = tI (bq x n) := by
  by_cases b : bq x n
  · rw [tI_t b]
    exact b
  · rw [tI_f b]
    exact (bq_0 x n).mp b
theorem op_news (hI : Inv w) (x y : Int32) : Op w (nc_Call m_X11_news [cO, .inl x, .inl y]) (nc_Call m_X12_news [mO, .inl x, .inl y]) := by
  refine rd hI ?_
  obtain ⟨⟨f, C, N, h, d, ⟨⟨x1, x2, x3, x4, x5, x6⟩, x7⟩⟩, -⟩ := hI
  have hC : C ≤ 8 := x3.1.2.2.2.2.2.1
  have hN : N ≤ 10 := x3.1.2.2.2.2.2.2.1
  have e3 : w.1 2 0 3 = nI N := x3.2.1.2.2.1
  have e2 : w.1 2 0 2 = nI C := x3.2.1.2.1
  have m3 : (thr w 0).1 874 0 2 = nI N := by rw [thr_874]; exact x3.1.2.2.1
  have m2 : (thr w 0).1 874 0 1 = nI C := by rw [thr_874]; exact x3.1.2.1
  rw [qc_X11_news, qc_X12_news, nc_lt_v, thr_si]
  by_cases b : rng x N
  · rw [sc_isNews_t e3 (by omega) b, mm_isNews_t m3 (by omega) b]
    obtain ⟨n, n1, rfl⟩ := b
    have key := it_loop (R := fun i (p : Int32 × Int32) => nc_Run m_X12_news 23 [some mO, some (.inl (nI n)), some (.inl y), some (.inl p.1), some (.inl p.2), some (.inl (nI i))] [] (thr w 0)) (st := fun i (p : Int32 × Int32) => (p.1 ||| (if bq (w.1 874 0 (100 + i)) (nI n) then bs i else 0), p.2 ||| (if kn (w.1 874 0) i n then bs i else 0))) (I := fun _ _ => True) (n := C) (out := fun p => nc_Run m_X12_news 23 [some mO, some (.inl (nI n)), some (.inl y), some (.inl p.1), some (.inl p.2), some (.inl (nI C))] [] (thr w 0)) ?_ (fun _ _ => rfl) C 0 (0, 0) (by omega) trivial
    · have key2 : nc_Run m_X12_news 23 [some mO, some (.inl (nI n)), some (.inl y), some (.inl 0), some (.inl 0), some (.inl 0)] [] (thr w 0) = nc_Run m_X12_news 23 [some mO, some (.inl (nI n)), some (.inl y), some (.inl (hbs (w.1 874 0) C n)), some (.inl (kbs (w.1 874 0) C n)), some (.inl (nI C))] [] (thr w 0) := by
        refine Eq.trans key ?_
        rw [it_pair (s1 := fun i (x : Int32) => x ||| (if bq (w.1 874 0 (100 + i)) (nI n) then bs i else 0)) (s2 := fun i (x : Int32) => x ||| (if kn (w.1 874 0) i n then bs i else 0))]
        rfl
      have q1 := sc_cowsWith (w := w) (t := 555) (a := 0) (n := nI n) hC e2 rfl rfl
      rw [it_cong (s2 := fun c (x : Int32) => x ||| (if bq (w.1 874 0 (100 + c)) (nI n) then bs c else 0)) (n := C) (fun i z hi => by rw [(x5.1.1.2 i (by omega)).1]) C 0 0 (by omega)] at q1
      have q2 := sc_cowsWith (w := w) (t := 554) (a := 0) (n := nI n) hC e2 rfl rfl
      rw [it_cong (s2 := fun c (x : Int32) => x ||| (if kn (w.1 874 0) c n then bs c else 0)) (n := C) (fun i z hi => by
        rw [x5.1.2.2.2.1 i hi]
        have : bq (kns (w.1 874 0) N i) (nI n) ↔ kn (w.1 874 0) i n := by
          rw [bq_kns hN (by omega)]
          exact ⟨fun q => q.2, fun q => ⟨n1, q⟩⟩
        simp only [this]) C 0 0 (by omega)] at q2
      rw [show hbs (w.1 874 0) C n = it (fun c (x : Int32) => x ||| (if bq (w.1 874 0 (100 + c)) (nI n) then bs c else 0)) 0 C 0 from rfl, show kbs (w.1 874 0) C n = it (fun c (x : Int32) => x ||| (if kn (w.1 874 0) c n then bs c else 0)) 0 C 0 from rfl] at key2
      have k2 := (x3.2.2.2.1 n n1).1
      have k3 := (x3.2.2.2.1 n n1).2
      have k6 := x3.2.1.2.2.2.2.2
      have k4 := x5.1.1.1.2.2
      rw [nc_bI_v, nc_bI_v, key2, qr_X12_news_23]
      by_cases b : rng y 4
      · rcases rng_4 b with rfl | rfl | rfl | rfl
        · simp +decide (disch := omega) only [↓nc_lt_v, ↓nc_li_v, ↓nc_bI_v, ↓nc_bV_v, ↓nc_bL_v, ↓nc_ll_v, ↓bd8, ↓reduceIte, ↓nc_z_tI, ↓nc_z_0, ↓nc_z_1, nI_leI, nI_ltI, nI_1, tI_ne, tI_eq0, ne_eq, not_true_eq_false, not_false_eq_true, Decidable.not_not, ↓pl_5, ↓pl_13, ↓pl_21, ↓pl_29, ↓pl_37, ↓pl_47, ↓pl_58, ↓pl_64, ↓pl_70, ↓pl_79, ↓pl_87, ↓pl_95, ↓pl_100, ↓pl_108, ↓pl_116, ↓pl_124, m2, Nat.le_refl, k2, thr_874]
          exact ⟨_, rfl, rfl⟩
        · simp +decide (disch := omega) only [↓nc_lt_v, ↓nc_li_v, ↓nc_bI_v, ↓nc_bV_v, ↓nc_bL_v, ↓nc_ll_v, ↓bd8, ↓reduceIte, ↓nc_z_tI, ↓nc_z_0, ↓nc_z_1, nI_leI, nI_ltI, nI_1, tI_ne, tI_eq0, ne_eq, not_true_eq_false, not_false_eq_true, Decidable.not_not, ↓pl_5, ↓pl_13, ↓pl_21, ↓pl_29, ↓pl_37, ↓pl_47, ↓pl_58, ↓pl_64, ↓pl_70, ↓pl_79, ↓pl_87, ↓pl_95, ↓pl_100, ↓pl_108, ↓pl_116, ↓pl_124, m2, Nat.le_refl, k3, thr_874]
          exact ⟨_, rfl, rfl⟩
        · by_cases b2 : bq (w.1 874 0 57) (nI n)
          · simp +decide (disch := omega) only [↓nc_lt_v, ↓nc_li_v, ↓nc_bI_v, ↓nc_bV_v, ↓nc_bL_v, ↓nc_ll_v, ↓bd8, ↓reduceIte, ↓nc_z_tI, ↓nc_z_0, ↓nc_z_1, nI_leI, nI_ltI, nI_1, tI_ne, tI_eq0, ne_eq, not_true_eq_false, not_false_eq_true, Decidable.not_not, ↓sd_isLie, ↓sm_isLie, m2, Nat.le_refl, k6, thr_874, eq_true b2]
            exact ⟨_, rfl, rfl⟩
          · simp +decide (disch := omega) only [↓nc_lt_v, ↓nc_li_v, ↓nc_bI_v, ↓nc_bV_v, ↓nc_bL_v, ↓nc_ll_v, ↓bd8, ↓reduceIte, ↓nc_z_tI, ↓nc_z_0, ↓nc_z_1, nI_leI, nI_ltI, nI_1, tI_ne, tI_eq0, ne_eq, not_true_eq_false, not_false_eq_true, Decidable.not_not, ↓sd_isLie, ↓sm_isLie, m2, Nat.le_refl, k6, thr_874, eq_false b2]
            exact ⟨_, rfl, rfl⟩
        · by_cases b2 : bq (w.1 874 0 78) (nI n)
          · simp +decide (disch := omega) only [↓nc_lt_v, ↓nc_li_v, ↓nc_bI_v, ↓nc_bV_v, ↓nc_bL_v, ↓nc_ll_v, ↓bd8, ↓reduceIte, ↓nc_z_tI, ↓nc_z_0, ↓nc_z_1, nI_leI, nI_ltI, nI_1, tI_ne, tI_eq0, ne_eq, not_true_eq_false, not_false_eq_true, Decidable.not_not, ↓sm_bitOf, m2, Nat.le_refl, k4, thr_874, eq_true b2, bq_found, tI_t b2]
            exact ⟨_, rfl, rfl⟩
          · simp +decide (disch := omega) only [↓nc_lt_v, ↓nc_li_v, ↓nc_bI_v, ↓nc_bV_v, ↓nc_bL_v, ↓nc_ll_v, ↓bd8, ↓reduceIte, ↓nc_z_tI, ↓nc_z_0, ↓nc_z_1, nI_leI, nI_ltI, nI_1, tI_ne, tI_eq0, ne_eq, not_true_eq_false, not_false_eq_true, Decidable.not_not, ↓sm_bitOf, m2, Nat.le_refl, k4, thr_874, eq_false b2, bq_found, tI_f b2]
            exact ⟨_, rfl, rfl⟩
      · have n0 : ¬ y = 0 := nrng b 0 (by omega)
        have n1 : ¬ y = 1 := nrng b 1 (by omega)
        have n2 : ¬ y = 2 := nrng b 2 (by omega)
        have n3 : ¬ y = 3 := nrng b 3 (by omega)
        by_cases b4 : y = 4
        · subst b4
          simp +decide (disch := omega) only [↓nc_lt_v, ↓nc_li_v, ↓nc_bI_v, ↓nc_bV_v, ↓nc_bL_v, ↓nc_ll_v, ↓bd8, ↓reduceIte, ↓nc_z_tI, ↓nc_z_0, ↓nc_z_1, nI_leI, nI_ltI, nI_1, tI_ne, tI_eq0, ne_eq, not_true_eq_false, not_false_eq_true, Decidable.not_not, m2, Nat.le_refl, ↓q1]
          exact ⟨_, rfl, rfl⟩
        · by_cases b5 : y = 5
          · subst b5
            simp +decide (disch := omega) only [↓nc_lt_v, ↓nc_li_v, ↓nc_bI_v, ↓nc_bV_v, ↓nc_bL_v, ↓nc_ll_v, ↓bd8, ↓reduceIte, ↓nc_z_tI, ↓nc_z_0, ↓nc_z_1, nI_leI, nI_ltI, nI_1, tI_ne, tI_eq0, ne_eq, not_true_eq_false, not_false_eq_true, Decidable.not_not, m2, Nat.le_refl, ↓q2]
            exact ⟨_, rfl, rfl⟩
          · simp +decide (disch := omega) only [↓nc_lt_v, ↓nc_li_v, ↓nc_bI_v, ↓nc_bV_v, ↓nc_bL_v, ↓nc_ll_v, ↓bd8, ↓reduceIte, ↓nc_z_tI, ↓nc_z_0, ↓nc_z_1, nI_leI, nI_ltI, nI_1, tI_ne, tI_eq0, ne_eq, not_true_eq_false, not_false_eq_true, Decidable.not_not, m2, Nat.le_refl, n0, n1, n2, n3, b4, b5]
            exact ⟨_, rfl, rfl⟩
    · intro i p hi _
      refine ⟨?_, trivial⟩
      have hgi : ¬ C ≤ i := by omega
      have t1 := sm_knows (c := i) (n := n) (thr w 0) (by omega) (by omega)
      rw [thr_874] at t1
      show nc_Run m_X12_news 23 _ _ _ = nc_Run m_X12_news 23 _ _ _
      rw [qr_X12_news_23]
      by_cases b : bq (w.1 874 0 (100 + i)) (nI n)
      · by_cases b2 : kn (w.1 874 0) i n
        · simp (disch := omega) only [↓nc_lt_v, ↓nc_li_v, ↓nc_bI_v, ↓nc_bV_v, ↓nc_bL_v, ↓nc_ll_v, ↓bd8, ↓reduceIte, ↓nc_z_tI, ↓nc_z_0, ↓nc_z_1, nI_leI, nI_ltI, nI_1, tI_ne, tI_eq0, ne_eq, not_true_eq_false, not_false_eq_true, Decidable.not_not, ↓pl_5, ↓pl_13, ↓pl_21, ↓pl_29, ↓pl_37, ↓pl_47, ↓pl_58, ↓pl_64, ↓pl_70, ↓pl_79, ↓pl_87, ↓pl_95, ↓pl_100, ↓pl_108, ↓pl_116, ↓pl_124, ↓sm_bitOf, m2, hgi, thr_874, ↓t1, eq_true b, eq_true b2]
          rfl
        · simp (disch := omega) only [↓nc_lt_v, ↓nc_li_v, ↓nc_bI_v, ↓nc_bV_v, ↓nc_bL_v, ↓nc_ll_v, ↓bd8, ↓reduceIte, ↓nc_z_tI, ↓nc_z_0, ↓nc_z_1, nI_leI, nI_ltI, nI_1, tI_ne, tI_eq0, ne_eq, not_true_eq_false, not_false_eq_true, Decidable.not_not, ↓pl_5, ↓pl_13, ↓pl_21, ↓pl_29, ↓pl_37, ↓pl_47, ↓pl_58, ↓pl_64, ↓pl_70, ↓pl_79, ↓pl_87, ↓pl_95, ↓pl_100, ↓pl_108, ↓pl_116, ↓pl_124, ↓sm_bitOf, m2, hgi, thr_874, ↓t1, eq_true b, eq_false b2]
          rfl
      · by_cases b2 : kn (w.1 874 0) i n
        · simp (disch := omega) only [↓nc_lt_v, ↓nc_li_v, ↓nc_bI_v, ↓nc_bV_v, ↓nc_bL_v, ↓nc_ll_v, ↓bd8, ↓reduceIte, ↓nc_z_tI, ↓nc_z_0, ↓nc_z_1, nI_leI, nI_ltI, nI_1, tI_ne, tI_eq0, ne_eq, not_true_eq_false, not_false_eq_true, Decidable.not_not, ↓pl_5, ↓pl_13, ↓pl_21, ↓pl_29, ↓pl_37, ↓pl_47, ↓pl_58, ↓pl_64, ↓pl_70, ↓pl_79, ↓pl_87, ↓pl_95, ↓pl_100, ↓pl_108, ↓pl_116, ↓pl_124, ↓sm_bitOf, m2, hgi, thr_874, ↓t1, eq_false b, eq_true b2]
          rfl
        · simp (disch := omega) only [↓nc_lt_v, ↓nc_li_v, ↓nc_bI_v, ↓nc_bV_v, ↓nc_bL_v, ↓nc_ll_v, ↓bd8, ↓reduceIte, ↓nc_z_tI, ↓nc_z_0, ↓nc_z_1, nI_leI, nI_ltI, nI_1, tI_ne, tI_eq0, ne_eq, not_true_eq_false, not_false_eq_true, Decidable.not_not, ↓pl_5, ↓pl_13, ↓pl_21, ↓pl_29, ↓pl_37, ↓pl_47, ↓pl_58, ↓pl_64, ↓pl_70, ↓pl_79, ↓pl_87, ↓pl_95, ↓pl_100, ↓pl_108, ↓pl_116, ↓pl_124, ↓sm_bitOf, m2, hgi, thr_874, ↓t1, eq_false b, eq_false b2]
  · rw [sc_isNews_f e3 (by omega) b, mm_isNews_f m3 (by omega) b]
    simp +decide (disch := omega) only [↓nc_lt_v, ↓nc_li_v, ↓nc_bI_v, ↓nc_bV_v, ↓nc_bL_v, ↓nc_ll_v, ↓bd8, ↓reduceIte, ↓nc_z_tI, ↓nc_z_0, ↓nc_z_1, nI_leI, nI_ltI, nI_1, tI_ne, tI_eq0, ne_eq, not_true_eq_false, not_false_eq_true, Decidable.not_not]
    exact ⟨_, rfl, rfl⟩
end OP
