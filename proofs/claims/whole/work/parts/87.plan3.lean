/-! PLANS of the model; plan. -/
section PM
variable {w w' v v' : nc_H} {f C N h d c n k p days code : Nat} {S S0 : Nat → Int32} {st : PS} {sum : Int32}
theorem sm_digit (h2 : v.1 874 0 2 = nI N) (hN : N ≤ 10) (hd : days ≤ 3) (hk : k < days) (hc : code < 2 ^ 20) : nc_Call m_X12_digit [mO, .inl (nI code), .inl (nI k), .inl (nI days)] v = some (some (.inl (nI (code / (N + 1) ^ (days - 1 - k) % (N + 1)))), v) := by
  rw [qc_X12_digit]
  have key : ∀ m k code, k + m + 1 = days → code < 2 ^ 20 → nc_Run m_X12_digit 6 [some mO, none, none, some (.inl (nI days)), some (.inl (nI code)), some (.inl (nI k))] [] v = some (some (.inl (nI (code / (N + 1) ^ m % (N + 1)))), v) := by
    intro m
    induction m with
    | zero =>
      intro k code hk hc
      rw [qr_X12_digit_6, h2, nI_1, show nI days - 1 = nI (days - 1) from pk_sub (b := 1) (by omega), if_pos (nI_le (by omega) (by omega)), if_neg (nI_ne0 (by omega) (by omega)), pk_rem (by omega) (by omega) (by omega), Nat.pow_zero, Nat.div_one]
    | succ m ih =>
      intro k code hk hc
      have hq : code / (N + 1) < 2 ^ 20 := Nat.lt_of_le_of_lt (Nat.div_le_self _ _) hc
      rw [qr_X12_digit_6, h2, nI_1, show nI days - 1 = nI (days - 1) from pk_sub (b := 1) (by omega), if_neg (nI_ge (by omega) (by omega)), if_neg (nI_ne0 (by omega) (by omega)), pk_div (by omega) (by omega) (by omega), nc_li_v, nc_li_v, nI_1, ih (k + 1) _ (by omega) hq, Nat.div_div_eq_div_mul, Nat.pow_succ, Nat.mul_comm (N + 1)]
  exact key (days - 1 - k) k code (by omega) hc
def plI (o : Option Int32) : Int32 := match o with
  | none => -1
  | some s => s
theorem dayS_ag (hf : f ≤ 4) (hC : C ≤ 8) (hS : ∀ k, k < 76 ∨ 332 ≤ k → S k = S0 k) : ∀ k, k < 76 ∨ 332 ≤ k → dayS S d f C N h k = S0 k := fun k hk => (dayS_o hf hC (by omega)).trans (hS k hk)
theorem sm_planned (hN : N ≤ 10) (hdy : days ≤ 3) (hc : c < C) (hcode : code < 2 ^ 20) : ∀ (r k : Nat) (S : Nat → Int32) (d : Nat) (sum : Int32) (v : nc_H), k + r = days → v.1 874 0 = S → dok S f C N h → lok S C N d → d + r ≤ 400 → (∀ j, j < 256 → v.1 891 0 j = S0 (76 + j)) → (∀ j, j < 76 ∨ 332 ≤ j → S j = S0 j) → ∃ v', nc_Run m_X12_planned 9 [some mO, some (.inl (nI c)), some (.inl (nI code)), some (.inl (nI days)), some (.inl sum), some (.inl 1), some (.inl (nI k)), none] [] v = some (some (.inl (plI (pl f C N h c r S d (code % (N + 1) ^ r) sum))), row v' 874 0 S0) ∧ eqO mD v v' := by
  intro r
  induction r with
  | zero =>
    intro k S d sum v hk hS hkk hl hd4 hb ha
    refine ⟨v, ?_, eqO.rf⟩
    rw [qr_X12_planned_9, if_pos (nI_le (by omega) (by omega)), sm_back hb (fun j hj => by rw [hS]; exact ha j hj), nc_bV_v, if_neg (by decide)]
    rfl
  | succ r ih =>
    intro k S d sum v hk hS hkk hl hd4 hb ha
    have hf : f ≤ 4 := hkk.1.2.2.2.2.1
    have hC : C ≤ 8 := hkk.1.2.2.2.2.2.1
    have pN := pow_N hN
    have h8 : c < 8 := by omega
    obtain ⟨kk, ⟨kk1, kk3⟩, kk2⟩ := hl.2.2.2 c hc
    have v2 : v.1 874 0 2 = nI N := by rw [hS]; exact hkk.1.2.2.1
    have hs0 : shp (v.1 874 0) f C N h := by rw [hS]; exact hkk.1
    have hm := Nat.mod_lt (code / (N + 1) ^ r) (show N + 1 > 0 by omega)
    have e1 : code % (N + 1) ^ (r + 1) / (N + 1) ^ r = code / (N + 1) ^ r % (N + 1) := by
      rw [Nat.pow_succ, Nat.mod_mul_right_div_self]
    have e2 : code % (N + 1) ^ (r + 1) % (N + 1) ^ r = code % (N + 1) ^ r := by
      rw [Nat.pow_succ, Nat.mod_mul_right_mod]
    have dgt := sm_digit (v := v) (k := k) v2 hN hdy (by omega) hcode
    rw [show days - 1 - k = r by omega] at dgt
    unfold pl
    rw [e1, e2]
    generalize code / (N + 1) ^ r % (N + 1) = n at dgt hm ⊢
    rw [qr_X12_planned_9, if_neg (nI_ge (by omega) (by omega)), if_neg (by decide), dgt, nc_bI_v, v2]
    by_cases y : n = N
    · subst y
      rw [if_pos rfl, if_pos (nI_le (Nat.le_refl _) (by omega)), sm_milk v hs0 h8, nc_bI_v, nc_li_v, hS, if_pos rfl]
      obtain ⟨u, b1, b2, b3⟩ := sm_day (w := v) (d := d) hs0 (by rw [hS]; exact hev_of hkk.2.2.2.2.1) (by rw [hS]; exact hl.1) (by omega)
      rw [hS] at b2
      obtain ⟨u', c1, c2⟩ := ih (k + 1) (dayS S d f C n h) (d + 1) (sum + mwi S C n c 0) u (by omega) b2 (dok_c hkk (fun j hj => dayS_o hf hC (by omega))) (lok_day hl hf hC hN (by omega)) (by omega) (fun j hj => by rw [b3.2 891 0 (by unfold mD; omega)]; exact hb j hj) (dayS_ag hf hC ha)
      rw [b1, nc_bV_v, nc_li_v, nI_1]
      exact ⟨u', c1, b3.tr c2⟩
    · rw [if_neg (fun z => y ((nI_eq (by omega) (by omega)).mp z)), sm_whyTell v h8 (show kk < 1024 by omega) (by rw [hS]; exact kk2), nc_bI_v, hS, wyt_eq (by omega) kk2, if_neg y]
      by_cases z : wyt S c n = 0
      · have tS : (row v 874 0 (tellS S c n)).1 874 0 = tellS S c n := row_s
        have kT : dok (tellS S c n) f C N h := dok_c hkk (fun j hj => tellS_o h8 (by omega) (by omega))
        have lT : lok (tellS S c n) C N d := lok_tell hl hC hN hc (by omega)
        have sT : shp ((row v 874 0 (tellS S c n)).1 874 0) f C N h := by rw [tS]; exact kT.1
        rw [if_neg (fun q => q z), if_neg (by rw [hkk.1.2.2.1]; exact nI_ge (by omega) (by omega)), sm_tells v h8 (by omega), nc_bV_v, hS, sm_milk _ sT h8, nc_bI_v, nc_li_v, tS, if_pos z]
        obtain ⟨u, b1, b2, b3⟩ := sm_day (w := row v 874 0 (tellS S c n)) (d := d) sT (by rw [tS]; exact hev_of kT.2.2.2.2.1) (by rw [tS]; exact lT.1) (by omega)
        rw [tS] at b2
        obtain ⟨u', c1, c2⟩ := ih (k + 1) (dayS (tellS S c n) d f C N h) (d + 1) (sum + mwi (tellS S c n) C N c 0) u (by omega) b2 (dok_c kT (fun j hj => dayS_o hf hC (by omega))) (lok_day lT hf hC hN (by omega)) (by omega) (fun j hj => by rw [b3.2 891 0 (by unfold mD; omega), row_t (by decide)]; exact hb j hj) (dayS_ag hf hC (fun j hj => by rw [tellS_o h8 (by omega) (by omega)]; exact ha j hj))
        rw [b1, nc_bV_v, nc_li_v, nI_1]
        exact ⟨u', c1, ((eqO.rf.row ⟨rfl, by omega⟩).tr b3).tr c2⟩
      · rw [if_pos z, sm_milk v hs0 h8, nc_bI_v, nc_li_v, if_neg z]
        obtain ⟨u, b1, b2, b3⟩ := sm_day (w := v) (d := d) hs0 (by rw [hS]; exact hev_of hkk.2.2.2.2.1) (by rw [hS]; exact hl.1) (by omega)
        rw [hS] at b2
        have bk := sm_back (w := u) (S := S0) (fun j hj => by rw [b3.2 891 0 (by unfold mD; omega)]; exact hb j hj) (fun j hj => by rw [b2]; exact dayS_ag hf hC ha j hj)
        rw [b1, nc_bV_v, nc_li_v, nI_1, qr_X12_planned_9]
        refine ⟨u, ?_, b3⟩
        by_cases q : nI days ≤ nI (k + 1)
        · rw [if_pos q, bk, nc_bV_v, if_pos rfl]
          rfl
        · rw [if_neg q, if_pos rfl, bk, nc_bV_v, if_pos rfl]
          rfl
/-- the planning, as a row of codes -/
def plS (S : Nat → Int32) (d f C N h c days i : Nat) : PS := it (fun code st => wgo (pl f C N h c days S d code 0) code st) 0 i (-1, none)
theorem plS_ok {i : Nat} : ¬ (plS S d f C N h c days i).1 < -1 ∧ ((plS S d f C N h c days i).2 = none → (plS S d f C N h c days i).1 = -1) ∧ ∀ b, (plS S d f C N h c days i).2 = some b → b < i := by
  unfold plS
  induction i with
  | zero => exact ⟨show ¬ (-1 : Int32) < -1 by decide, fun _ => rfl, fun b e => by cases e⟩
  | succ i ih =>
    rw [it_succ, Nat.zero_add]
    generalize it (fun code st => wgo (pl f C N h c days S d code 0) code st) 0 i (-1, none) = s0 at ih ⊢
    cases pl f C N h c days S d i 0 with
    | none => exact ⟨ih.1, ih.2.1, fun b e => by have := ih.2.2 b e; omega⟩
    | some s =>
      show ¬ (wgh s i s0).1 < -1 ∧ ((wgh s i s0).2 = none → (wgh s i s0).1 = -1) ∧ ∀ b, (wgh s i s0).2 = some b → b < i + 1
      unfold wgh
      by_cases q : s0.1 < s
      · rw [if_pos q]
        refine ⟨fun z => ih.1 (Int32.lt_trans q z), fun e => (by cases e), fun b e => ?_⟩
        have := Option.some.inj e
        omega
      · rw [if_neg q]
        exact ⟨ih.1, ih.2.1, fun b e => by have := ih.2.2 b e; omega⟩
theorem plS_some (hk : dok S f C N h) (hc : c < C) (hdy : days ≤ 3) : ∃ b, (plS S d f C N h c days ((N + 1) ^ days)).2 = some b := by
  have hp : 0 < (N + 1) ^ days := Nat.pow_pos (by omega)
  obtain ⟨s, s1, s2⟩ := pl_last (f := f) (N := N) (h := h) hc days S d 0 hk (by decide) (by
    have h0 : (0 : Int32).toInt = 0 := by decide
    rw [h0]
    omega)
  have o := plS_ok (S := S) (d := d) (f := f) (C := C) (N := N) (h := h) (c := c) (days := days) (i := (N + 1) ^ days - 1)
  unfold plS at o ⊢
  rw [show (N + 1) ^ days = ((N + 1) ^ days - 1) + 1 by omega, it_succ, Nat.zero_add, s1]
  generalize it (fun code st => wgo (pl f C N h c days S d code 0) code st) 0 ((N + 1) ^ days - 1) (-1, none) = s0 at o ⊢
  show ∃ b, (wgh s ((N + 1) ^ days - 1) s0).2 = some b
  unfold wgh
  by_cases q : s0.1 < s
  · rw [if_pos q]
    exact ⟨_, rfl⟩
  · rw [if_neg q]
    cases e : s0.2 with
    | some b => exact ⟨b, rfl⟩
    | none =>
      exfalso
      apply q
      rw [o.2.1 e, Int32.lt_iff_toInt_lt]
      have h1 : (-1 : Int32).toInt = -1 := by decide
      rw [h1]
      omega
theorem pw3 (hN : N ≤ 10) (hd : days ≤ 3) : (N + 1) ^ days ≤ 1331 := by
  have h1 : (N + 1) ^ days ≤ 11 ^ days := Nat.pow_le_pow_left (by omega) days
  have h2 : 11 ^ days ≤ 11 ^ 3 := Nat.pow_le_pow_right (by decide) hd
  have h3 : 11 ^ 3 = 1331 := by decide
  omega
theorem sm_planAll (h2 : v.1 874 0 2 = nI N) (hN : N ≤ 10) (hd : days ≤ 3) (x : Int32) : nc_Run m_X12_plan 44 [some mO, some (.inl x), some (.inl (nI days)), some (.inl (nI 1)), some (.inl (nI 0)), none, none, none] [] v = nc_Run m_X12_plan 44 [some mO, some (.inl x), some (.inl (nI days)), some (.inl (nI ((N + 1) ^ days))), some (.inl (nI days)), none, none, none] [] v := by
  have key := it_loop (R := fun i (_ : Unit) => nc_Run m_X12_plan 44 [some mO, some (.inl x), some (.inl (nI days)), some (.inl (nI ((N + 1) ^ i))), some (.inl (nI i)), none, none, none] [] v) (st := fun _ a => a) (I := fun _ _ => True) (n := days) (out := fun _ => nc_Run m_X12_plan 44 [some mO, some (.inl x), some (.inl (nI days)), some (.inl (nI ((N + 1) ^ days))), some (.inl (nI days)), none, none, none] [] v) ?_ (fun _ _ => rfl) days 0 () (by omega) trivial
  · exact key
  · intro i _ hi _
    refine ⟨?_, trivial⟩
    show nc_Run m_X12_plan 44 _ _ v = nc_Run m_X12_plan 44 _ _ v
    rw [qr_X12_plan_44, if_neg (nI_ge hi (by omega)), h2, nI_1, pk_mul, nc_li_v, nc_li_v, nI_1, Nat.pow_succ]
theorem sm_plan80 (hN : N ≤ 10) (hdy : days ≤ 3) (hc : c < C) (hS : v.1 874 0 = S) (hkk : dok S f C N h) (hl : lok S C N d) (hd4 : d + days ≤ 400) (hb : ∀ j, j < 256 → v.1 891 0 j = S (76 + j)) : ∃ v', nc_Run m_X12_plan 80 [some mO, some (.inl (nI c)), some (.inl (nI days)), some (.inl (nI ((N + 1) ^ days))), some (.inl (-1)), some (.inl (-1)), some (.inl (nI 0)), none] [] v = nc_Run m_X12_plan 80 [some mO, some (.inl (nI c)), some (.inl (nI days)), some (.inl (nI ((N + 1) ^ days))), some (.inl (lsI (plS S d f C N h c days ((N + 1) ^ days)).2)), some (.inl (plS S d f C N h c days ((N + 1) ^ days)).1), some (.inl (nI ((N + 1) ^ days))), none] [] v' ∧ eqO mD v v' ∧ v'.1 874 0 = S := by
  have p3 := pw3 hN hdy
  refine lp (R := fun i (u : nc_H) => nc_Run m_X12_plan 80 [some mO, some (.inl (nI c)), some (.inl (nI days)), some (.inl (nI ((N + 1) ^ days))), some (.inl (lsI (plS S d f C N h c days i).2)), some (.inl (plS S d f C N h c days i).1), some (.inl (nI i)), none] [] u) (I := fun i u => eqO mD v u ∧ u.1 874 0 = S) (n := (N + 1) ^ days) (Q := fun r => ∃ v', r = nc_Run m_X12_plan 80 [some mO, some (.inl (nI c)), some (.inl (nI days)), some (.inl (nI ((N + 1) ^ days))), some (.inl (lsI (plS S d f C N h c days ((N + 1) ^ days)).2)), some (.inl (plS S d f C N h c days ((N + 1) ^ days)).1), some (.inl (nI ((N + 1) ^ days))), none] [] v' ∧ eqO mD v v' ∧ v'.1 874 0 = S) ?_ (fun u hu => ⟨u, rfl, hu⟩) ((N + 1) ^ days) 0 v (by omega) ⟨eqO.rf, hS⟩
  rintro i u hi ⟨q1, q2⟩
  right
  obtain ⟨u', a1, a2⟩ := sm_planned (f := f) (C := C) (N := N) (h := h) (c := c) (days := days) (code := i) (S0 := S) hN hdy hc (by omega) days 0 S d 0 u (by omega) q2 hkk hl hd4 (fun j hj => by rw [q1.2 891 0 (by unfold mD; omega)]; exact hb j hj) (fun _ _ => rfl)
  rw [Nat.mod_eq_of_lt hi] at a1
  have o := plS_ok (S := S) (d := d) (f := f) (C := C) (N := N) (h := h) (c := c) (days := days) (i := i)
  have es : plS S d f C N h c days (i + 1) = wgo (pl f C N h c days S d i 0) i (plS S d f C N h c days i) := by
    unfold plS
    rw [it_succ, Nat.zero_add]
  refine ⟨row u' 874 0 S, ?_, (q1.tr a2).row ⟨rfl, by omega⟩, row_s⟩
  show nc_Run m_X12_plan 80 _ _ u = nc_Run m_X12_plan 80 _ _ _
  rw [qr_X12_plan_80, if_neg (nI_ge hi (by omega)), qc_X12_planned]
  show nc_bI (nc_Run m_X12_planned 9 [some mO, some (.inl (nI c)), some (.inl (nI i)), some (.inl (nI days)), some (.inl 0), some (.inl 1), some (.inl (nI 0)), none] [] u) _ = _
  rw [a1, nc_bI_v, es]
  cases pl f C N h c days S d i 0 with
  | none =>
    rw [if_neg (show ¬ (plS S d f C N h c days i).1 < plI none from o.1), nc_li_v, nI_1]
    rfl
  | some s =>
    show (if (plS S d f C N h c days i).1 < s then _ else _) = nc_Run m_X12_plan 80 [_, _, _, _, some (.inl (lsI (wgh s i (plS S d f C N h c days i)).2)), some (.inl (wgh s i (plS S d f C N h c days i)).1), _, _] _ _
    unfold wgh
    by_cases q : (plS S d f C N h c days i).1 < s
    · rw [if_pos q, if_pos q, nc_li_v, nI_1]
      rfl
    · rw [if_neg q, if_neg q, nc_li_v, nI_1]
theorem sm_plan128 (h2 : v.1 874 0 2 = nI N) (hN : N ≤ 10) (hd : days ≤ 3) (hc : code < 2 ^ 20) (x : Int32) : ∃ v', nc_Run m_X12_plan 128 [some mO, none, some (.inl (nI days)), none, some (.inl (nI code)), some (.inl x), some (.inl (nI 0)), none] [] v = some (some (.inl x), v') ∧ eqO (fun t a => t = 895 ∧ a = 0) v v' ∧ ∀ j, j < days → v'.1 895 0 j = dg N (code / (N + 1) ^ (days - 1 - j) % (N + 1)) := by
  refine lp (R := fun i (u : nc_H) => nc_Run m_X12_plan 128 [some mO, none, some (.inl (nI days)), none, some (.inl (nI code)), some (.inl x), some (.inl (nI i)), none] [] u) (I := fun i u => eqO (fun t a => t = 895 ∧ a = 0) v u ∧ ∀ j, j < i → u.1 895 0 j = dg N (code / (N + 1) ^ (days - 1 - j) % (N + 1))) (n := days) (Q := fun r => ∃ v', r = some (some (.inl x), v') ∧ eqO (fun t a => t = 895 ∧ a = 0) v v' ∧ ∀ j, j < days → v'.1 895 0 j = dg N (code / (N + 1) ^ (days - 1 - j) % (N + 1))) ?_ ?_ days 0 v (by omega) ⟨eqO.rf, fun j hj => absurd hj (Nat.not_lt_zero j)⟩
  · rintro i u hi ⟨q1, q2⟩
    right
    have u2 : u.1 874 0 2 = nI N := by rw [q1.2 874 0 (by omega)]; exact h2
    have hm := Nat.mod_lt (code / (N + 1) ^ (days - 1 - i)) (show N + 1 > 0 by omega)
    refine ⟨row u 895 0 (upd (u.1 895 0) i (dg N (code / (N + 1) ^ (days - 1 - i) % (N + 1)))), ?_, q1.row ⟨rfl, rfl⟩, fun j hj => ?_⟩
    · show nc_Run m_X12_plan 128 _ _ u = nc_Run m_X12_plan 128 _ _ _
      rw [qr_X12_plan_128, if_neg (nI_ge hi (by omega)), sm_digit u2 hN hd hi hc, nc_bI_v, u2]
      unfold dg
      by_cases y : code / (N + 1) ^ (days - 1 - i) % (N + 1) = N
      · rw [if_neg (fun z => z (by rw [y])), bd8 i 3 (by omega) (by decide), nc_lt_v, nc_li_v, nI_1, si_rw, if_pos y]
      · rw [if_pos (fun z => y ((nI_eq (by omega) (by omega)).mp z)), bd8 i 3 (by omega) (by decide), nc_lt_v, nc_li_v, nI_1, si_rw, if_neg y]
    · by_cases e : j = i
      · subst e
        rw [row_s, upd_s]
      · rw [row_s, upd_n e, q2 j (by omega)]
  · rintro u ⟨q1, q2⟩
    refine ⟨u, ?_, q1, q2⟩
    show nc_Run m_X12_plan 128 _ _ u = _
    rw [qr_X12_plan_128, if_pos (nI_le (Nat.le_refl _) (by omega))]
theorem op_plan (hI : Inv w) (x y : Int32) : Op w (nc_Call m_X11_plan [cO, .inl x, .inl y]) (nc_Call m_X12_plan [mO, .inl x, .inl y]) := by
  have hI0 := hI
  obtain ⟨⟨f, C, N, h, d, hW⟩, hM, c3, c4, c5, c6, c7, c8⟩ := hI
  have hW' := hW
  obtain ⟨⟨x1, x2, x3, x4, x5, x6⟩, x7⟩ := hW'
  have hC : C ≤ 8 := x3.1.2.2.2.2.2.1
  have hN : N ≤ 10 := x3.1.2.2.2.2.2.2.1
  have hd4 := x2.2.1
  have e2 : w.1 2 0 2 = nI C := x3.2.1.2.1
  have e7 : w.1 7 0 1 = nI d := x5.1.1.1.1.trans x2.1
  have m2 : ∀ u : nc_H, u.1 874 0 = w.1 874 0 → u.1 874 0 1 = nI C := fun u hu => by rw [hu]; exact x3.1.2.1
  by_cases b : rng x C
  · have b' := b
    obtain ⟨c, hc, rfl⟩ := b'
    rcases lit_1n (x := y) (n := 3) (by decide) with ⟨days, n1, n2, rfl⟩ | b3
    · have g1 : ¬ nI days < 1 := by rw [show (1 : Int32) = nI 1 from rfl, nI_ltI (by omega) (by omega)]; omega
      have g2 : nI days ≤ 3 := nI_le n2 (by decide)
      have l4 : nI d + nI days ≤ 400 ↔ d + days ≤ 400 := by
        rw [nI_add, show (400 : Int32) = nI 400 from rfl, nI_leI (by omega) (by omega)]
      by_cases q : d + days ≤ 400
      · let w0 : nc_H := row w 8 0 (upd (upd (w.1 8 0) 5 (nI days)) 6 (-1))
        have r0 : ∀ t, t ≠ 8 → w0.1 t = w.1 t := fun t ht => row_t ht
        have D0 : DR w0 0 (w.1 874 0) f C N h := DR_eq x3 (fun t ht => by rw [r0 t (by omega)]) (fun _ _ => rfl)
        have L0 : LK w0 0 (w.1 874 0) C N := LK_eq x5.1 (fun t ht => by rw [r0 t (by omega)])
        have G0 : GOC m_X8_go_0 0 0 days 10 f C N h c days := by
          have e : days = 1 ∨ days = 2 ∨ days = 3 := by omega
          rcases e with rfl | rfl | rfl
          · exact sp_go_0_last hc rfl
          · exact sp_go_0 (r := 1) hc rfl (by omega) (by omega) (sp_go_1_last hc rfl)
          · exact sp_go_0 (r := 2) hc rfl (by omega) (by omega) (sp_go_1 (r := 1) hc rfl (by omega) (by omega) (sp_go_2_last hc rfl))
        obtain ⟨w1, a1, a2, a3, a4, a5⟩ := G0 w0 (w.1 874 0) d 0 0 (-1, none) D0 L0 x1 x2 q (by show (row _ 8 0 _).1 8 0 5 = _; rw [row_s, upd_n (by decide), upd_s]) (fun j hj => absurd hj (Nat.not_lt_zero j)) ⟨by show (row _ 8 0 _).1 8 0 6 = _; rw [row_s, upd_s], fun code e => by cases e⟩
        have eP : gR f C N h c days (w.1 874 0) d 0 0 (-1, none) = plS (w.1 874 0) d f C N h c days ((N + 1) ^ days) := by
          rw [gR_pl]
          unfold plS
          exact it_cong (n := (N + 1) ^ days) (fun i st _ => by rw [Nat.zero_mul, Nat.zero_add]) ((N + 1) ^ days) 0 _ (by omega)
        rw [eP] at a5
        have E1 : eqO (gP 10) w w1 := (eqO.rf.row (Or.inl ⟨rfl, by omega⟩)).tr a2
        have s1 : (thr w1 0).1 874 0 = w.1 874 0 := by rw [thr_874, E1.2 874 0 (by unfold gP; omega)]
        let v1 : nc_H := row (thr w1 0) 891 0 (fun k => if k < 256 then (thr w1 0).1 874 0 (76 + k) else (thr w1 0).1 891 0 k)
        have s2 : v1.1 874 0 = w.1 874 0 := by
          show (row _ 891 0 _).1 874 0 = _
          rw [row_t (by decide), s1]
        obtain ⟨v2, p1, p2, p3⟩ := sm_plan80 (v := v1) (days := days) hN n2 hc s2 x1 x2 q (fun j hj => by
          show (row _ 891 0 _).1 891 0 j = _
          rw [row_s, if_pos hj, s1])
        obtain ⟨code, hcode⟩ := plS_some (d := d) (days := days) x1 hc n2
        have o := plS_ok (S := w.1 874 0) (d := d) (f := f) (C := C) (N := N) (h := h) (c := c) (days := days) (i := (N + 1) ^ days)
        have cl := o.2.2 code hcode
        have pw := pw3 hN n2
        let v3 : nc_H := row v2 12 0 (upd (v2.1 12 0) 28 (nI days))
        obtain ⟨v4, t1, t2, t3⟩ := sm_plan128 (v := v3) (days := days) (code := code) (by show (row _ 12 0 _).1 874 0 2 = _; rw [row_t (by decide), p3]; exact x3.1.2.2.1) hN n2 (by omega) (plS (w.1 874 0) d f C N h c days ((N + 1) ^ days)).1
        have k12' : ∀ j, j ≠ 0 → j ≠ 28 → v4.1 12 0 j = w.1 12 0 j := fun j j0 j1 => by
          rw [t2.2 12 0 (by omega)]
          show (row _ 12 0 _).1 12 0 j = _
          rw [row_s, upd_n j1, p2.2 12 0 (by unfold mD; omega)]
          show (row _ 891 0 _).1 12 0 j = _
          rw [row_t (by decide), thr_k j0, E1.2 12 0 (by unfold gP; omega)]
        have kt : ∀ t a, ¬ (a = 0 ∧ (t = 12 ∨ t = 874 ∨ t = 889 ∨ t = 891 ∨ t = 895)) → v4.1 t a = w1.1 t a := fun t a ht => by
          rw [t2.2 t a (by omega)]
          show (row _ 12 0 _).1 t a = _
          rw [row_n (by omega), p2.2 t a (by unfold mD; omega)]
          show (row _ 891 0 _).1 t a = _
          rw [row_n (by omega), row_n (by omega)]
        have s4 : v4.1 874 0 = w.1 874 0 := by
          rw [t2.2 874 0 (by omega)]
          show (row _ 12 0 _).1 874 0 = _
          rw [row_t (by decide), p3]
        have kw : ∀ t a, ¬ gP 10 t a → ¬ (a = 0 ∧ (t = 12 ∨ t = 874 ∨ t = 889 ∨ t = 891 ∨ t = 895)) → v4.1 t a = w.1 t a := fun t a h1 h2 => (kt t a h2).trans (E1.2 t a h1)
        have v42 : v4.2 = w.2 := t2.1.trans (p2.1.trans E1.1)
        refine ⟨(plS (w.1 874 0) d f C N h c days ((N + 1) ^ days)).1, w1, v4, ?_, ?_, ?_⟩
        · rw [qc_X11_plan, sc_isCow_t e2 (by omega) b, nc_bI_v, if_neg (by decide), if_neg g1, if_neg (Int32.not_lt.mpr g2), e7, if_pos (l4.mpr q), qc_X8_seek, nc_lt_v, nc_lt_v, si_rw, si_rw, row_s, row_r]
          show nc_bI (nc_bV (nc_Call m_X8_go_0 [pO, lO 0, .inl (nI c), .inl (nI 0), .inl 0] w0) _) _ = _
          rw [a1, nc_bV_v, nc_bI_v, a5.1]
        · rw [qc_X12_plan, nc_lt_v, thr_si, mm_isCow_t (m2 _ s1) (by omega) b, nc_bI_v, if_neg (by decide), sm_isIn, nc_bI_v, tI_t ⟨Int32.not_lt.mp g1, g2⟩, if_neg (by decide), s1, x2.1, if_pos (l4.mpr q)]
          refine (sm_planAll (by rw [s1]; exact x3.1.2.2.1) hN n2 (nI c)).trans ?_
          rw [qr_X12_plan_44, if_pos (nI_le (Nat.le_refl _) (by omega)), sm_tries, nc_bV_v]
          refine p1.trans ?_
          rw [qr_X12_plan_80, if_pos (nI_le (Nat.le_refl _) (by omega)), nc_lt_v, si_rw, hcode]
          exact t1
        · have B := Inv_big (w' := v4) ⟨⟨f, C, N, h, d, hW⟩, hM⟩ (fun t a ht => by
            by_cases z : t = 874 ∧ a = 0
            · rw [z.1, z.2]; exact s4
            · exact kw t a (by unfold sD sL sS sM at ht; unfold gP; omega) (by unfold sD sL sS sM at ht; omega)) (fun _ _ _ => by rw [v42]) (k12' 24 (by decide) (by decide))
          refine ⟨B.1, B.2, CH_eq c3 (fun k hk => k12' k (by omega) (by omega)) (kw 1 0 (by unfold gP; omega) (by omega)), Or.inr ⟨days, n1, n2, ?_, ?_, fun k hk => ?_⟩, PT_eq c5 (fun k hk => k12' k (by omega) (by omega)) (kw 11 0 (by unfold gP; omega) (by omega)), TP_eq c6 (fun k hk => k12' k (by omega) (by omega)) (kw 10 0 (by unfold gP; omega) (by omega)) (kw 740 0 (by unfold gP; omega) (by omega)) (kw 869 0 (by unfold gP; omega) (by omega)), BK_eq c7 (k12' 38 (by decide) (by decide)) (kw 0 0 (by unfold gP; omega) (by omega)) (kw 905 0 (by unfold gP; omega) (by omega)), TW_eq c8 (by rw [v42]) (by rw [v42])⟩
          · rw [kt 8 0 (by omega), a4]
            show (row _ 8 0 _).1 8 0 5 = _
            rw [row_s, upd_n (by decide), upd_s]
          · rw [t2.2 12 0 (by omega)]
            show (row _ 12 0 _).1 12 0 28 = _
            rw [row_s, upd_s]
          · rw [kt 616 0 (by omega), a5.2 code hcode k hk, t3 k hk]
      · refine rd hI0 ⟨-1, ?_, ?_⟩
        · rw [qc_X11_plan, sc_isCow_t e2 (by omega) b, nc_bI_v, if_neg (by decide), if_neg g1, if_neg (Int32.not_lt.mpr g2), e7, if_neg (fun z => q (l4.mp z))]
        · rw [qc_X12_plan, nc_lt_v, thr_si, mm_isCow_t (m2 _ (by rw [thr_874])) (by omega) b, nc_bI_v, if_neg (by decide), sm_isIn, nc_bI_v, tI_t ⟨Int32.not_lt.mp g1, g2⟩, if_neg (by decide), thr_874, x2.1, if_neg (fun z => q (l4.mp z))]
    · refine rd hI0 ⟨-1, ?_, ?_⟩
      · rw [qc_X11_plan, sc_isCow_t e2 (by omega) b, nc_bI_v, if_neg (by decide)]
        by_cases b1 : y < 1
        · rw [if_pos b1]
        · rw [if_neg b1, if_pos (show (3 : Int32) < y from Int32.not_le.mp (b3.elim (fun q => absurd q b1) id))]
      · rw [qc_X12_plan, nc_lt_v, thr_si, mm_isCow_t (m2 _ (by rw [thr_874])) (by omega) b, nc_bI_v, if_neg (by decide), sm_isIn, nc_bI_v, tI_f (fun q => b3.elim (fun z => absurd q.1 (Int32.not_le.mpr z)) (fun z => z q.2)), if_pos rfl]
  · refine rd hI0 ⟨-1, ?_, ?_⟩
    · rw [qc_X11_plan, sc_isCow_f e2 (by omega) b, nc_bI_v, if_pos rfl]
    · rw [qc_X12_plan, nc_lt_v, thr_si, mm_isCow_f (m2 _ (by rw [thr_874])) (by omega) b, nc_bI_v, if_pos rfl]
end PM
