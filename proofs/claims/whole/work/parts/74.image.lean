/-! COPIES of a dairy and of a sentence; image, restore. -/
def rol (w : nc_H) (t a : Nat) (f : Nat → Int64) : nc_H := (w.1, fun t' a' => if t' = t ∧ a' = a then f else w.2 t' a')
section IG
variable {w w' : nc_H} {a b dn ln sn f C N h d : Nat} {S S' : Nat → Int32} {Y Y' : Nat → Int64}
theorem rol_1 {t a : Nat} {g : Nat → Int64} : (rol w t a g).1 = w.1 := rfl
theorem rol_s {t a : Nat} {g : Nat → Int64} : (rol w t a g).2 t a = g := if_pos ⟨rfl, rfl⟩
theorem rol_n {t a t' a' : Nat} {g : Nat → Int64} (h : ¬ (t' = t ∧ a' = a)) : (rol w t a g).2 t' a' = w.2 t' a' := if_neg h
theorem rol_r {t a : Nat} {g g' : Nat → Int64} : rol (rol w t a g) t a g' = rol w t a g' := by
  unfold rol
  congr 1
  funext t' a'
  by_cases h : t' = t ∧ a' = a
  · rw [if_pos h, if_pos h]
  · rw [if_neg h, if_neg h]
    exact if_neg h
theorem rol_c {t a : Nat} {g g' : Nat → Int64} (h : ∀ k, g k = g' k) : rol w t a g = rol w t a g' := by rw [funext h]
theorem rol_id {t a : Nat} : rol w t a (w.2 t a) = w := by
  unfold rol
  refine Prod.ext rfl (funext fun t' => funext fun a' => ?_)
  show (if t' = t ∧ a' = a then w.2 t a else w.2 t' a') = w.2 t' a'
  by_cases e : t' = t ∧ a' = a
  · rw [if_pos e, e.1, e.2]
  · rw [if_neg e]
def updL (g : Nat → Int64) (k : Nat) (x : Int64) : Nat → Int64 := fun j => if j = k then x else g j
theorem updL_s {g : Nat → Int64} {k : Nat} {x : Int64} : updL g k x k = x := if_pos rfl
theorem updL_n {g : Nat → Int64} {k j : Nat} {x : Int64} (h : j ≠ k) : updL g k x j = g j := if_neg h
theorem sl_rw {t a k : Nat} {x : Int64} : nc_sl w t a k x = rol w t a (updL (w.2 t a) k x) := by
  unfold nc_sl rol
  congr 1
  funext t' a' k'
  unfold updL
  by_cases h : t' = t ∧ a' = a
  · obtain ⟨rfl, rfl⟩ := h
    simp
  · rw [if_neg h, if_neg (fun q => h ⟨q.1, q.2.1⟩)]
theorem cpl_rw {t n : Nat} : nc_cpl w t b 0 t a 0 n = rol w t a (fun k => if k < n then w.2 t b k else w.2 t a k) := by
  unfold nc_cpl rol
  congr 1
  funext t' a' k
  by_cases e : t' = t ∧ a' = a
  · obtain ⟨rfl, rfl⟩ := e
    by_cases e2 : k < n
    · simp [e2]
    · simp [e2]
  · rw [if_neg e, if_neg (fun q => e ⟨q.1, q.2.1⟩)]
def dC (a t a' : Nat) : Prop := a' = a ∧ (t = 2 ∨ (237 ≤ t ∧ t ≤ 246))
def sC (a t a' : Nat) : Prop := a' = a ∧ (t = 9 ∨ (676 ≤ t ∧ t ≤ 678))
def dcp (w w' : nc_H) (a b : Nat) : Prop := (∀ k, k < 8 → w'.1 2 a k = w.1 2 b k) ∧ (∀ k, k < 4 → w'.1 237 a k = w.1 237 b k) ∧ (∀ t, 238 ≤ t → t ≤ 241 → ∀ k, k < 8 → w'.1 t a k = w.1 t b k) ∧ (∀ t, 242 ≤ t → t ≤ 243 → ∀ k, k < 10 → w'.1 t a k = w.1 t b k) ∧ (∀ t, 244 ≤ t → t ≤ 246 → ∀ k, k < 6 → w'.1 t a k = w.1 t b k) ∧ (∀ k, k < 22 → w'.2 236 a k = w.2 236 b k)
def scp (w w' : nc_H) (a b : Nat) : Prop := (∀ k, 3 ≤ k → k < 5 → w'.1 9 a k = w.1 9 b k) ∧ (∀ t, 676 ≤ t → t ≤ 678 → ∀ k, k < 40 → w'.1 t a k = w.1 t b k)
theorem sd_copyFrom (hab : b ≠ a) : ∃ w', nc_Call m_X2_copyFrom [.inr (.inr (2, a)), .inr (.inr (2, b))] w = some (none, w') ∧ (∀ t a', ¬ dC a t a' → w'.1 t a' = w.1 t a') ∧ (∀ t a', ¬ (t = 236 ∧ a' = a) → w'.2 t a' = w.2 t a') ∧ dcp w w' a b := by
  rw [qc_X2_copyFrom]
  simp (disch := omega) only [↓nc_lt_v, ↓nc_li_v, ↓nc_bI_v, ↓nc_bV_v, ↓nc_bL_v, ↓nc_ll_v, ↓bd8, ↓reduceIte, ↓nc_z_tI, ↓nc_z_0, ↓nc_z_1, nI_leI, nI_ltI, nI_1, tI_ne, tI_eq0, ne_eq, not_true_eq_false, not_false_eq_true, Decidable.not_not, si_rw, cpi_rw, cpl_rw, row_s, row_r, row_t, row_b, rol_1, row_2]
  refine ⟨_, rfl, ?_, ?_, ?_⟩
  · intro t a' q
    have T : ∀ t', t' = 2 ∨ (237 ≤ t' ∧ t' ≤ 246) → ¬ (t = t' ∧ a' = a) := fun t' ht z => q ⟨z.2, by omega⟩
    rw [row_n (T 246 (by omega)), row_n (T 245 (by omega)), row_n (T 244 (by omega)), row_n (T 243 (by omega)), row_n (T 242 (by omega)), row_n (T 241 (by omega)), row_n (T 240 (by omega)), row_n (T 239 (by omega)), row_n (T 238 (by omega)), row_n (T 237 (by omega)), rol_1, row_n (T 2 (by omega))]
  · intro t a' q
    simp only [row_2]
    rw [rol_n q, row_2]
  · refine ⟨fun k hk => ?_, fun k hk => ?_, fun t h1 h2 k hk => ?_, fun t h1 h2 k hk => ?_, fun t h1 h2 k hk => ?_, fun k hk => ?_⟩
    · simp (disch := omega) only [row_s, row_t, rol_1]
      have e : k = 0 ∨ k = 1 ∨ k = 2 ∨ k = 3 ∨ k = 4 ∨ k = 5 ∨ k = 6 ∨ k = 7 := by omega
      rcases e with rfl | rfl | rfl | rfl | rfl | rfl | rfl | rfl
      all_goals simp (disch := omega) only [upd_n, upd_s]
    · simp (disch := omega) only [row_s, row_t, rol_1]
      rw [if_pos hk]
    · have e : t = 238 ∨ t = 239 ∨ t = 240 ∨ t = 241 := by omega
      rcases e with rfl | rfl | rfl | rfl
      all_goals
        simp (disch := omega) only [row_s, row_t, rol_1]
        rw [if_pos hk]
    · have e : t = 242 ∨ t = 243 := by omega
      rcases e with rfl | rfl
      all_goals
        simp (disch := omega) only [row_s, row_t, rol_1]
        rw [if_pos hk]
    · have e : t = 244 ∨ t = 245 ∨ t = 246 := by omega
      rcases e with rfl | rfl | rfl
      all_goals
        simp (disch := omega) only [row_s, row_t, rol_1]
        rw [if_pos hk]
    · simp only [row_2]
      rw [rol_s, if_pos hk]
theorem ss_copyFrom (hab : b ≠ a) : ∃ w', nc_Call m_X9_copyFrom [.inr (.inr (9, a)), .inr (.inr (9, b))] w = some (none, w') ∧ eqO (sC a) w w' ∧ scp w w' a b := by
  rw [qc_X9_copyFrom]
  simp (disch := omega) only [↓nc_lt_v, ↓nc_li_v, ↓nc_bI_v, ↓nc_bV_v, ↓nc_bL_v, ↓nc_ll_v, ↓bd8, ↓reduceIte, ↓nc_z_tI, ↓nc_z_0, ↓nc_z_1, nI_leI, nI_ltI, nI_1, tI_ne, tI_eq0, ne_eq, not_true_eq_false, not_false_eq_true, Decidable.not_not, si_rw, cpi_rw, row_s, row_r, row_t, row_b]
  refine ⟨_, rfl, ?_, ?_⟩
  · exact (((eqO.rf.row ⟨rfl, by omega⟩).row ⟨rfl, by omega⟩).row ⟨rfl, by omega⟩).row ⟨rfl, by omega⟩
  · refine ⟨fun k h1 h2 => ?_, fun t h1 h2 k hk => ?_⟩
    · simp (disch := omega) only [row_s, row_t]
      have e : k = 3 ∨ k = 4 := by omega
      rcases e with rfl | rfl
      all_goals simp (disch := omega) only [upd_n, upd_s]
    · have e : t = 676 ∨ t = 677 ∨ t = 678 := by omega
      rcases e with rfl | rfl | rfl
      all_goals
        simp (disch := omega) only [row_s, row_t]
        rw [if_pos hk]
theorem DR_cp (hc : dcp w w' a b) (hD : DR w b S f C N h) : DR w' a S f C N h := by
  obtain ⟨c1, c2, c3, c4, c5, c6⟩ := hc
  obtain ⟨hs, ⟨h1, h2, h3, h4, h5, h6⟩, h7, h8, h9⟩ := hD
  have hf : f ≤ 4 := hs.2.2.2.2.1
  have hC : C ≤ 8 := hs.2.2.2.2.2.1
  have hN : N ≤ 10 := hs.2.2.2.2.2.2.1
  have hh : h ≤ 6 := hs.2.2.2.2.2.2.2
  refine ⟨hs, ⟨?_, ?_, ?_, ?_, ?_, ?_⟩, fun c hc => ⟨?_, ?_, ?_, ?_⟩, fun n hn => ⟨?_, ?_⟩, fun k hk => ⟨?_, ?_, ?_⟩⟩
  · rw [c1 1 (by omega), h1]
  · rw [c1 2 (by omega), h2]
  · rw [c1 3 (by omega), h3]
  · rw [c1 4 (by omega), h4]
  · rw [c1 5 (by omega), h5]
  · rw [c1 6 (by omega), h6]
  · rw [c3 238 (by omega) (by omega) c (by omega), (h7 c hc).1]
  · rw [c3 239 (by omega) (by omega) c (by omega), (h7 c hc).2.1]
  · rw [c3 240 (by omega) (by omega) c (by omega), (h7 c hc).2.2.1]
  · rw [c3 241 (by omega) (by omega) c (by omega), (h7 c hc).2.2.2]
  · rw [c4 242 (by omega) (by omega) n (by omega), (h8 n hn).1]
  · rw [c4 243 (by omega) (by omega) n (by omega), (h8 n hn).2]
  · rw [c5 244 (by omega) (by omega) k (by omega), (h9 k hk).1]
  · rw [c5 245 (by omega) (by omega) k (by omega), (h9 k hk).2.1]
  · rw [c5 246 (by omega) (by omega) k (by omega), (h9 k hk).2.2]
theorem usd_22 {k : Nat} (hf : f ≤ 4) (hC : C ≤ 8) (hN : N ≤ 10) (hu : usd f C N k) : k < 22 := by
  unfold usd at hu
  omega
theorem nm_c {X X' : Nat → Int64} (hf : f ≤ 4) (hC : C ≤ 8) (hN : N ≤ 10) (hX : nmOK X Y f C N) (h1 : ∀ k, k < 22 → X' k = X k) (h2 : ∀ k, k < 22 → Y' k = Y k) : nmOK X' Y' f C N := by
  obtain ⟨x1, x2, x3⟩ := hX
  refine ⟨fun k hk => ?_, fun k hk hu => ?_, fun j k hj hk e => ?_⟩
  · rw [h1 k (usd_22 hf hC hN hk), h2 k (usd_22 hf hC hN hk)]
    exact x1 k hk
  · rw [h1 k hk]
    exact x2 k hk hu
  · rw [h1 j (usd_22 hf hC hN hj), h1 k (usd_22 hf hC hN hk)] at e
    exact x3 j k hj hk e
theorem DX_cp (hf : f ≤ 4) (hC : C ≤ 8) (hN : N ≤ 10) (hc : dcp w w' a b) (hX : DX w b S Y f C N) : DX w' a S Y f C N := by
  obtain ⟨x1, x2, x3⟩ := hX
  exact ⟨fun g hg => by rw [hc.2.1 g hg]; exact x1 g hg, by rw [hc.1 7 (by omega)]; exact x2, nm_c hf hC hN x3 hc.2.2.2.2.2 (fun _ _ => rfl)⟩
theorem SR_cp (hc : scp w w' a b) (hX : SR w b S N) : SR w' a S N := by
  obtain ⟨m, o, dep, x1, x2, x3, x4, x5, x6, x7, x8, x9, x10⟩ := hX
  refine ⟨m, o, dep, x1, x2, x3, x4, by rw [hc.1 3 (by omega) (by omega)]; exact x5, by rw [hc.1 4 (by omega) (by omega)]; exact x6, x7, x8, x9, fun i hi => ?_⟩
  rw [hc.2 676 (by omega) (by omega) i (by omega), hc.2 677 (by omega) (by omega) i (by omega), hc.2 678 (by omega) (by omega) i (by omega)]
  exact x10 i hi
/-! another S that says the same -/
theorem LR_s (hC : C ≤ 8) (hN : N ≤ 10) (hf : f ≤ 4) (hL : LR w ln S f C N) (hS : ∀ k, k < 332 → S' k = S k) : LR w ln S' f C N := by
  obtain ⟨⟨⟨⟨a1, a2, a3⟩, a4⟩, a5, a6, a7, a8⟩, a9, a10, a11⟩ := hL
  have kk : ∀ c n, c < C → n < N → (kn S' c n ↔ kn S c n) := fun c n hc hn => kn_c (hS 76 (by omega)) (hS (29 + c) (by omega)) (hS _ (by omega))
  refine ⟨⟨⟨⟨?_, ?_, ?_⟩, fun c hc => ?_⟩, ?_, fun c hc => ?_, fun c hc => ?_, fun c n hc hn q => ?_⟩, fun c hc => ?_, fun g hg => ?_, fun d hd e g t hg ht h3 => ?_⟩
  · rw [hS 76 (by omega)]; exact a1
  · rw [hS 77 (by omega)]; exact a2
  · rw [hS 78 (by omega)]; exact a3
  · rw [hS (100 + c) (by omega), hS (108 + c) (by omega), hS (116 + c) (by omega), hS (124 + c) (by omega)]
    exact a4 c hc
  · rw [hS 99 (by omega)]; exact a5
  · rw [hS (79 + c) (by omega)]; exact a6 c hc
  · rw [kns_c hN (fun n hn => kk c n hc hn)]; exact a7 c hc
  · rw [hS (132 + 10 * c + n) (by omega)]
    exact a8 c n hc hn ((kk c n hc hn).mp q)
  · rw [hS (87 + c) (by omega)]; exact a9 c hc
  · rw [hS (95 + g) (by omega)]; exact a10 g hg
  · rw [hS 76 (by omega)] at e
    rw [hS (212 + 30 * g + t) (by omega)]
    exact a11 d hd e g t hg ht h3
theorem SR_s (hX : SR w sn S N) (hS : ∀ k, 332 ≤ k → k < 513 → S' k = S k) : SR w sn S' N := by
  obtain ⟨m, o, dep, x1, x2, x3, x4, x5, x6, x7, x8, x9, x10⟩ := hX
  refine ⟨m, o, dep, x1, x2, x3, by rw [hS 332 (by omega) (by omega)]; exact x4, x5, x6, x7, x8, x9, fun i hi => ?_⟩
  rw [hS (333 + 3 * i) (by omega) (by omega), hS (334 + 3 * i) (by omega) (by omega), hS (335 + 3 * i) (by omega) (by omega)]
  exact x10 i hi
theorem lok_s (hC : C ≤ 8) (hN : N ≤ 10) (hl : lok S C N d) (hS : ∀ k, k < 332 → S' k = S k) : lok S' C N d := by
  obtain ⟨a1, a2, a3, a4⟩ := hl
  exact ⟨by rw [hS 76 (by omega)]; exact a1, a2, fun c n hc hn => by rw [hS (132 + 10 * c + n) (by omega)]; exact a3 c n hc hn, fun c hc => by
    obtain ⟨k, ⟨k1, k3⟩, k2⟩ := a4 c hc
    refine ⟨k, ⟨k1, fun i hi q => ?_⟩, by rw [hS (100 + c) (by omega)]; exact k2⟩
    rw [hS (108 + c) (by omega)] at q
    rw [hS (100 + c) (by omega)]
    exact k3 i hi q⟩
theorem ST_s (hX : ST w dn ln sn S Y f C N h d) (hS : ∀ k, k < 513 → S' k = S k) (hY : ∀ k, k < 22 → Y' k = Y k) : ST w dn ln sn S' Y' f C N h d := by
  obtain ⟨x1, x2, x3, x4, x5, x6⟩ := hX
  have hf : f ≤ 4 := x3.1.2.2.2.2.1
  have hC : C ≤ 8 := x3.1.2.2.2.2.2.1
  have hN : N ≤ 10 := x3.1.2.2.2.2.2.2.1
  have d4 := DX_c (S' := S') x4 hC hN (fun k hk => hS k (by omega))
  exact ⟨dok_c x1 (fun k hk => hS k (by omega)), lok_s hC hN x2 (fun k hk => hS k (by omega)), DR_eq x3 (fun _ _ => rfl) (fun k hk => hS k (by omega)), ⟨d4.1, d4.2.1, nm_c hf hC hN d4.2.2 (fun _ _ => rfl) hY⟩, LR_s hC hN hf x5 (fun k hk => hS k (by omega)), SR_s x6 (fun k _ hk => hS k hk)⟩
/-- dairy, Life and sentence copied -/
theorem ST_cp3 {w1 w2 w3 : nc_H} {dn' ln' sn' : Nat} (hX : ST w dn ln sn S Y f C N h d) (d1 : ∀ t a, ¬ dC dn' t a → w1.1 t a = w.1 t a) (d2 : ∀ t a, ¬ (t = 236 ∧ a = dn') → w1.2 t a = w.2 t a) (d3 : dcp w w1 dn' dn) (l1 : eqO (lC ln') w1 w2) (l2 : cpd w1 w2 ln' ln) (s1 : eqO (sC sn') w2 w3) (s2 : scp w2 w3 sn' sn) : ST w3 dn' ln' sn' S Y f C N h d := by
  obtain ⟨x1, x2, x3, x4, x5, x6⟩ := hX
  have hf : f ≤ 4 := x3.1.2.2.2.2.1
  have hC : C ≤ 8 := x3.1.2.2.2.2.2.1
  have hN : N ≤ 10 := x3.1.2.2.2.2.2.2.1
  have D1 := DR_cp d3 x3
  have X1 := DX_cp hf hC hN d3 x4
  have r3 : ∀ t a, t = 2 ∨ (236 ≤ t ∧ t ≤ 246) → w3.1 t a = w1.1 t a := fun t a ht => (s1.2 t a (by unfold sC; omega)).trans (l1.2 t a (by unfold lC; omega))
  have L1 : LR w1 ln S f C N := LR_eq x5 (fun t ht => d1 t ln (by unfold dC; omega))
  have L2 := LR_cp hf hC hN l2 L1
  have S2 : SR w2 sn S N := SR_eq x6 ((l1.2 9 sn (by unfold lC; omega)).trans (d1 9 sn (by unfold dC; omega))) ((l1.2 676 sn (by unfold lC; omega)).trans (d1 676 sn (by unfold dC; omega))) ((l1.2 677 sn (by unfold lC; omega)).trans (d1 677 sn (by unfold dC; omega))) ((l1.2 678 sn (by unfold lC; omega)).trans (d1 678 sn (by unfold dC; omega)))
  refine ⟨x1, x2, DR_eq D1 (fun t ht => r3 t dn' (by omega)) (fun _ _ => rfl), DX_eq X1 (r3 237 dn' (by omega)) (r3 2 dn' (by omega)) (by rw [s1.1, l1.1]), LR_eq L2 (fun t ht => s1.2 t ln' (by unfold sC; omega)), SR_cp s2 S2⟩
theorem Inv_sm (hI : Inv w) (hN : ∃ f C N h d, NW w' f C N h d) (hM : IM w') (e : ∀ t, t = 0 ∨ t = 1 ∨ t = 8 ∨ t = 10 ∨ t = 11 ∨ t = 616 ∨ t = 740 ∨ t = 869 ∨ t = 895 ∨ t = 905 → w'.1 t 0 = w.1 t 0) (k : ∀ j, k12 j → w'.1 12 0 j = w.1 12 0 j) (e2 : ∀ t, t = 742 ∨ t = 878 → w'.2 t 0 = w.2 t 0) : Inv w' := by
  obtain ⟨a1, a2, a3, a4, a5, a6, a7, a8⟩ := hI
  exact ⟨hN, hM, CH_eq a3 (fun j hj => k j (by unfold k12; omega)) (e 1 (by omega)), PL_eq a4 (k 28 (by unfold k12; omega)) (e 8 (by omega)) (e 616 (by omega)) (e 895 (by omega)), PT_eq a5 (fun j hj => k j (by unfold k12; omega)) (e 11 (by omega)), TP_eq a6 (fun j hj => k j (by unfold k12; omega)) (e 10 (by omega)) (e 740 (by omega)) (e 869 (by omega)), BK_eq a7 (k 38 (by unfold k12; omega)) (e 0 (by omega)) (e 905 (by omega)), TW_eq a8 (e2 742 (by omega)) (e2 878 (by omega))⟩
end IG
