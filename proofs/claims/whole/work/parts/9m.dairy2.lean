/-! dairy. -/
section DZ
variable {w w' v v' : nc_H} {b : Nat → Nat} {sz f C N h d : Nat} {S : Nat → Int32}
theorem sm_104 : nc_Run m_X12_dairy 104 [some mO, some (.inl (nI 0))] [] v = nc_Run m_X12_dairy 141 [some mO, some (.inl (nI 0))] [] (row v 874 0 (fun j => if j < 513 then (if j < 76 then v.1 875 0 j else 0) else v.1 874 0 j)) := by
  have key := it_loop (R := fun i (_ : Unit) => nc_Run m_X12_dairy 104 [some mO, some (.inl (nI i))] [] (row v 874 0 (fun j => if j < i then (if j < 76 then v.1 875 0 j else 0) else v.1 874 0 j))) (st := fun _ a => a) (I := fun _ _ => True) (n := 513) (out := fun _ => nc_Run m_X12_dairy 141 [some mO, some (.inl (nI 0))] [] (row v 874 0 (fun j => if j < 513 then (if j < 76 then v.1 875 0 j else 0) else v.1 874 0 j))) ?_ ?_ 513 0 () (by omega) trivial
  · have e0 : row v 874 0 (fun j => if j < 0 then (if j < 76 then v.1 875 0 j else 0) else v.1 874 0 j) = v := by
      rw [row_c (g' := v.1 874 0) (fun j => if_neg (by omega)), row_id]
    have k2 : nc_Run m_X12_dairy 104 [some mO, some (.inl (nI 0))] [] (row v 874 0 (fun j => if j < 0 then (if j < 76 then v.1 875 0 j else 0) else v.1 874 0 j)) = _ := key
    rw [e0] at k2
    exact k2
  · intro i _ hi _
    refine ⟨?_, trivial⟩
    show nc_Run m_X12_dairy 104 _ _ _ = nc_Run m_X12_dairy 104 _ _ _
    rw [qr_X12_dairy_104, if_neg (show ¬ (513 : Int32) ≤ nI i from nI_ge hi (by decide))]
    by_cases c : i < 76
    · rw [if_neg (show ¬ (76 : Int32) ≤ nI i from nI_ge c (by decide)), bd8 i 76 (by omega) (by decide), bd8 i 513 (by omega) (by decide), nc_lt_v, nc_li_v, nI_1, si_rw, row_s, row_r, row_t (by decide)]
      rw [row_c (w := v) (t := 874) (a := 0) (g' := fun j => if j < i + 1 then (if j < 76 then v.1 875 0 j else 0) else v.1 874 0 j) (fun j => ?_)]
      by_cases e : j = i
      · subst e
        rw [upd_s, if_pos (by omega), if_pos c]
      · rw [upd_n e]
        by_cases q : j < i
        · rw [if_pos q, if_pos (show j < i + 1 by omega)]
        · rw [if_neg q, if_neg (show ¬ j < i + 1 by omega)]
    · rw [if_pos (show (76 : Int32) ≤ nI i from nI_le (a := 76) (by omega) (by omega)), bd8 i 513 (by omega) (by decide), nc_lt_v, nc_li_v, nI_1, si_rw, row_s, row_r]
      rw [row_c (w := v) (t := 874) (a := 0) (g' := fun j => if j < i + 1 then (if j < 76 then v.1 875 0 j else 0) else v.1 874 0 j) (fun j => ?_)]
      by_cases e : j = i
      · subst e
        rw [upd_s, if_pos (by omega), if_neg c]
      · rw [upd_n e]
        by_cases q : j < i
        · rw [if_pos q, if_pos (show j < i + 1 by omega)]
        · rw [if_neg q, if_neg (show ¬ j < i + 1 by omega)]
  · intro _ _
    show nc_Run m_X12_dairy 104 _ _ _ = _
    rw [qr_X12_dairy_104, if_pos (by decide +kernel)]
    rfl
theorem sm_141 : nc_Run m_X12_dairy 141 [some mO, some (.inl (nI 0))] [] v = some (some (.inl (v.1 12 0 19)), row (rol v 877 0 (fun j => if j < 22 then v.2 877 0 (22 + j) else v.2 877 0 j)) 12 0 (upd (v.1 12 0) 24 0)) := by
  have key := it_loop (R := fun i (_ : Unit) => nc_Run m_X12_dairy 141 [some mO, some (.inl (nI i))] [] (rol v 877 0 (fun j => if j < i then v.2 877 0 (22 + j) else v.2 877 0 j))) (st := fun _ a => a) (I := fun _ _ => True) (n := 22) (out := fun _ => some (some (.inl (v.1 12 0 19)), row (rol v 877 0 (fun j => if j < 22 then v.2 877 0 (22 + j) else v.2 877 0 j)) 12 0 (upd (v.1 12 0) 24 0))) ?_ ?_ 22 0 () (by omega) trivial
  · have e0 : rol v 877 0 (fun j => if j < 0 then v.2 877 0 (22 + j) else v.2 877 0 j) = v := by
      rw [rol_c (g' := v.2 877 0) (fun j => if_neg (by omega)), rol_id]
    have k2 : nc_Run m_X12_dairy 141 [some mO, some (.inl (nI 0))] [] (rol v 877 0 (fun j => if j < 0 then v.2 877 0 (22 + j) else v.2 877 0 j)) = _ := key
    rw [e0] at k2
    exact k2
  · intro i _ hi _
    refine ⟨?_, trivial⟩
    show nc_Run m_X12_dairy 141 _ _ _ = nc_Run m_X12_dairy 141 _ _ _
    have ix : (22 : Int32) + nI i = nI (22 + i) := by
      rw [show (22 : Int32) = nI 22 from rfl, nI_add]
    rw [qr_X12_dairy_141, if_neg (show ¬ (22 : Int32) ≤ nI i from nI_ge hi (by decide)), nc_bd_of _ ix (by omega) (by decide), bd8 i 44 (by omega) (by decide), nc_lt_v, nc_li_v, nI_1, sl_rw, rol_s, rol_r]
    rw [rol_c (w := v) (t := 877) (a := 0) (g' := fun j => if j < i + 1 then v.2 877 0 (22 + j) else v.2 877 0 j) (fun j => ?_)]
    by_cases e : j = i
    · subst e
      rw [updL_s, if_neg (by omega), if_pos (by omega)]
    · rw [updL_n e]
      by_cases q : j < i
      · rw [if_pos q, if_pos (show j < i + 1 by omega)]
      · rw [if_neg q, if_neg (show ¬ j < i + 1 by omega)]
  · intro _ _
    show nc_Run m_X12_dairy 141 _ _ _ = _
    rw [qr_X12_dairy_141, if_pos (by decide +kernel), nc_lt_v, si_rw, rol_1, row_s, upd_n (by decide)]
/-- a life that begins -/
def L0 (w : nc_H) : Prop := (∀ j, 1 ≤ j → j ≤ 4 → w.1 7 0 j = 0) ∧ (∀ c, c < 8 → w.1 554 0 c = 0 ∧ w.1 555 0 c = 0 ∧ w.1 556 0 c = 0 ∧ w.1 557 0 c = 0 ∧ w.1 558 0 c = -100 ∧ w.1 559 0 c = 0 ∧ w.1 560 0 c = 0) ∧ ∀ g, g < 4 → w.1 561 0 g = 0
theorem sl_clear : ∃ w', nc_Call m_X7_clear [.inr (.inr (7, 0))] w = some (none, w') ∧ eqO (lC 0) w w' ∧ L0 w' := by
  rw [qc_X7_clear]
  simp only [nc_lt_v, si_rw, row_s, row_r]
  generalize hF : upd (upd (upd (upd (w.1 7 0) 1 0) 2 0) 3 0) 4 0 = F
  rw [s_fill (t := 554) (n := 8) (by decide) (by decide) (by decide) 0, nc_bV_v, s_fill (t := 555) (n := 8) (by decide) (by decide) (by decide) 0, nc_bV_v, s_fill (t := 556) (n := 8) (by decide) (by decide) (by decide) 0, nc_bV_v, s_fill (t := 557) (n := 8) (by decide) (by decide) (by decide) 0, nc_bV_v, s_fill (t := 558) (n := 8) (by decide) (by decide) (by decide) (-100), nc_bV_v, s_fill (t := 559) (n := 8) (by decide) (by decide) (by decide) 0, nc_bV_v, s_fill (t := 560) (n := 8) (by decide) (by decide) (by decide) 0, nc_bV_v, s_fill (t := 561) (n := 4) (by decide) (by decide) (by decide) 0, nc_bV_v]
  refine ⟨_, rfl, ?_, fun j h1 h4 => ?_, fun c hc => ⟨?_, ?_, ?_, ?_, ?_, ?_, ?_⟩, fun g hg => ?_⟩
  · have P : ∀ t, t = 7 ∨ (553 ≤ t ∧ t ≤ 562) → lC 0 t 0 := fun t ht => ⟨rfl, ht⟩
    exact ((((((((eqO.rf.row (P 7 (by omega))).row (P 554 (by omega))).row (P 555 (by omega))).row (P 556 (by omega))).row (P 557 (by omega))).row (P 558 (by omega))).row (P 559 (by omega))).row (P 560 (by omega))).row (P 561 (by omega))
  · simp (disch := decide) only [row_t, row_s]
    rw [← hF]
    have : j = 1 ∨ j = 2 ∨ j = 3 ∨ j = 4 := by omega
    rcases this with rfl | rfl | rfl | rfl <;> rfl
  · simp (disch := decide) only [row_t, row_s]
    rw [if_pos hc]
  · simp (disch := decide) only [row_t, row_s]
    rw [if_pos hc]
  · simp (disch := decide) only [row_t, row_s]
    rw [if_pos hc]
  · simp (disch := decide) only [row_t, row_s]
    rw [if_pos hc]
  · simp (disch := decide) only [row_t, row_s]
    rw [if_pos hc]
  · simp (disch := decide) only [row_t, row_s]
    rw [if_pos hc]
  · simp (disch := decide) only [row_t, row_s]
    rw [if_pos hc]
  · simp (disch := decide) only [row_t, row_s]
    rw [if_pos hg]
theorem LR_0 (hN : N ≤ 10) (hC : C ≤ 8) (hL : L0 w) (hS : ∀ k, 76 ≤ k → k < 513 → S k = 0) : LR w 0 S f C N := by
  obtain ⟨l1, l2, l3⟩ := hL
  have nk : ∀ c n, c < C → n < N → ¬ kn S c n := fun c n hc hn q => q.1 (by rw [hS (132 + 10 * c + n) (by omega) (by omega)]; exact Int32.le_refl _)
  refine ⟨⟨⟨⟨?_, ?_, ?_⟩, fun c hc => ⟨?_, ?_, ?_, ?_⟩⟩, ?_, fun c hc => ?_, fun c hc => ?_, fun c n hc hn q => absurd q (nk c n hc hn)⟩, fun c hc => ?_, fun g hg => ?_, fun d hd e g t _ _ ht => ?_⟩
  · rw [l1 1 (by omega) (by omega), hS 76 (by omega) (by omega)]
  · rw [l1 3 (by omega) (by omega), hS 77 (by omega) (by omega)]
  · rw [l1 4 (by omega) (by omega), hS 78 (by omega) (by omega)]
  · rw [(l2 c hc).2.1, hS _ (by omega) (by omega)]
  · rw [(l2 c hc).2.2.1, hS _ (by omega) (by omega)]
  · rw [(l2 c hc).2.2.2.1, hS _ (by omega) (by omega)]
  · rw [(l2 c hc).2.2.2.2.1, hS _ (by omega) (by omega)]
    rfl
  · rw [l1 2 (by omega) (by omega), hS 99 (by omega) (by omega)]
  · rw [(l2 c hc).2.2.2.2.2.1, hS _ (by omega) (by omega)]
  · rw [(l2 c (by omega)).1]
    have : kns S N c = kns (fun _ => 0) N c := kns_c hN (fun n hn => ⟨fun q => absurd q (nk c n hc hn), fun q => absurd (Int32.le_refl 0) q.1⟩)
    rw [this]
    exact ((by decide +kernel : ∀ N, N ≤ 10 → ∀ c, c < 8 → kns (fun _ => 0) N c = 0) N hN c (by omega)).symm
  · rw [(l2 c hc).2.2.2.2.2.2, hS _ (by omega) (by omega)]
  · rw [l3 g hg, hS _ (by omega) (by omega)]
  · rw [hS 76 (by omega) (by omega)] at e
    have := (nI_eq (a := 0) (b := d) (by omega) (by omega)).mp e
    omega
theorem lok_0 (hC : C ≤ 8) (hN : N ≤ 10) (hS : ∀ k, 76 ≤ k → k < 513 → S k = 0) : lok S C N 0 := by
  refine ⟨hS 76 (by omega) (by omega), by omega, fun c n hc hn => ⟨0, by omega, hS _ (by omega) (by omega)⟩, fun c hc => ⟨0, ⟨Nat.pos_of_ne_zero (by have := Nat.pow_pos (n := N) (show 0 < 2 by decide); omega), fun n hn q => ?_⟩, hS _ (by omega) (by omega)⟩⟩
  rw [hS (108 + c) (by omega) (by omega)] at q
  rw [hS (100 + c) (by omega) (by omega)]
  exact q
theorem SR_0 (h3 : w.1 9 0 3 = 0) (h4 : w.1 9 0 4 = 0) (hS : S 332 = 0) : SR w 0 S N := ⟨0, 0, fun _ => 0, by omega, by omega, ⟨fun _ => rfl, fun _ => rfl⟩, hS, h3, h4, rfl, fun q => absurd rfl q, fun _ _ => Nat.zero_le 20, fun i hi => absurd hi (Nat.not_lt_zero i)⟩
end DZ
