/-! A dairy from its start, of both. -/
section DY
variable {w w' v v' : nc_H} {b : Nat → Nat} {sz : Nat}
/-- what the model's whole reading of a dairy leaves -/
def mQ (v v' : nc_H) : Prop := (∀ t a, ¬ (a = 0 ∧ (t = 12 ∨ t = 875 ∨ t = 877)) → v'.1 t a = v.1 t a ∧ v'.2 t a = v.2 t a) ∧ (∀ k, ¬ (k = 0 ∨ (2 ≤ k ∧ k ≤ 5) ∨ (11 ≤ k ∧ k ≤ 16) ∨ (18 ≤ k ∧ k ≤ 20)) → v'.1 12 0 k = v.1 12 0 k) ∧ (∀ k, k ≠ 17 → v'.2 12 0 k = v.2 12 0 k) ∧ (∀ k, k < 22 → v'.2 877 0 k = v.2 877 0 k) ∧ v'.1 12 0 2 = 0
theorem mR.mQ {v1 : nc_H} (h : mR v v') (h1 : ∀ t a, ¬ (a = 0 ∧ (t = 12 ∨ t = 875)) → v.1 t a = v1.1 t a) (h2 : v.2 = v1.2) (h3 : ∀ k, ¬ (k = 0 ∨ (2 ≤ k ∧ k ≤ 5) ∨ (11 ≤ k ∧ k ≤ 16) ∨ (18 ≤ k ∧ k ≤ 20)) → v.1 12 0 k = v1.1 12 0 k) (h4 : v.1 12 0 2 = 0) : mQ v1 v' := by
  obtain ⟨g1, g2, g3, g4⟩ := h
  refine ⟨fun t a q => ⟨(g1 t a q).1.trans (h1 t a (by omega)), (g1 t a q).2.trans (by rw [h2])⟩, fun k q => (g2 k (by omega)).trans (h3 k q), fun k q => (g3 k q).trans (by rw [h2]), fun k q => (g4 k q).trans (by rw [h2]), (g2 2 (by omega)).trans h4⟩
theorem sm_29 : nc_Run m_X12_dairy 29 [some mO, some (.inl (nI 0))] [] v = nc_Run m_X12_dairy 29 [some mO, some (.inl (nI 76))] [] (row v 875 0 (fun j => if j < 76 then 0 else v.1 875 0 j)) := by
  have key := it_loop (R := fun i (_ : Unit) => nc_Run m_X12_dairy 29 [some mO, some (.inl (nI i))] [] (row v 875 0 (fun j => if j < i then 0 else v.1 875 0 j))) (st := fun _ a => a) (I := fun _ _ => True) (n := 76) (out := fun _ => nc_Run m_X12_dairy 29 [some mO, some (.inl (nI 76))] [] (row v 875 0 (fun j => if j < 76 then 0 else v.1 875 0 j))) ?_ ?_ 76 0 () (by omega) trivial
  · have e0 : row v 875 0 (fun j => if j < 0 then 0 else v.1 875 0 j) = v := by
      rw [row_c (g' := v.1 875 0) (fun j => if_neg (by omega)), row_id]
    have k2 : nc_Run m_X12_dairy 29 [some mO, some (.inl (nI 0))] [] (row v 875 0 (fun j => if j < 0 then 0 else v.1 875 0 j)) = _ := key
    rw [e0] at k2
    exact k2
  · intro i _ hi _
    refine ⟨?_, trivial⟩
    show nc_Run m_X12_dairy 29 _ _ _ = nc_Run m_X12_dairy 29 _ _ _
    rw [qr_X12_dairy_29, if_neg (show ¬ (76 : Int32) ≤ nI i from nI_ge hi (by decide)), bd8 i 76 (by omega) (by decide), nc_lt_v, nc_li_v, nI_1, si_rw, row_s, row_r]
    rw [row_c (w := v) (t := 875) (a := 0) (g' := fun j => if j < i + 1 then 0 else v.1 875 0 j) (fun j => ?_)]
    by_cases e : j = i
    · subst e
      rw [upd_s, if_pos (by omega)]
    · rw [upd_n e]
      by_cases q : j < i
      · rw [if_pos q, if_pos (by omega)]
      · rw [if_neg q, if_neg (by omega)]
  · intro _ _
    rfl
/-- the heap of the model as the first TOKEN is read -/
def mB (v : nc_H) (sz : Nat) (v1 : nc_H) : Prop := (∀ t a, ¬ (a = 0 ∧ (t = 12 ∨ t = 875)) → v1.1 t a = v.1 t a) ∧ v1.2 = v.2 ∧ (∀ k, ¬ (k = 0 ∨ (2 ≤ k ∧ k ≤ 5) ∨ (11 ≤ k ∧ k ≤ 16) ∨ (18 ≤ k ∧ k ≤ 20)) → v1.1 12 0 k = v.1 12 0 k) ∧ v1.1 12 0 2 = 0 ∧ v1.1 12 0 3 = nI sz ∧ v1.1 12 0 4 = nI 0 ∧ v1.1 12 0 5 = nI 900 ∧ v1.1 12 0 15 = 0 ∧ v1.1 12 0 19 = 0 ∧ v1.1 12 0 20 = 0 ∧ ∀ j, j < 76 → v1.1 875 0 j = if j = 4 then 3 else 0
theorem sm_dairy0 (hz : v.1 12 0 2 = nI sz) : ∃ v1, nc_Call m_X12_dairy [mO] v = nc_bV (nc_Call m_X12_next [mO] v1) (fun w2 => nc_Run m_X12_dairy 59 [some mO, none] [] w2) ∧ mB v sz v1 := by
  rw [qc_X12_dairy, nc_lt_v, qc_X12_taken]
  simp only [nc_lt_v, nc_bV_v, si_rw, row_s, row_r]
  generalize hF : upd (upd (upd (upd (upd (upd (upd (upd (v.1 12 0) 0 0) 3 (upd (v.1 12 0) 0 0 2)) 2 0) 4 0) 5 900) 15 0) 19 0) 20 0 = F
  have hF' : ∀ k, ¬ (k = 0 ∨ (2 ≤ k ∧ k ≤ 5) ∨ (11 ≤ k ∧ k ≤ 16) ∨ (18 ≤ k ∧ k ≤ 20)) → F k = v.1 12 0 k := fun k q => by
    rw [← hF, upd_n (by omega), upd_n (by omega), upd_n (by omega), upd_n (by omega), upd_n (by omega), upd_n (by omega), upd_n (by omega), upd_n (by omega)]
  have e := sm_29 (v := row v 12 0 F)
  have e' : nc_Run m_X12_dairy 29 [some mO, some (.inl 0)] [] (row v 12 0 F) = _ := e
  rw [e', qr_X12_dairy_29, if_pos (by decide +kernel), nc_lt_v, si_rw, row_s, row_r]
  refine ⟨_, rfl, fun t a q => by rw [row_n (by omega), row_n (by omega)], rfl, fun k q => by rw [row_t (by decide), row_s, hF' k q], ?_, ?_, ?_, ?_, ?_, ?_, ?_, fun j hj => ?_⟩
  · rw [row_t (by decide), row_s, ← hF]; rfl
  · rw [row_t (by decide), row_s, ← hF]; exact hz
  · rw [row_t (by decide), row_s, ← hF]; rfl
  · rw [row_t (by decide), row_s, ← hF]; rfl
  · rw [row_t (by decide), row_s, ← hF]; rfl
  · rw [row_t (by decide), row_s, ← hF]; rfl
  · rw [row_t (by decide), row_s, ← hF]; rfl
  · rw [row_s]
    by_cases q : j = 4
    · rw [if_pos q, q, upd_s]
    · rw [if_neg q, upd_n q, if_pos hj]
theorem DD_0 (h2 : ∀ j, j < 8 → w.1 2 1 j = if j = 5 then 3 else 0) (h6 : ∀ k, k < 22 → w.2 236 1 k = 0) (h7 : ∀ g, g < 4 → w.1 237 1 g = 0) (h3 : w.1 3 0 2 = 0) (hB : ∀ j, j < 76 → v.1 875 0 j = if j = 4 then 3 else 0) (h19 : v.1 12 0 19 = 0) (h20 : v.1 12 0 20 = 0) : DD w v 0 0 0 0 := by
  have b4 : v.1 875 0 4 = 3 := hB 4 (by decide)
  have bn : ∀ j, j < 76 → j ≠ 4 → v.1 875 0 j = 0 := fun j h1 h2 => by rw [hB j h1, if_neg h2]
  have z : ∀ k, ¬ usd 0 0 0 k := fun k q => by unfold usd at q; omega
  have s : shp (v.1 875 0) 0 0 0 0 := ⟨bn 0 (by decide) (by decide), bn 1 (by decide) (by decide), bn 2 (by decide) (by decide), bn 3 (by decide) (by decide), by decide, by decide, by decide, by decide⟩
  refine ⟨⟨s, ⟨h2 1 (by decide), h2 2 (by decide), h2 3 (by decide), h2 4 (by decide), ?_, ?_⟩, fun c hc => absurd hc (Nat.not_lt_zero c), fun c hc => absurd hc (Nat.not_lt_zero c), fun c hc => absurd hc (Nat.not_lt_zero c)⟩, ⟨fun g hg => h7 g hg, h2 7 (by decide), fun k hk => absurd hk (z k), fun k hk _ => h6 k hk, fun j k hj => absurd hj (z j)⟩, ⟨s, fun c hc => absurd hc (Nat.not_lt_zero c), fun c hc => absurd hc (Nat.not_lt_zero c), fun c hc => absurd hc (Nat.not_lt_zero c), fun c hc => absurd hc (Nat.not_lt_zero c), fun c hc => absurd hc (Nat.not_lt_zero c), fun c hc => absurd hc (Nat.not_lt_zero c), ⟨0, by decide, bn 57 (by decide) (by decide)⟩, ⟨3, by decide, by decide, b4⟩⟩, ⟨0, by decide, rfl, fun x _ y _ _ q => absurd q (by rw [Nat.zero_div]; decide)⟩, ⟨by rw [h3, h20], Or.inl h20⟩, by rw [h2 0 (by decide), h19]; rfl⟩
  · rw [h2 5 (by decide), b4]; rfl
  · rw [h2 6 (by decide), bn 57 (by decide) (by decide)]; rfl
/-- both read a dairy -/
theorem jd_read (hB : CB w b sz) (hT : TW w) (hz : v.1 12 0 2 = nI sz) (hb : ∀ k, k < 940 → v.1 869 0 k &&& 255 = nI (b k)) (hV : TW v) : ∃ r w' v', nc_Call m_X3_read [.inr (.inr (3, 0))] w = some (some (.inl r), w') ∧ cR w w' ∧ mQ v v' ∧ ((r = 0 ∧ FQ w' v' ∧ nc_Call m_X12_dairy [mO] v = some (some (.inl (-1 - v'.1 12 0 16)), v')) ∨ (r = 1 ∧ nc_Call m_X12_dairy [mO] v = nc_Run m_X12_dairy 104 [some mO, some (.inl 0)] [] v' ∧ FQ0 w' v' ∧ ∃ f C N h, DD w' v' f C N h)) := by
  obtain ⟨v1, m1, n1, n2, n3, n4, n5, n6, n7, n8, n9, n10, n11⟩ := sm_dairy0 hz
  obtain ⟨w1, a1, a2, a3, a4, a5⟩ := sd_clear1 (w := w)
  have B2 : CB (nc_si w1 3 0 2 0) b sz := by
    refine ⟨?_, hB.2.1, fun k hk => ⟨(hB.2.2 k hk).1, ?_⟩⟩
    · rw [si_t (by decide), (a2 10 0 (by omega)).1]
      exact hB.1
    · rw [si_t (by decide), (a2 740 0 (by omega)).1]
      exact (hB.2.2 k hk).2
  have T2 : TW (nc_si w1 3 0 2 0) := TW_z hT (a2 742 0 (by omega)).2 (a2 878 0 (by omega)).2
  obtain ⟨w3, n, c1, c2, c3, c4, c5, c6, c7⟩ := sa_start B2 T2 (Nat.le_refl 900)
  have MS1 : MS v1 b sz 900 := ⟨n5, n7, hB.2.1, ⟨Nat.le_refl _, n8⟩, fun k hk => ⟨(hB.2.2 k hk).1, by rw [n1 869 0 (by omega)]; exact hb k hk⟩⟩
  obtain ⟨v2, d1, d2, d3⟩ := sm_next MS1 n6 (Nat.zero_le _)
  have TV1 : TW v1 := TW_z hV (by rw [n2]) (by rw [n2])
  have J : Jt w3 v2 b sz 900 n 0 := ⟨c3, ⟨by rw [c4, Nat.zero_min]; rfl, fun q => absurd q (by decide)⟩, MS_mN MS1 d2, d3, TW_cN T2 c2, TW_mN TV1 d2⟩
  have D1 : DD w3 v1 0 0 0 0 := by
    refine DD_0 (fun j hj => ?_) (fun k hk => ?_) (fun g hg => ?_) ?_ n11 n9 n10
    · rw [c2.1 2 1 (by omega), si_t (by decide)]
      exact a3 j hj
    · rw [c2.2.1 236 1 (by omega)]
      exact a4 k hk
    · rw [c2.1 237 1 (by omega), si_t (by decide)]
      exact a5 g hg
    · rw [c2.1 3 0 (by omega), si_s]
  obtain ⟨r, w4, v4, e1, e2, e3, e4⟩ := ln_loop n 0 0 w3 v2 0 0 0 0 (by omega) J (DD_F D1 cF.rf d2.mF) (Nat.le_refl _) (by omega)
  have cc : cR w w3 := by
    intro t a q r
    refine ⟨?_, ?_⟩
    · rw [c2.1 t a (by omega)]
      by_cases e : t = 3
      · subst e
        rw [si_a (by omega)]
        exact (a2 3 a (by omega)).1
      · rw [si_t e]
        exact (a2 t a (by omega)).1
    · rw [c2.2.1 t a (by omega)]
      exact (a2 t a (by omega)).2
  have mq : mQ v v4 := by
    refine (d2.mF.mR.tr e3).mQ n1 n2 n3 n4
  refine ⟨r, w4, v4, ?_, cc.tr e2, mq, ?_⟩
  · rw [qc_X3_read, a1, nc_bV_v, nc_lt_v, show (900 : Int32) = nI 900 from rfl, c1, nc_bV_v]
    exact e1
  · rw [m1, d1, nc_bV_v]
    exact e4
end DY
