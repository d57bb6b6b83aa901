/-! dairy: the call. -/
section DQ
variable {w w' v v' : nc_H}
theorem Inv_mk (hI : Inv w) (hN : ∃ f C N h d, NW v f C N h d) (hM : IM v) (e : ∀ t, t = 0 ∨ t = 1 ∨ t = 8 ∨ t = 11 ∨ t = 616 ∨ t = 895 ∨ t = 905 → v.1 t 0 = w.1 t 0) (k : ∀ j, j = 25 ∨ j = 26 ∨ j = 28 ∨ j = 29 ∨ j = 30 ∨ j = 31 ∨ j = 32 ∨ j = 33 ∨ j = 38 → v.1 12 0 j = w.1 12 0 j) (e2 : ∀ t, t = 742 ∨ t = 878 → v.2 t 0 = w.2 t 0) (hT : TP v) : Inv v := by
  obtain ⟨a1, a2, a3, a4, a5, a6, a7, a8⟩ := hI
  exact ⟨hN, hM, CH_eq a3 (fun j hj => k j (by omega)) (e 1 (by omega)), PL_eq a4 (k 28 (by omega)) (e 8 (by omega)) (e 616 (by omega)) (e 895 (by omega)), PT_eq a5 (fun j hj => k j (by omega)) (e 11 (by omega)), hT, BK_eq a7 (k 38 (by omega)) (e 0 (by omega)) (e 905 (by omega)), TW_eq a8 (e2 742 (by omega)) (e2 878 (by omega))⟩
theorem IM_tx (hM : IM w) (r : ∀ t a, rI t a → (a ≠ 0 ∨ 914 ≤ t ∨ t = 6) → v.1 t a = w.1 t a) (h2 : ∀ a, a = 2 ∨ a = 3 → v.2 236 a = w.2 236 a) (h3 : v.2 915 0 = w.2 915 0) : IM v :=
  IM_eq hM (fun k hk => r 6 k (by unfold rI sD sL sS sM; omega) (by omega)) (r 914 0 (by unfold rI sD sL sS sM; omega) (by omega)) h3 (r 916 0 (by unfold rI sD sL sS sM; omega) (by omega)) (fun t a ht ha => r t a (by unfold rI sD sL sS sM; omega) (by omega)) h2 (fun t a ht ha => r t a (by unfold rI sD sL sS sM; omega) (by omega)) (fun t a ht ha => r t a (by unfold rI sD sL sS sM; omega) (by omega))
/-- a text was read, and nothing came of it -/
theorem Inv_txt (hI : Inv w) (h1 : ∀ t a, rI t a ∨ rJ t a → t ≠ 877 → v.1 t a = w.1 t a) (h2 : ∀ a, a = 0 ∨ a = 2 ∨ a = 3 → v.2 236 a = w.2 236 a) (h4 : ∀ t, t = 742 ∨ t = 878 ∨ t = 915 → v.2 t 0 = w.2 t 0) (h22 : ∀ k, k < 22 → v.2 877 0 k = w.2 877 0 k) (h3 : ∀ k, k = 24 ∨ k = 25 ∨ k = 26 ∨ k = 28 ∨ k = 29 ∨ k = 30 ∨ k = 31 ∨ k = 32 ∨ k = 33 ∨ k = 38 → v.1 12 0 k = w.1 12 0 k) (hT : TP v) : Inv v := by
  have r : ∀ t a, rI t a → t ≠ 877 → v.1 t a = w.1 t a := fun t a q => h1 t a (Or.inl q)
  have m : ∀ t, t = 5 ∨ t = 874 ∨ t = 890 → v.1 t 0 = w.1 t 0 := fun t ht => r t 0 (by unfold rI sD sL sS sM; omega) (by omega)
  have hI0 := hI
  obtain ⟨⟨f, C, N, h, d, X, H⟩, a2, -⟩ := hI
  refine Inv_mk hI0 ⟨f, C, N, h, d, ?_, ?_⟩ (IM_tx a2 (fun t a q z => r t a q (by unfold rI sD sL sS sM at q; omega)) (fun a ha => h2 a (by omega)) (h4 915 (by omega))) (fun t ht => h1 t 0 (Or.inr (by unfold rJ; omega)) (by omega)) (fun j hj => h3 j (by omega)) (fun t ht => h4 t (by omega)) hT
  · rw [m 874 (by omega)]
    exact ST_s (ST_eq X (fun t ht => r t 0 (by unfold rI sD sL sS sM; omega) (by omega)) (h2 0 (by omega)) (fun t ht => r t 0 (by unfold rI sD sL sS sM; omega) (by omega)) (fun t ht => r t 0 (by unfold rI sD sL sS sM; omega) (by omega))) (fun _ _ => rfl) h22
  · rw [m 874 (by omega)]
    exact HR_eq H (h3 24 (by omega)) (m 5 (by omega)) (m 890 (by omega)) (fun t a ht h2 h9 => r t a (by unfold rI sD sL sS sM; omega) (by omega))
/-- the bytes of the tape -/
def tb (w : nc_H) (k : Nat) : Nat := (w.1 740 0 k).toBitVec.toNat % 2 ^ 8
theorem tb_B {l : Nat} (l1 : l ≤ 940) (l2 : w.1 10 0 1 = nI l) : CB w (tb w) l := ⟨l2, l1, fun k hk => ⟨Nat.mod_lt _ (by decide), pk_and _ (m := 255) 8 (by decide)⟩⟩
theorem tb_M (t2 : ∀ k, k < 940 → w.1 740 0 k = w.1 869 0 k) (e : v.1 869 0 = w.1 869 0) (k : Nat) (hk : k < 940) : v.1 869 0 k &&& 255 = nI (tb w k) := by
  rw [e, ← t2 k hk]
  exact pk_and _ (m := 255) 8 (by decide)
theorem some_inj {r r' : Int32} {w w' : nc_H} (e : (some (some (.inl r), w) : Option nc_R) = some (some (.inl r'), w')) : r = r' ∧ w = w' := by
  injection e with e
  injection e with e1 e2
  injection e1 with e1
  injection e1 with e1
  exact ⟨e1, e2⟩
theorem op_dairy (hI : Inv w) : Op w (nc_Call m_X11_dairy [cO]) (nc_Call m_X12_dairy [mO]) := by
  obtain ⟨⟨l, l1, l2, l3⟩, t2, t3⟩ := hI.2.2.2.2.2.1
  have hT := hI.2.2.2.2.2.2.2
  obtain ⟨r0, w0, v0, a1, a2, -, a4⟩ := jd_read (w := w) (v := w) (tb_B l1 l2) hT l3 (tb_M t2 rfl) hT
  have hr : r0 = 0 ∨ r0 = 1 := a4.elim (fun q => Or.inl q.1) (fun q => Or.inr q.1)
  rcases hr with rfl | rfl
  · -- a fault
    generalize hW : nc_si w0 10 0 1 0 = W
    have s1 : ∀ t a, t ≠ 10 → W.1 t a = w0.1 t a := fun t a q => by rw [← hW, si_t q]
    have s2 : W.2 = w0.2 := by rw [← hW]; rfl
    have g1 : ∀ t a, ¬ (a = 0 ∧ (t = 10 ∨ (743 ≤ t ∧ t ≤ 746) ∨ t = 3)) → ¬ (a = 1 ∧ (t = 2 ∨ (236 ≤ t ∧ t ≤ 246))) → t ≠ 10 → W.1 t a = w.1 t a := fun t a q r z => (s1 t a z).trans (a2 t a q r).1
    have g2 : ∀ t a, ¬ (a = 0 ∧ (t = 10 ∨ (743 ≤ t ∧ t ≤ 746) ∨ t = 3)) → ¬ (a = 1 ∧ (t = 2 ∨ (236 ≤ t ∧ t ≤ 246))) → W.2 t a = w.2 t a := fun t a q r => by rw [s2]; exact (a2 t a q r).2
    obtain ⟨r1, w1, v1, b1, b2, b3, b4⟩ := jd_read (w := w) (v := W) (tb_B l1 l2) hT (by rw [g1 12 0 (by omega) (by omega) (by omega)]; exact l3) (tb_M t2 (g1 869 0 (by omega) (by omega) (by omega))) (TW_z hT (g2 742 0 (by omega) (by omega)) (g2 878 0 (by omega) (by omega)))
    rw [a1] at b1
    obtain ⟨e1, e2⟩ := some_inj b1
    subst e1
    subst e2
    obtain ⟨m1, m2, m3, m4, m5⟩ := b3
    rcases b4 with ⟨-, fq, b4⟩ | ⟨q, -⟩
    · have k10 : ∀ k, k ≠ 1 → W.1 10 0 k = w0.1 10 0 k := fun k hk => by rw [← hW, si_k hk]
      refine ⟨-1 - w0.1 10 0 15, W, v1, ?_, ?_, ?_⟩
      · rw [qc_X11_dairy, a1, nc_bI_v, nc_lt_v, if_neg (fun z => z rfl), si_k (by decide), hW]
      · rw [b4, fq.2]
      · refine Inv_txt hI (fun t a q z => ?_) (fun a q => ?_) (fun t q => ?_) (fun k q => ?_) (fun k q => ?_) ⟨⟨0, by omega, ?_, m5⟩, fun k hk => ?_, ?_⟩
        · unfold rI rJ sD sL sS sM at q
          rw [(m1 t a (by omega)).1, g1 t a (by omega) (by omega) (by omega)]
        · rw [(m1 236 a (by omega)).2, g2 236 a (by omega) (by omega)]
        · rw [(m1 t 0 (by omega)).2, g2 t 0 (by omega) (by omega)]
        · rw [m4 k q, g2 877 0 (by omega) (by omega)]
        · rw [m2 k (by omega), g1 12 0 (by omega) (by omega) (by omega)]
        · rw [(m1 10 0 (by omega)).1, ← hW, si_s]
          rfl
        · rw [(m1 740 0 (by omega)).1, (m1 869 0 (by omega)).1, g1 740 0 (by omega) (by omega) (by omega), g1 869 0 (by omega) (by omega) (by omega)]
          exact t2 k hk
        · rw [(m1 10 0 (by omega)).1, k10 14 (by decide)]
          exact fq.1
    · exact absurd q (by decide)
  · -- none
    obtain ⟨w2, c1, c2, c3, c4⟩ := sd_copyFrom (w := nc_si w0 10 0 1 0) (a := 0) (b := 1) (by decide)
    obtain ⟨w3, d1, d2, d3⟩ := sl_clear (w := w2)
    generalize hW : nc_si (nc_si (nc_si w3 9 0 3 0) 9 0 4 0) 5 0 2 0 = W
    have s1 : ∀ t a, t ≠ 9 → t ≠ 5 → W.1 t a = w3.1 t a := fun t a q r => by rw [← hW, si_t r, si_t q, si_t q]
    have s2 : W.2 = w3.2 := by rw [← hW]; rfl
    have g1 : ∀ t a, ¬ (a = 0 ∧ (t = 10 ∨ (743 ≤ t ∧ t ≤ 746) ∨ t = 3 ∨ t = 2 ∨ (236 ≤ t ∧ t ≤ 246) ∨ t = 7 ∨ (553 ≤ t ∧ t ≤ 562) ∨ t = 9 ∨ t = 5)) → ¬ (a = 1 ∧ (t = 2 ∨ (236 ≤ t ∧ t ≤ 246))) → W.1 t a = w.1 t a := by
      intro t a q r
      have z1 : (nc_si w0 10 0 1 0).1 t a = w0.1 t a := by
        by_cases e : t = 10
        · subst e
          exact si_a (by omega)
        · rw [si_t e]
      have z2 : W.1 t a = w3.1 t a := by
        rw [← hW]
        by_cases e : t = 5
        · subst e
          rw [si_a (by omega), si_t (by decide), si_t (by decide)]
        · rw [si_t e]
          by_cases e : t = 9
          · subst e
            rw [si_a (by omega), si_a (by omega)]
          · rw [si_t e, si_t e]
      rw [z2, d2.2 t a (by unfold lC; omega), c2 t a (by unfold dC; omega), z1]
      exact (a2 t a (by omega) r).1
    have g2 : ∀ t a, ¬ (a = 0 ∧ (t = 10 ∨ (743 ≤ t ∧ t ≤ 746) ∨ t = 3 ∨ t = 236)) → ¬ (a = 1 ∧ (t = 2 ∨ (236 ≤ t ∧ t ≤ 246))) → W.2 t a = w.2 t a := by
      intro t a q r
      rw [s2, d2.1, c3 t a (by omega)]
      exact (a2 t a (by omega) r).2
    obtain ⟨r1, w1, v1, b1, b2, b3, b4⟩ := jd_read (w := w) (v := W) (tb_B l1 l2) hT (by rw [g1 12 0 (by omega) (by omega)]; exact l3) (tb_M t2 (g1 869 0 (by omega) (by omega))) (TW_z hT (g2 742 0 (by omega) (by omega)) (g2 878 0 (by omega) (by omega)))
    rw [a1] at b1
    obtain ⟨e1, e2⟩ := some_inj b1
    subst e1
    subst e2
    obtain ⟨m1, m2, m3, m4, m5⟩ := b3
    rcases b4 with ⟨q, -⟩ | ⟨-, b4, f0, f, C, N, h, D⟩
    · exact absurd q (by decide)
    · have M1 := sm_104 (v := v1)
      have M2 := sm_141 (v := row v1 874 0 (fun j => if j < 513 then (if j < 76 then v1.1 875 0 j else 0) else v1.1 874 0 j))
      rw [M2] at M1
      generalize hV : row (rol (row v1 874 0 (fun j => if j < 513 then (if j < 76 then v1.1 875 0 j else 0) else v1.1 874 0 j)) 877 0 (fun j => if j < 22 then (row v1 874 0 (fun j => if j < 513 then (if j < 76 then v1.1 875 0 j else 0) else v1.1 874 0 j)).2 877 0 (22 + j) else (row v1 874 0 (fun j => if j < 513 then (if j < 76 then v1.1 875 0 j else 0) else v1.1 874 0 j)).2 877 0 j)) 12 0 (upd ((row v1 874 0 (fun j => if j < 513 then (if j < 76 then v1.1 875 0 j else 0) else v1.1 874 0 j)).1 12 0) 24 0) = V at M1
      have u1 : ∀ t a, ¬ (a = 0 ∧ (t = 12 ∨ t = 874)) → V.1 t a = v1.1 t a := fun t a q => by
        rw [← hV, row_n (by omega), rol_1, row_n (by omega)]
      have u2 : ∀ t a, ¬ (t = 877 ∧ a = 0) → V.2 t a = v1.2 t a := fun t a q => by
        rw [← hV, row_2, rol_n q]
        rfl
      have u3 : ∀ k, k ≠ 24 → V.1 12 0 k = v1.1 12 0 k := fun k hk => by
        rw [← hV, row_s, upd_n hk, row_t (by decide)]
      have u4 : V.1 12 0 24 = nI 0 := by
        rw [← hV, row_s, upd_s]
        rfl
      have u5 : ∀ k, k < 76 → V.1 874 0 k = v1.1 875 0 k := fun k hk => by
        rw [← hV, row_t (by decide), rol_1, row_s, if_pos (by omega), if_pos hk]
      have u6 : ∀ k, 76 ≤ k → k < 513 → V.1 874 0 k = 0 := fun k hk hk2 => by
        rw [← hV, row_t (by decide), rol_1, row_s, if_pos (by omega), if_neg (by omega)]
      have u7 : ∀ k, k < 22 → V.2 877 0 k = v1.2 877 0 (22 + k) := fun k hk => by
        rw [← hV, row_2, rol_s, if_pos hk]
        rfl
      have q1 : ∀ t a, ¬ (a = 0 ∧ (t = 12 ∨ t = 874 ∨ t = 875 ∨ t = 877)) → V.1 t a = W.1 t a := fun t a q => (u1 t a (by omega)).trans (m1 t a (by omega)).1
      have q2 : ∀ t a, ¬ (a = 0 ∧ (t = 12 ∨ t = 875 ∨ t = 877)) → V.2 t a = W.2 t a := fun t a q => (u2 t a (by omega)).trans (m1 t a (by omega)).2
      obtain ⟨D1, D2, D3, D4, D5, D6⟩ := D
      have hf : f ≤ 4 := D1.1.2.2.2.2.1
      have hC : C ≤ 8 := D1.1.2.2.2.2.2.1
      have hN : N ≤ 10 := D1.1.2.2.2.2.2.2.1
      have E1 : DR w2 0 (v1.1 875 0) f C N h := DR_cp c4 (DR_eq D1 (fun t ht => by rw [si_t (by omega)]) (fun _ _ => rfl))
      have E2 : DX w2 0 (v1.1 875 0) (fun k => v1.2 877 0 (22 + k)) f C N := DX_cp hf hC hN c4 (DX_eq D2 (by rw [si_t (by decide)]) (by rw [si_t (by decide)]) rfl)
      have p1 : ∀ t, t = 2 ∨ (237 ≤ t ∧ t ≤ 246) → V.1 t 0 = w2.1 t 0 := fun t ht => by
        rw [q1 t 0 (by omega), s1 t 0 (by omega) (by omega), d2.2 t 0 (by unfold lC; omega)]
      have p2 : V.2 236 0 = w2.2 236 0 := by rw [q2 236 0 (by omega), s2, d2.1]
      have p3 : ∀ t, t = 7 ∨ (553 ≤ t ∧ t ≤ 562) → V.1 t 0 = w3.1 t 0 := fun t ht => by
        rw [q1 t 0 (by omega), s1 t 0 (by omega) (by omega)]
      have LV : L0 V := by
        obtain ⟨y1, y2, y3⟩ := d3
        unfold L0
        rw [p3 7 (by omega), p3 554 (by omega), p3 555 (by omega), p3 556 (by omega), p3 557 (by omega), p3 558 (by omega), p3 559 (by omega), p3 560 (by omega), p3 561 (by omega)]
        exact ⟨y1, y2, y3⟩
      have X := DX_c (DX_eq E2 (p1 237 (by omega)) (p1 2 (by omega)) p2) hC hN u5
      have ans : W.1 2 0 0 = v1.1 12 0 19 := by
        rw [s1 2 0 (by decide) (by decide), d2.2 2 0 (by unfold lC; omega), c4.1 0 (by decide), si_t (by decide)]
        exact D6
      have hI0 := hI
      obtain ⟨⟨f9, C9, N9, h9, d9, -, u9, nw, y1, y2, y3, y4, y5, -⟩, M9, -⟩ := hI
      refine ⟨W.1 2 0 0, W, V, ?_, ?_, ?_⟩
      · rw [qc_X11_dairy, a1, nc_bI_v, nc_lt_v, if_pos (by decide), c1, nc_bV_v, d1, nc_bV_v, qc_X9_clear, nc_lt_v, nc_lt_v, nc_bV_v, qc_X5_clear, nc_lt_v, nc_bV_v, hW]
      · rw [b4, ans]
        refine Eq.trans M1 ?_
        rw [row_t (by decide)]
      · refine Inv_mk hI0 ⟨f, C, N, h, 0, ⟨dok_c D3 u5, lok_0 hC hN u6, DR_eq E1 (fun t ht => p1 t (by omega)) u5, ⟨X.1, X.2.1, nm_c hf hC hN X.2.2 (fun _ _ => rfl) u7⟩, LR_0 hN hC LV u6, SR_0 ?_ ?_ (u6 332 (by omega) (by omega))⟩, 0, nw, by omega, y2, u4, ?_, ?_, fun j hj => absurd hj (Nat.not_lt_zero j)⟩ (IM_tx M9 (fun t a q z => ?_) (fun a ha => ?_) ?_) (fun t ht => ?_) (fun j hj => ?_) (fun t ht => ?_) ⟨⟨0, by omega, ?_, ?_⟩, fun k hk => ?_, ?_⟩
        · rw [q1 9 0 (by omega), ← hW, si_t (by decide), si_k (by decide), si_s]
        · rw [q1 9 0 (by omega), ← hW, si_t (by decide), si_s]
        · rw [q1 5 0 (by omega), ← hW, si_s]
          rfl
        · rw [q1 5 0 (by omega), ← hW, si_k (by decide), si_t (by decide), si_t (by decide), d2.2 5 0 (by unfold lC; omega), c2 5 0 (by unfold dC; omega), si_t (by decide), (a2 5 0 (by omega) (by omega)).1]
          exact y5
        · unfold rI sD sL sS sM at q
          rw [q1 t a (by omega), g1 t a (by omega) (by omega)]
        · rw [q2 236 a (by omega), g2 236 a (by omega) (by omega)]
        · rw [q2 915 0 (by omega), g2 915 0 (by omega) (by omega)]
        · rw [q1 t 0 (by omega), g1 t 0 (by omega) (by omega)]
        · rw [u3 j (by omega), m2 j (by omega), g1 12 0 (by omega) (by omega)]
        · rw [q2 t 0 (by omega), g2 t 0 (by omega) (by omega)]
        · rw [q1 10 0 (by omega), s1 10 0 (by decide) (by decide), d2.2 10 0 (by unfold lC; omega), c2 10 0 (by unfold dC; omega), si_s]
          rfl
        · rw [u3 2 (by decide), m5]
          rfl
        · rw [q1 740 0 (by omega), q1 869 0 (by omega), g1 740 0 (by omega) (by omega), g1 869 0 (by omega) (by omega)]
          exact t2 k hk
        · rw [q1 10 0 (by omega), s1 10 0 (by decide) (by decide), d2.2 10 0 (by unfold lC; omega), c2 10 0 (by unfold dC; omega), si_k (by decide), f0.1, u3 15 (by decide), f0.2]
end DQ
