/-! sentence: the call. -/
section SK
variable {w w' v v' : nc_H} {f C N m o : Nat} {S S' : Nat → Int32}
theorem HR_s {w : nc_H} (hX : HR w S f C N) (hf : f ≤ 4) (hC : C ≤ 8) (hN : N ≤ 10) (hS : ∀ k, k < 332 → S' k = S k) : HR w S' f C N := by
  obtain ⟨u, nw, x1, x2, x3, x4, x5, x6⟩ := hX
  have hm : ∀ i k, k < 332 → mix S' (w.1 890 0) i k = mix S (w.1 890 0) i k := fun i k hk => by
    unfold mix
    by_cases q : 76 ≤ k ∧ k < 332
    · rw [if_pos q, if_pos q]
    · rw [if_neg q, if_neg q, hS k hk]
  refine ⟨u, nw, x1, x2, x3, x4, x5, fun j hj => ⟨LR_s hC hN hf (x6 j hj).1 (hm _), ?_⟩⟩
  obtain ⟨d, hd⟩ := (x6 j hj).2
  exact ⟨d, lok_s hC hN hd (hm _)⟩
theorem SR_EX {w4 v V : nc_H} (E : EX w v (fun _ => 0) 0 1 m o 1 N) (o1 : 1 ≤ o) (hc : scp w w4 0 1) (h9 : V.1 9 0 = w4.1 9 0) (h6 : ∀ t, 676 ≤ t → t ≤ 678 → V.1 t 0 = w4.1 t 0) (h332 : V.1 874 0 332 = nI m) (hk : ∀ k, k < 3 * m → V.1 874 0 (333 + k) = v.1 876 0 k) : SR V 0 (V.1 874 0) N := by
  obtain ⟨⟨a1, a2⟩, -, ⟨c1, c2, c3⟩, ⟨dep, d1, d2, d3, d4⟩, -⟩ := E
  have m0 : m ≠ 0 := fun z => by rw [z] at d2; omega
  refine ⟨m, o, dep, by omega, c1, ⟨fun z => by omega, fun z => absurd z m0⟩, h332, ?_, ?_, d1, fun _ => d2, d3, fun i hi => ?_⟩
  · rw [h9, hc.1 3 (by omega) (by omega)]
    exact a1
  · rw [h9, hc.1 4 (by omega) (by omega)]
    exact a2
  · rw [h6 676 (by omega) (by omega), h6 677 (by omega) (by omega), h6 678 (by omega) (by omega), hc.2 676 (by omega) (by omega) i (by omega), hc.2 677 (by omega) (by omega) i (by omega), hc.2 678 (by omega) (by omega) i (by omega), hk (3 * i) (by omega), show 334 + 3 * i = 333 + (3 * i + 1) by omega, hk (3 * i + 1) (by omega), show 335 + 3 * i = 333 + (3 * i + 2) by omega, hk (3 * i + 2) (by omega)]
    exact d4 i hi
theorem op_sentence (hI : Inv w) : Op w (nc_Call m_X11_sentence [cO]) (nc_Call m_X12_sentence [mO]) := by
  have hI0 := hI
  obtain ⟨⟨l, l1, l2, l3⟩, t2, t3⟩ := hI.2.2.2.2.2.1
  have hT := hI.2.2.2.2.2.2.2
  obtain ⟨⟨f, C, N, h, d, hW⟩, hM, -⟩ := hI
  have hW0 := hW
  obtain ⟨⟨x1, x2, x3, x4, x5, x6⟩, hH⟩ := hW
  have hf : f ≤ 4 := x3.1.2.2.2.2.1
  have hC : C ≤ 8 := x3.1.2.2.2.2.2.1
  have hN : N ≤ 10 := x3.1.2.2.2.2.2.2.1
  have NSw : ∀ v : nc_H, v.1 874 0 = w.1 874 0 → v.2 877 0 = w.2 877 0 → NS w v f C N := by
    intro v e874 e877
    refine ⟨?_, hf, hC, hN, ?_, ?_, ?_⟩
    · have e : (fun k => v.2 877 0 (0 + k)) = w.2 877 0 := by
        funext k
        rw [Nat.zero_add, e877]
      rw [e]
      exact x4.2.2
    · rw [e874]; exact x3.1.1
    · rw [e874]; exact x3.1.2.1
    · rw [e874]; exact x3.1.2.2.1
  obtain ⟨r0, w0, v0, a1, a2, -, a4⟩ := js_read (v := w) (tb_B l1 l2) hT l3 (tb_M t2 rfl) hT (NSw w rfl rfl)
  have hr : r0 = 0 ∨ r0 = 1 := a4.elim (fun q => Or.inl q.1) (fun q => Or.inr q.1)
  have hcl := qc_X11_sentence 0 w
  have a1' : nc_Call m_X9_read [.inr (.inr (9, 1)), .inr (.inr (10, 0)), .inr (.inr (2, 0))] w = some (some (.inl r0), w0) := a1
  rw [a1', nc_bI_v, nc_lt_v] at hcl
  rcases hr with rfl | rfl
  · -- a fault
    rw [if_neg (fun z => z rfl), si_k (by decide)] at hcl
    generalize hWW : nc_si w0 10 0 1 0 = W at hcl
    have g1 : ∀ t a, ¬ (a = 0 ∧ (t = 10 ∨ (743 ≤ t ∧ t ≤ 746))) → ¬ (a = 1 ∧ (t = 9 ∨ (676 ≤ t ∧ t ≤ 678))) → W.1 t a = w.1 t a := fun t a q q2 => by
      rw [← hWW, si_rw, row_n (by omega)]
      exact (a2 t a q q2).1
    have g2 : ∀ t a, ¬ (a = 0 ∧ (t = 10 ∨ (743 ≤ t ∧ t ≤ 746))) → ¬ (a = 1 ∧ (t = 9 ∨ (676 ≤ t ∧ t ≤ 678))) → W.2 t a = w.2 t a := fun t a q q2 => by
      rw [← hWW]
      exact (a2 t a q q2).2
    obtain ⟨r1, w1, v1, b1, -, ⟨m1, m2, m3, m4⟩, b4⟩ := js_read (v := W) (tb_B l1 l2) hT (by rw [g1 12 0 (by omega) (by omega)]; exact l3) (tb_M t2 (g1 869 0 (by omega) (by omega))) (TW_z hT (g2 742 0 (by omega) (by omega)) (g2 878 0 (by omega) (by omega))) (NSw W (g1 874 0 (by omega) (by omega)) (g2 877 0 (by omega) (by omega)))
    rw [a1] at b1
    obtain ⟨e1, e2⟩ := some_inj b1
    subst e1
    subst e2
    rcases b4 with ⟨-, fq, b4⟩ | ⟨q, -⟩
    · refine ⟨_, W, v1, hcl, by rw [b4, fq.2], ?_⟩
      have p1 : ∀ t a, ¬ (a = 0 ∧ (t = 10 ∨ (743 ≤ t ∧ t ≤ 746) ∨ t = 12 ∨ t = 876 ∨ t = 907)) → ¬ (a = 1 ∧ (t = 9 ∨ (676 ≤ t ∧ t ≤ 678))) → v1.1 t a = w.1 t a := fun t a q q2 => by
        rw [(m1 t a (by omega)).1, g1 t a (by omega) q2]
      have p2 : ∀ t a, ¬ (a = 0 ∧ (t = 10 ∨ (743 ≤ t ∧ t ≤ 746) ∨ t = 12 ∨ t = 876 ∨ t = 907)) → ¬ (a = 1 ∧ (t = 9 ∨ (676 ≤ t ∧ t ≤ 678))) → v1.2 t a = w.2 t a := fun t a q q2 => by
        rw [(m1 t a (by omega)).2, g2 t a (by omega) q2]
      refine Inv_txt hI0 (fun t a q z => ?_) (fun a q => p2 236 a (by omega) (by omega)) (fun t q => p2 t 0 (by omega) (by omega)) (fun k q => by rw [p2 877 0 (by omega) (by omega)]) (fun k q => ?_) ⟨⟨0, by omega, ?_, m4⟩, fun k hk => ?_, ?_⟩
      · unfold rI rJ sD sL sS sM at q
        exact p1 t a (by omega) (by omega)
      · rw [m2 k (by omega), g1 12 0 (by omega) (by omega)]
      · rw [(m1 10 0 (by omega)).1, ← hWW, si_s]
        rfl
      · rw [p1 740 0 (by omega) (by omega), p1 869 0 (by omega) (by omega)]
        exact t2 k hk
      · rw [(m1 10 0 (by omega)).1, ← hWW, si_k (by decide)]
        exact fq.1
    · exact absurd q (by decide)
  · -- none
    obtain ⟨w4, c1, c2, c3⟩ := ss_copyFrom (w := nc_si w0 10 0 1 0) (a := 0) (b := 1) (by decide)
    rw [if_pos (by decide), c1, nc_bV_v] at hcl
    have g1 : ∀ t a, ¬ (a = 0 ∧ (t = 9 ∨ (676 ≤ t ∧ t ≤ 678) ∨ t = 10 ∨ (743 ≤ t ∧ t ≤ 746))) → ¬ (a = 1 ∧ (t = 9 ∨ (676 ≤ t ∧ t ≤ 678))) → w4.1 t a = w.1 t a := fun t a q q2 => by
      rw [c2.2 t a (by unfold sC; omega), si_rw, row_n (by omega)]
      exact (a2 t a (by omega) q2).1
    have g2 : ∀ t a, ¬ (a = 0 ∧ (t = 10 ∨ (743 ≤ t ∧ t ≤ 746))) → ¬ (a = 1 ∧ (t = 9 ∨ (676 ≤ t ∧ t ≤ 678))) → w4.2 t a = w.2 t a := fun t a q q2 => by
      rw [c2.1]
      exact (a2 t a q q2).2
    obtain ⟨r1, w1, v1, b1, -, ⟨m1, m2, m3, m4⟩, b4⟩ := js_read (v := w4) (tb_B l1 l2) hT (by rw [g1 12 0 (by omega) (by omega)]; exact l3) (tb_M t2 (g1 869 0 (by omega) (by omega))) (TW_z hT (g2 742 0 (by omega) (by omega)) (g2 878 0 (by omega) (by omega))) (NSw w4 (g1 874 0 (by omega) (by omega)) (g2 877 0 (by omega) (by omega)))
    rw [a1] at b1
    obtain ⟨e1, e2⟩ := some_inj b1
    subst e1
    subst e2
    rcases b4 with ⟨q, -⟩ | ⟨-, b4, f0, m, o, o1, E⟩
    · exact absurd q (by decide)
    · have m39 : m < 45 := by have := E.2.2.1.1; have := E.2.2.1.2.1; omega
      obtain ⟨V, y1, y2, y3, y4, y5⟩ := sm_fin E.2.1.1 m39
      have c3' : scp w0 w4 0 1 := by
        refine ⟨fun k h1 h2 => ?_, fun t h1 h2 k hk => ?_⟩
        · rw [c3.1 k h1 h2, si_t (by decide)]
        · rw [c3.2 t h1 h2 k hk, si_t (by omega)]
      have ans : w4.1 9 0 4 = v1.1 12 0 41 := by rw [c3'.1 4 (by decide) (by decide), E.1.2, E.2.1.2.1]
      have q1 : ∀ t a, ¬ (a = 0 ∧ (t = 12 ∨ t = 874 ∨ t = 876 ∨ t = 907)) → V.1 t a = w4.1 t a := fun t a q => by
        rw [y2.2 t a (by omega), (m1 t a (by omega)).1]
      have q2 : ∀ t a, ¬ (a = 0 ∧ (t = 12 ∨ t = 876 ∨ t = 907)) → V.2 t a = w4.2 t a := fun t a q => by
        rw [y2.1, (m1 t a q).2]
      have q12 : ∀ k, V.1 12 0 k = v1.1 12 0 k := fun k => by rw [y2.2 12 0 (by omega)]
      have hS : ∀ k, k < 332 → V.1 874 0 k = w.1 874 0 k := fun k hk => by
        rw [y3 k hk, (m1 874 0 (by omega)).1, g1 874 0 (by omega) (by omega)]
      have p1 : ∀ t a, ¬ (a = 0 ∧ (t = 9 ∨ (676 ≤ t ∧ t ≤ 678) ∨ t = 10 ∨ (743 ≤ t ∧ t ≤ 746) ∨ t = 12 ∨ t = 874 ∨ t = 876 ∨ t = 907)) → ¬ (a = 1 ∧ (t = 9 ∨ (676 ≤ t ∧ t ≤ 678))) → V.1 t a = w.1 t a := fun t a z z2 => by
        rw [q1 t a (by omega), g1 t a (by omega) z2]
      have p2 : ∀ t a, ¬ (a = 0 ∧ (t = 10 ∨ (743 ≤ t ∧ t ≤ 746) ∨ t = 12 ∨ t = 876 ∨ t = 907)) → ¬ (a = 1 ∧ (t = 9 ∨ (676 ≤ t ∧ t ≤ 678))) → V.2 t a = w.2 t a := fun t a z z2 => by
        rw [q2 t a (by omega), g2 t a (by omega) z2]
      have p12 : ∀ k, ¬ (k = 0 ∨ (2 ≤ k ∧ k ≤ 5) ∨ (11 ≤ k ∧ k ≤ 16) ∨ k = 18 ∨ (40 ≤ k ∧ k ≤ 44)) → V.1 12 0 k = w.1 12 0 k := fun k z => by
        rw [q12 k, m2 k z, g1 12 0 (by omega) (by omega)]
      refine ⟨w4.1 9 0 4, w4, V, hcl, by rw [b4, y1, ans], ?_⟩
      have X2 := DX_c (DX_eq x4 (p1 237 0 (by omega) (by omega)) (p1 2 0 (by omega) (by omega)) (p2 236 0 (by omega) (by omega))) hC hN (S' := V.1 874 0) (fun k hk => hS k (by omega))
      refine Inv_mk hI0 ⟨f, C, N, h, d, ⟨dok_c x1 (fun k hk => hS k (by omega)), lok_s hC hN x2 hS, DR_eq x3 (fun t ht => p1 t 0 (by omega) (by omega)) (fun k hk => hS k (by omega)), ?_, LR_s hC hN hf (LR_eq x5 (fun t ht => p1 t 0 (by omega) (by omega))) hS, SR_EX E o1 c3' (q1 9 0 (by omega)) (fun t h1 h2 => q1 t 0 (by omega)) y4 y5⟩, HR_s (HR_eq hH (p12 24 (by omega)) (p1 5 0 (by omega) (by omega)) (p1 890 0 (by omega) (by omega)) (fun t a ht h2 h9 => p1 t a (by omega) (by omega))) hf hC hN hS⟩ (IM_tx hM (fun t a q z => ?_) (fun a ha => p2 236 a (by omega) (by omega)) (p2 915 0 (by omega) (by omega))) (fun t ht => p1 t 0 (by omega) (by omega)) (fun j hj => p12 j (by omega)) (fun t ht => p2 t 0 (by omega) (by omega)) ⟨⟨0, by omega, ?_, ?_⟩, fun k hk => ?_, ?_⟩
      · rw [p2 877 0 (by omega) (by omega)]
        exact X2
      · unfold rI sD sL sS sM at q
        exact p1 t a (by omega) (by omega)
      · rw [q1 10 0 (by omega), c2.2 10 0 (by unfold sC; omega), si_s]
        rfl
      · rw [q12 2, m4]
        rfl
      · rw [p1 740 0 (by omega) (by omega), p1 869 0 (by omega) (by omega)]
        exact t2 k hk
      · rw [q1 10 0 (by omega), c2.2 10 0 (by unfold sC; omega), si_k (by decide), f0.1, q12 15, f0.2]
end SK
