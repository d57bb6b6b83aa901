/-! book: the call, both answers. -/
section BQ
variable {w : nc_H} {x : Int32}
theorem op_book (hI : Inv w) (x : Int32) : Op w (nc_Call m_X11_book [cO, .inl x]) (nc_Call m_X12_book [mO, .inl x]) := by
  by_cases hx : rng x 2
  · have hI0 := hI
    obtain ⟨⟨f, C, N, h, d, hW⟩, -⟩ := hI
    obtain ⟨⟨l, l1, l2, l3⟩, t2, t3⟩ := hI0.2.2.2.2.2.1
    obtain ⟨r0, w0, a1, a2, a3⟩ := jb_all (v := w) hI0 hW hx rfl rfl rfl rfl rfl rfl
    have CL := sc_book hx a1
    rcases a3 with ⟨rfl, -⟩ | ⟨rfl, w2, r, w4, -, i, S', d', b1, b2, -, b4, b5, -, -, -, -, -⟩
    · rw [if_neg (fun z => z rfl), si_k (by decide)] at CL
      generalize hWW : nc_si w0 10 0 1 0 = W at CL
      have g1 : ∀ t a, ¬ (a = 0 ∧ (t = 0 ∨ t = 10 ∨ (743 ≤ t ∧ t ≤ 746) ∨ (100 ≤ t ∧ t ≤ 102))) → W.1 t a = w.1 t a := fun t a q => by
        rw [← hWW, si_rw, row_n (by omega)]
        exact (a2.1 t a q).1
      have g2 : ∀ t a, ¬ (a = 0 ∧ (t = 0 ∨ t = 10 ∨ (743 ≤ t ∧ t ≤ 746) ∨ (100 ≤ t ∧ t ≤ 102))) → W.2 t a = w.2 t a := fun t a q => by
        rw [← hWW]
        exact (a2.1 t a q).2
      obtain ⟨r1, w1, a1', -, a3'⟩ := jb_all (v := W) hI0 hW hx (by rw [g1 12 0 (by omega)]) (g1 869 0 (by omega)) (g1 874 0 (by omega)) (g2 877 0 (by omega)) (g2 742 0 (by omega)) (g2 878 0 (by omega))
      rw [a1] at a1'
      obtain ⟨e1, e2⟩ := some_inj a1'
      subst e1
      subst e2
      rcases a3' with ⟨-, v0, ⟨m1, m2, m3, m4⟩, fq, bk⟩ | ⟨q, -⟩
      · have p1 : ∀ t a, ¬ (a = 0 ∧ (t = 0 ∨ t = 10 ∨ (743 ≤ t ∧ t ≤ 746) ∨ (100 ≤ t ∧ t ≤ 102) ∨ t = 12 ∨ t = 876)) → v0.1 t a = w.1 t a := fun t a q => by
          rw [(m1 t a (by omega)).1, g1 t a (by omega)]
        have p2 : ∀ t a, ¬ (a = 0 ∧ (t = 0 ∨ t = 10 ∨ (743 ≤ t ∧ t ≤ 746) ∨ (100 ≤ t ∧ t ≤ 102) ∨ t = 12 ∨ t = 876)) → v0.2 t a = w.2 t a := fun t a q => by
          rw [(m1 t a (by omega)).2, g2 t a (by omega)]
        have p0 : ∀ k, k ≠ 3 → v0.1 0 0 k = w.1 0 0 k := fun k hk => by
          rw [(m1 0 0 (by omega)).1, ← hWW, si_t (by decide), a2.2 k hk]
        have p12 : ∀ k, ¬ (k = 0 ∨ (2 ≤ k ∧ k ≤ 5) ∨ (11 ≤ k ∧ k ≤ 16) ∨ k = 18 ∨ k = 36) → v0.1 12 0 k = w.1 12 0 k := fun k q => by
          rw [m2 k q, g1 12 0 (by omega)]
        refine ⟨_, W, v0, CL, by rw [bk, fq.2], ?_⟩
        refine Inv_bk hI0 ⟨f, C, N, h, d, NW_fr hW (fun t a q => p1 t a (by unfold sD sL sS sM at q; omega)) (fun t a q => p2 t a (by unfold sD sM at q; omega)) (p12 24 (by omega))⟩ (IM_fr hI0.2.1 (fun t a q _ => p1 t a (by unfold sD sL sS sM at q; omega)) (fun t a q _ => p2 t a (by unfold sD sM at q; omega))) (fun t ht => p1 t 0 (by omega)) (fun j hj => p12 j (by omega)) (fun t ht => p2 t 0 (by omega)) ⟨⟨0, by omega, ?_, ?_⟩, fun k hk => ?_, ?_⟩ ?_
        · rw [(m1 10 0 (by omega)).1, ← hWW, si_s]
          rfl
        · rw [m4]
          rfl
        · rw [p1 740 0 (by omega), p1 869 0 (by omega)]
          exact t2 k hk
        · rw [(m1 10 0 (by omega)).1, ← hWW, si_k (by decide)]
          exact fq.1
        · have hb := hI0.2.2.2.2.2.2.1
          unfold BK
          rw [p0 4 (by decide), p0 5 (by decide), p0 6 (by decide), p0 7 (by decide), p0 8 (by decide), p12 38 (by omega), p1 905 0 (by omega)]
          exact hb
      · exact absurd q (by decide)
    · rw [if_pos (by decide), b1, nc_bV_v, b2, nc_bI_v] at CL
      -- the model on any heap that has its rows
      have MD : ∀ W : nc_H, W.1 12 0 2 = w.1 12 0 2 → W.1 869 0 = w.1 869 0 → W.1 874 0 = w.1 874 0 → W.2 877 0 = w.2 877 0 → W.2 742 0 = w.2 742 0 → W.2 878 0 = w.2 878 0 → ∃ v4 S' d', nc_Call m_X12_book [mO, .inl x] W = bkE x r v4 ∧ cG w w4 S' f C N i ∧ mG W v4 (w.1 874 0) S' i ∧ w4.1 0 0 5 = v4.1 905 0 0 ∧ lok S' C N d' ∧ (∀ k, k < 76 ∨ 332 ≤ k → S' k = w.1 874 0 k) ∧ (i = 0 → S' = w.1 874 0) := by
        intro W k1 k2 k3 k4 k5 k6
        obtain ⟨r1, w1, a1', -, a3'⟩ := jb_all (v := W) hI0 hW hx k1 k2 k3 k4 k5 k6
        rw [a1] at a1'
        obtain ⟨e1, e2⟩ := some_inj a1'
        subst e1
        subst e2
        rcases a3' with ⟨q, -⟩ | ⟨-, w2', r', w4', v4, i2, S2, d2, c1, c2, c3, c4, c5, c6, c7, c8, c9, c10⟩
        · exact absurd q (by decide)
        · rw [b1] at c1
          have e := none_inj c1
          subst e
          rw [b2] at c2
          obtain ⟨e1, e2⟩ := some_inj c2
          subst e1
          subst e2
          have ei : i2 = i := (nI_eq (by omega) (by omega)).mp (c5.2.2.2.2.2.1.symm.trans b5.2.2.2.2.2.1)
          subst ei
          exact ⟨v4, S2, d2, c3, c5, c6, c7, c8, c9, c10⟩
      have w46 : w4.1 0 0 6 = nI i := b5.2.2.2.2.2.1
      have n4 : ∀ t a, ¬ (a = 0 ∧ (t = 0 ∨ t = 10 ∨ (743 ≤ t ∧ t ≤ 746) ∨ (100 ≤ t ∧ t ≤ 102))) → ¬ lP 1 t a → w4.1 t a = w.1 t a := b5.1
      have n5 : ∀ t a, ¬ (a = 0 ∧ (t = 0 ∨ t = 10 ∨ (743 ≤ t ∧ t ≤ 746) ∨ (100 ≤ t ∧ t ≤ 102))) → w4.2 t a = w.2 t a := b5.2.1
      have i0 : (nI i ≤ (0 : Int32)) ↔ i = 0 := by
        rw [show (0 : Int32) = nI 0 from rfl, nI_leI (by omega) (by omega)]
        omega
      rcases rng_2 hx with rfl | rfl
      · -- lives not
        rw [if_pos (by decide)] at CL
        obtain ⟨v4, S2, d2, c3, c5, c6, c7, c8, c9, c10⟩ := MD w4 (by rw [n4 12 0 (by omega) (by unfold lP; omega)]) (n4 869 0 (by omega) (by unfold lP; omega)) (n4 874 0 (by omega) (by unfold lP; omega)) (n5 877 0 (by omega)) (n5 742 0 (by omega)) (n5 878 0 (by omega))
        obtain ⟨m1, m2, m3, m4, m5, m6, m7, m8⟩ := c6
        have BKb := sm_back (w := bkV v4) (S := w.1 874 0) (fun k hk => by rw [bkV_n (by omega)]; exact m6 k hk) (fun k hk => by rw [bkV_n (by omega), m8]; exact c9 k hk)
        rw [bkE_eq, if_pos (by decide), if_neg (fun z => z rfl), BKb, nc_bV_v] at c3
        generalize hV : row (bkV v4) 874 0 (w.1 874 0) = V at c3
        have V8 : V.1 874 0 = w.1 874 0 := by rw [← hV, row_s]
        have q1 : ∀ t a, ¬ (a = 0 ∧ (t = 12 ∨ t = 874 ∨ t = 876 ∨ t = 889 ∨ t = 891 ∨ t = 905)) → V.1 t a = w4.1 t a := fun t a q => by
          rw [← hV, row_n (by omega), bkV_n (by omega), m1 t a q]
        have q12 : ∀ k, k ≠ 38 → V.1 12 0 k = v4.1 12 0 k := fun k hk => by
          rw [← hV, row_t (by decide), bkV_k hk]
        have e12 : w4.1 12 0 = w.1 12 0 := n4 12 0 (by omega) (by unfold lP; omega)
        refine ⟨r, w4, V, CL, c3, ?_⟩
        refine bk_end (d' := d) (v4 := v4) hI0 hW c5 c7 m7 ?_ ?_ (fun t a q z1 z2 => ?_) (fun t ht => q1 t 0 (by omega)) (fun t a q => ?_) (fun k q => ?_) ?_ ?_ (fun k _ => by rw [V8]) (by rw [V8]; exact hW.1.2.1) ?_ ?_
        · rw [← hV, row_t (by decide), bkV_9, m8]
        · rw [← hV, row_t (by decide), bkV_38]
        · rw [q1 t a (by omega), n4 t a (by omega) z1]
        · rw [← hV, row_2]
          exact (m2 t a (by omega)).trans (n5 t a (by omega))
        · rw [q12 k (by omega), m3 k (by omega), e12]
        · rw [q12 2 (by decide), m4]
        · rw [q12 15 (by decide), m5]
        · rw [V8]
          exact LR_eq hW.1.2.2.2.2.1 (fun t ht => by rw [q1 t 0 (by omega), n4 t 0 (by omega) (by unfold lP; omega)])
        · rw [V8]
          exact HR_eq hW.2 (by rw [q12 24 (by decide), m3 24 (by omega), e12]) (by rw [q1 5 0 (by omega), n4 5 0 (by omega) (by unfold lP; omega)]) (by rw [q1 890 0 (by omega), n4 890 0 (by omega) (by unfold lP; omega)]) (fun t a ht h2 h9 => by rw [q1 t a (by omega), n4 t a (by omega) (by unfold lP; omega)])
      · rw [if_neg (fun z => z rfl), w46] at CL
        by_cases hi : i = 0
        · -- nothing was lived
          rw [if_pos (i0.mpr hi)] at CL
          obtain ⟨v4, S2, d2, c3, c5, c6, c7, c8, c9, c10⟩ := MD w4 (by rw [n4 12 0 (by omega) (by unfold lP; omega)]) (n4 869 0 (by omega) (by unfold lP; omega)) (n4 874 0 (by omega) (by unfold lP; omega)) (n5 877 0 (by omega)) (n5 742 0 (by omega)) (n5 878 0 (by omega))
          have eS := c10 hi
          subst eS
          obtain ⟨m1, m2, m3, m4, m5, m6, m7, m8⟩ := c6
          rw [bkE_eq, if_neg (fun z => z rfl), m7, if_pos (i0.mpr hi), if_pos (by decide)] at c3
          have e12 : w4.1 12 0 = w.1 12 0 := n4 12 0 (by omega) (by unfold lP; omega)
          have V8 : (bkV v4).1 874 0 = w.1 874 0 := by rw [bkV_n (by omega), m8]
          have q1 : ∀ t a, ¬ (a = 0 ∧ (t = 12 ∨ t = 874 ∨ t = 876 ∨ t = 889 ∨ t = 891 ∨ t = 905)) → (bkV v4).1 t a = w4.1 t a := fun t a q => by
            rw [bkV_n (by omega), m1 t a q]
          refine ⟨r, w4, bkV v4, CL, c3, ?_⟩
          refine bk_end (d' := d) (v4 := v4) hI0 hW c5 c7 m7 ?_ bkV_38 (fun t a q z1 z2 => ?_) (fun t ht => q1 t 0 (by omega)) (fun t a q => ?_) (fun k q => ?_) ?_ ?_ (fun k _ => by rw [V8]) (by rw [V8]; exact hW.1.2.1) ?_ ?_
          · rw [bkV_9, m8]
          · rw [q1 t a (by omega), n4 t a (by omega) z1]
          · exact (m2 t a (by omega)).trans (n5 t a (by omega))
          · rw [bkV_k (by omega), m3 k (by omega), e12]
          · rw [bkV_k (by decide), m4]
          · rw [bkV_k (by decide), m5]
          · rw [V8]
            exact LR_eq hW.1.2.2.2.2.1 (fun t ht => by rw [q1 t 0 (by omega), n4 t 0 (by omega) (by unfold lP; omega)])
          · rw [V8]
            exact HR_eq hW.2 (by rw [bkV_k (by decide), m3 24 (by omega), e12]) (by rw [q1 5 0 (by omega), n4 5 0 (by omega) (by unfold lP; omega)]) (by rw [q1 890 0 (by omega), n4 890 0 (by omega) (by unfold lP; omega)]) (fun t a ht h2 h9 => by rw [q1 t a (by omega), n4 t a (by omega) (by unfold lP; omega)])
        · -- lived
          rw [if_neg (fun z => hi (i0.mp z))] at CL
          obtain ⟨hST, u, nw, hX⟩ := id hW
          have hf : f ≤ 4 := hST.2.2.1.1.2.2.2.2.1
          have hC : C ≤ 8 := hST.2.2.1.1.2.2.2.2.2.1
          have hN : N ≤ 10 := hST.2.2.1.1.2.2.2.2.2.2.1
          have u8 := hX.1
          have nw8 := hX.2.1
          have e5 : w4.1 5 0 = w.1 5 0 := n4 5 0 (by omega) (by unfold lP; omega)
          obtain ⟨w5, k1, k2, k3, k4, k5⟩ := sc_keep (w := w4) hX.1 hX.2.1 (by rw [e5]; exact hX.2.2.2.2.1) (by rw [e5]; exact hX.2.2.2.1)
          obtain ⟨w6, y1, y2, y3⟩ := sl_copyFrom (w := w5) (a := 0) (b := 1) (by decide)
          rw [k1, nc_bV_v, y1, nc_bV_v] at CL
          have n6 : ∀ t a, ¬ (a = 0 ∧ (t = 0 ∨ t = 5 ∨ t = 7 ∨ t = 10 ∨ (743 ≤ t ∧ t ≤ 746) ∨ (100 ≤ t ∧ t ≤ 102) ∨ (553 ≤ t ∧ t ≤ 562))) → ¬ lP 1 t a → ¬ ((t = 7 ∨ (553 ≤ t ∧ t ≤ 562)) ∧ 2 ≤ a ∧ a ≤ 9) → w6.1 t a = w.1 t a := fun t a q z1 z2 => by
            rw [y2.2 t a (by unfold lC; omega), k2.2 t a (by unfold kC lC; omega), n4 t a (by omega) z1]
          have n7 : ∀ t a, ¬ (a = 0 ∧ (t = 0 ∨ t = 10 ∨ (743 ≤ t ∧ t ≤ 746) ∨ (100 ≤ t ∧ t ≤ 102))) → w6.2 t a = w.2 t a := fun t a q => by
            rw [y2.1, k2.1, n5 t a q]
          obtain ⟨v4, S2, d2, c3, c5, c6, c7, c8, c9, c10⟩ := MD w6 (by rw [n6 12 0 (by omega) (by unfold lP; omega) (by omega)]) (n6 869 0 (by omega) (by unfold lP; omega) (by omega)) (n6 874 0 (by omega) (by unfold lP; omega) (by omega)) (n7 877 0 (by omega)) (n7 742 0 (by omega)) (n7 878 0 (by omega))
          obtain ⟨m1, m2, m3, m4, m5, m6, m7, m8⟩ := c6
          have e12 : w6.1 12 0 = w.1 12 0 := n6 12 0 (by omega) (by unfold lP; omega) (by omega)
          have f24 : (bkV v4).1 12 0 24 = nI u := by
            rw [bkV_k (by decide), m3 24 (by omega), e12]
            exact hX.2.2.1
          obtain ⟨v6, z1, z2, z3, z4, z5⟩ := sm_keep (w := bkV v4) u8 f24
          have z4' : v6.1 12 0 24 = nI (min u 7 + 1) := by
            rw [z4]
            congr 1
            omega
          rw [bkE_eq, if_neg (fun z => z rfl), m7, if_neg (fun z => hi (i0.mp z)), z1, nc_bV_v, show (0 : Int32) = nI 0 from rfl, sm_242 (u := min u 7) (by omega) z4'] at c3
          generalize hV : row v6 890 0 (fun j => if 256 * min u 7 ≤ j ∧ j < 256 * min u 7 + 256 then v6.1 891 0 (j - 256 * min u 7) else v6.1 890 0 j) = V at c3
          have V8 : V.1 874 0 = S2 := by rw [← hV, row_t (by decide), z2.2 874 0 (by unfold mK; omega), bkV_n (by omega), m8]
          have q1 : ∀ t a, ¬ (a = 0 ∧ (t = 12 ∨ t = 874 ∨ t = 876 ∨ t = 889 ∨ t = 890 ∨ t = 891 ∨ t = 905)) → V.1 t a = w6.1 t a := fun t a q => by
            rw [← hV, row_n (by omega), z2.2 t a (by unfold mK; omega), bkV_n (by omega), m1 t a (by omega)]
          have q12 : ∀ k, k ≠ 24 → V.1 12 0 k = (bkV v4).1 12 0 k := fun k hk => by
            rw [← hV, row_t (by decide), z3 k hk]
          have V891 : ∀ k, k < 256 → v6.1 891 0 k = w.1 874 0 (76 + k) := fun k hk => by
            rw [z2.2 891 0 (by unfold mK; omega), bkV_n (by omega), m6 k hk]
          have V890 : V.1 890 0 = kpU (w.1 890 0) (w.1 874 0) u := by
            rw [← hV, row_s]
            funext j
            unfold kpU
            by_cases q : 256 * min u 7 ≤ j ∧ j < 256 * min u 7 + 256
            · rw [if_pos q, if_pos q, V891 _ (by omega)]
            · rw [if_neg q, if_neg q, z5]
              unfold kpU
              rw [if_neg q, bkV_n (by omega), m1 890 0 (by omega), n6 890 0 (by omega) (by unfold lP; omega) (by omega)]
          have LRk : LR w5 (2 + (nw + 1) % 8) (w.1 874 0) f C N := LR_cp hf hC hN k3 (LR_eq hST.2.2.2.2.1 (fun t ht => n4 t 0 (by omega) (by unfold lP; omega)))
          have LRt : LR w5 1 S2 f C N := LR_eq c5.2.2.2.2.2.2.2.2 (fun t ht => k2.2 t 1 (by unfold kC lC; omega))
          have LR6 : LR w6 0 S2 f C N := LR_cp hf hC hN y3 LRt
          refine ⟨r, w6, V, CL, c3, ?_⟩
          refine bk_end (d' := d2) (v4 := v4) hI0 hW c5 c7 m7 ?_ ?_ (fun t a q x1 x2 => ?_) (fun t ht => ?_) (fun t a q => ?_) (fun k q => ?_) ?_ ?_ (fun k hk => by rw [V8]; exact c9 k hk) (by rw [V8]; exact c8) ?_ ?_
          · rw [← hV, row_t (by decide), z2.2 905 0 (by unfold mK; omega), bkV_9, m8]
          · rw [q12 38 (by decide), bkV_38]
          · rw [q1 t a (by omega), n6 t a (by omega) x1 x2]
          · rw [q1 t 0 (by omega), y2.2 t 0 (by unfold lC; omega), k2.2 t 0 (by unfold kC lC; omega)]
          · rw [← hV, row_2, z2.1]
            exact (m2 t a (by omega)).trans (n7 t a (by omega))
          · rw [q12 k (by omega), bkV_k (by omega), m3 k (by omega), e12]
          · rw [q12 2 (by decide), bkV_k (by decide), m4]
          · rw [q12 15 (by decide), bkV_k (by decide), m5]
          · rw [V8]
            exact LR_eq LR6 (fun t ht => q1 t 0 (by omega))
          · rw [V8]
            refine HR_keep hX (LR_eq LRk (fun t ht => ?_)) hST.2.1 (fun a a1 a2 a3 t ht => ?_) ?_ ?_ ?_ V890 c9
            · rw [q1 t _ (by omega), y2.2 t _ (by unfold lC; omega)]
            · rw [q1 t a (by omega), y2.2 t a (by unfold lC; omega), k2.2 t a (by unfold kC lC; omega), n4 t a (by omega) (by unfold lP; omega)]
            · rw [← hV, row_t (by decide), z4]
            · rw [q1 5 0 (by omega), y2.2 5 0 (by unfold lC; omega), k5]
            · rw [q1 5 0 (by omega), y2.2 5 0 (by unfold lC; omega), k4]
  · refine rd hI ⟨-1000, ?_, ?_⟩
    · rw [qc_X11_book, if_neg (n01 hx).1, if_neg (n01 hx).2]
    · rw [qc_X12_book, nc_lt_v, thr_si, sm_isIn, nc_bI_v, tI_f (fun q => hx (isIn01.mp q)), if_neg (fun q => q rfl)]
end BQ
