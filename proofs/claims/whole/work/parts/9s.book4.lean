/-! book: read and judged. -/
section BO
variable {w w' v v' : nc_H} {f C N h d : Nat} {x : Int32}
theorem none_inj {w w' : nc_H} (e : (some (none, w) : Option nc_R) = some (none, w')) : w = w' := by
  injection e with e
  injection e with e1 e2
theorem sm_89 : nc_Run m_X12_book 89 [some mO, some (.inl x), some (.inl 0), none] [] v = nc_Run m_X12_book 111 [some mO, some (.inl x), some (.inl (-1)), some (.inl (nI 0))] [] (row v 905 0 (upd (upd (upd (upd (v.1 905 0) 0 0) 1 0) 2 0) 3 0)) := by
  rw [qr_X12_book_89, if_neg (by decide), lb0 (by decide) (by decide), nc_lt_v, nc_li_v, show (0 : Int32) + 1 = 1 from rfl, qr_X12_book_89, if_neg (by decide), lb1 (by decide) (by decide), nc_lt_v, nc_li_v, show (1 : Int32) + 1 = 2 from rfl, qr_X12_book_89, if_neg (by decide), lb2 (by decide) (by decide), nc_lt_v, nc_li_v, show (2 : Int32) + 1 = 3 from rfl, qr_X12_book_89, if_neg (by decide), lb3 (by decide) (by decide), nc_lt_v, nc_li_v, show (3 : Int32) + 1 = 4 from rfl, qr_X12_book_89, if_pos (by decide)]
  simp only [si_rw, row_s, row_r]
  rfl
/-- the class's heap behind a judged book -/
def cG (w w4 : nc_H) (S' : Nat → Int32) (f C N i : Nat) : Prop := (∀ t a, ¬ (a = 0 ∧ (t = 0 ∨ t = 10 ∨ (743 ≤ t ∧ t ≤ 746) ∨ (100 ≤ t ∧ t ≤ 102))) → ¬ lP 1 t a → w4.1 t a = w.1 t a) ∧ (∀ t a, ¬ (a = 0 ∧ (t = 0 ∨ t = 10 ∨ (743 ≤ t ∧ t ≤ 746) ∨ (100 ≤ t ∧ t ≤ 102))) → w4.2 t a = w.2 t a) ∧ w4.1 10 0 1 = 0 ∧ w4.1 10 0 14 = 0 ∧ w4.1 0 0 4 = 1 ∧ w4.1 0 0 6 = nI i ∧ w4.1 0 0 7 = S' 76 ∧ w4.1 0 0 8 = S' 77 ∧ LR w4 1 S' f C N
/-- the model's -/
def mG (v v4 : nc_H) (S S' : Nat → Int32) (i : Nat) : Prop := (∀ t a, ¬ (a = 0 ∧ (t = 12 ∨ t = 874 ∨ t = 876 ∨ t = 889 ∨ t = 891 ∨ t = 905)) → v4.1 t a = v.1 t a) ∧ (∀ t a, ¬ (a = 0 ∧ (t = 12 ∨ t = 876)) → v4.2 t a = v.2 t a) ∧ (∀ k, ¬ (k = 0 ∨ (2 ≤ k ∧ k ≤ 5) ∨ (11 ≤ k ∧ k ≤ 16) ∨ k = 18 ∨ k = 36) → v4.1 12 0 k = v.1 12 0 k) ∧ v4.1 12 0 2 = 0 ∧ v4.1 12 0 15 = 0 ∧ (∀ k, k < 256 → v4.1 891 0 k = S (76 + k)) ∧ v4.1 905 0 1 = nI i ∧ v4.1 874 0 = S'
theorem jb_all (hI : Inv w) (hW : NW w f C N h d) (hx : rng x 2) (e12 : v.1 12 0 2 = w.1 12 0 2) (e869 : v.1 869 0 = w.1 869 0) (e874 : v.1 874 0 = w.1 874 0) (e877 : v.2 877 0 = w.2 877 0) (e742 : v.2 742 0 = w.2 742 0) (e878 : v.2 878 0 = w.2 878 0) : ∃ r0 w0, nc_Call m_X0_read [.inr (.inr (0, 0)), tO, .inr (.inr (2, 0))] w = some (some (.inl r0), w0) ∧ cK w w0 ∧ ((r0 = 0 ∧ ∃ v0, mY v v0 ∧ FQ w0 v0 ∧ nc_Call m_X12_book [mO, .inl x] v = some (some (.inl (-2 - v0.1 12 0 16)), v0)) ∨ (r0 = 1 ∧ ∃ w2 r w4 v4 i S' d', nc_Call m_X7_copyFrom [lO 1, lO 0] (nc_si w0 10 0 1 0) = some (none, w2) ∧ nc_Call m_X0_judge [.inr (.inr (0, 0)), lO 1] w2 = some (some (.inl r), w4) ∧ nc_Call m_X12_book [mO, .inl x] v = bkE x r v4 ∧ i ≤ 40 ∧ cG w w4 S' f C N i ∧ mG v v4 (w.1 874 0) S' i ∧ w4.1 0 0 5 = v4.1 905 0 0 ∧ lok S' C N d' ∧ (∀ k, k < 76 ∨ 332 ≤ k → S' k = w.1 874 0 k) ∧ (i = 0 → S' = w.1 874 0))) := by
  obtain ⟨⟨l, l1, l2, l3⟩, t2, t3⟩ := hI.2.2.2.2.2.1
  have hT := hI.2.2.2.2.2.2.2
  obtain ⟨⟨x1, x2, x3, x4, x5, x6⟩, -⟩ := hW
  have hf : f ≤ 4 := x3.1.2.2.2.2.1
  have hC : C ≤ 8 := x3.1.2.2.2.2.2.1
  have hN : N ≤ 10 := x3.1.2.2.2.2.2.2.1
  have NSw : NS w v f C N := by
    refine ⟨?_, hf, hC, hN, ?_, ?_, ?_⟩
    · have e : (fun k => v.2 877 0 (0 + k)) = w.2 877 0 := by
        funext k
        rw [Nat.zero_add, e877]
      rw [e]
      exact x4.2.2
    · rw [e874]; exact x3.1.1
    · rw [e874]; exact x3.1.2.1
    · rw [e874]; exact x3.1.2.2.1
  obtain ⟨r0, w0, v0, a1, a2, a3, a4⟩ := jb_read (v := v) hx (tb_B l1 l2) hT (by rw [e12]; exact l3) (tb_M t2 e869) (TW_z hT e742 e878) NSw
  refine ⟨r0, w0, a1, a2, ?_⟩
  rcases a4 with ⟨rfl, fq, a4⟩ | ⟨rfl, a4, f0, m, B⟩
  · exact Or.inl ⟨rfl, v0, a3, fq, a4⟩
  · refine Or.inr ⟨rfl, ?_⟩
    obtain ⟨w2, b1, b2, b3⟩ := sl_copyFrom (w := nc_si w0 10 0 1 0) (a := 1) (b := 0) (by decide)
    have r1 : ∀ t a, ¬ (a = 0 ∧ (t = 0 ∨ t = 10 ∨ (743 ≤ t ∧ t ≤ 746) ∨ (100 ≤ t ∧ t ≤ 102))) → ¬ lC 1 t a → w2.1 t a = w.1 t a := fun t a q q2 => by
      rw [b2.2 t a q2]
      by_cases e : t = 10
      · subst e
        rw [si_a (by omega)]
        exact (a2.1 10 a (by omega)).1
      · rw [si_t e]
        exact (a2.1 t a q).1
    have r2 : ∀ t a, ¬ (a = 0 ∧ (t = 0 ∨ t = 10 ∨ (743 ≤ t ∧ t ≤ 746) ∨ (100 ≤ t ∧ t ≤ 102))) → w2.2 t a = w.2 t a := fun t a q => by
      rw [b2.1]
      exact (a2.1 t a q).2
    have r0' : w2.1 0 0 = w0.1 0 0 := by rw [b2.2 0 0 (by unfold lC; omega), si_t (by decide)]
    have L2 : LR w2 1 (w.1 874 0) f C N := LR_cp hf hC hN b3 (LR_eq x5 (fun t ht => by rw [si_t (by omega)]; exact (a2.1 t 0 (by omega)).1))
    obtain ⟨B1, B2, B3, B4⟩ := B
    obtain ⟨m1, m2, m3, m4⟩ := a3
    have hcl := qc_X0_judge 0 1 w2
    simp only [nc_lt_v, si_rw, row_s, row_r] at hcl
    generalize hG : upd (upd (upd (w2.1 0 0) 4 1) 5 0) 6 0 = G at hcl
    have G3 : G 3 = nI m := by rw [← hG, upd_n (by decide), upd_n (by decide), upd_n (by decide), r0']; exact B1
    rw [sm_tries, nc_bV_v, sm_89] at a4
    generalize hv3 : row (row v0 891 0 (fun k => if k < 256 then v0.1 874 0 (76 + k) else v0.1 891 0 k)) 905 0 (upd (upd (upd (upd ((row v0 891 0 (fun k => if k < 256 then v0.1 874 0 (76 + k) else v0.1 891 0 k)).1 905 0) 0 0) 1 0) 2 0) 3 0) = v3 at a4
    have g1 : ∀ t a, ¬ (a = 0 ∧ (t = 891 ∨ t = 905)) → v3.1 t a = v0.1 t a := fun t a q => by
      rw [← hv3, row_n (by omega), row_n (by omega)]
    have g2 : v3.2 = v0.2 := by rw [← hv3]; rfl
    have g3 : ∀ k, k < 256 → v3.1 891 0 k = v0.1 874 0 (76 + k) := fun k hk => by
      rw [← hv3, row_t (by decide), row_s, if_pos hk]
    have g5 : v3.1 905 0 0 = 0 := by rw [← hv3, row_s]; rfl
    have g6 : v3.1 905 0 1 = nI 0 := by rw [← hv3, row_s]; rfl
    have s3 : v3.1 874 0 = w.1 874 0 := by rw [g1 874 0 (by omega), (m1 874 0 (by omega)).1, e874]
    have lA : lnA (row w2 0 0 G) v3 C N m := by
      unfold lnA
      rw [row_t (show 100 ≠ 0 by decide), row_t (show 101 ≠ 0 by decide), row_t (show 102 ≠ 0 by decide), g1 876 0 (by omega), b2.2 100 0 (by unfold lC; omega), b2.2 101 0 (by unfold lC; omega), b2.2 102 0 (by unfold lC; omega), si_t (show 100 ≠ 10 by decide), si_t (show 101 ≠ 10 by decide), si_t (show 102 ≠ 10 by decide)]
      exact B4
    have L3 : Lv (row w2 0 0 G) v3 f C N h (w.1 874 0) d := ⟨LR_eq L2 (fun t ht => by rw [row_t (by omega)]), DR_eq x3 (fun t ht => by rw [row_t (by omega), r1 t 0 (by omega) (by unfold lC; omega)]) (fun _ _ => rfl), x1, x2, s3⟩
    obtain ⟨r, i, S', d', w4, v4, j1, j2, j3, j4, j5, j6, j7, j8, j9, j10, j11, j12, j13⟩ := jg_loop (x := x) B2 m 0 (row w2 0 0 G) v3 (w.1 874 0) d (by omega) lA (by rw [row_s]; exact G3) (by rw [row_s, ← hG]; rfl) (by rw [row_s, ← hG]; rfl) g5 g6 (by rw [g1 12 0 (by omega)]; exact B3) L3
    refine ⟨w2, r, w4, v4, i, S', d', b1, hcl.trans j1, a4.trans j2, by omega, ⟨fun t a q q2 => ?_, fun t a q => ?_, ?_, ?_, ?_, j10, j12, j13, j6.1⟩, ⟨fun t a q => ?_, fun t a q => ?_, fun k q => ?_, ?_, ?_, fun k hk => ?_, j11, j6.2.2.2.2⟩, j9, j6.2.2.2.1, j7, j8.2.2⟩
    · rw [j3.2 t a (fun z => z.elim (fun z => q (by omega)) q2), row_n (by omega), r1 t a q (by unfold lP at q2; unfold lC; omega)]
    · rw [j3.1, row_2, r2 t a q]
    · rw [j3.2 10 0 (by unfold jJ lP; omega), row_t (by decide), b2.2 10 0 (by unfold lC; omega), si_s]
    · rw [j3.2 10 0 (by unfold jJ lP; omega), row_t (by decide), b2.2 10 0 (by unfold lC; omega), si_k (by decide)]
      exact f0.1
    · rw [j5 4 (by omega), row_s, ← hG]
      rfl
    · rw [j4.2 t a (by unfold mJ; omega), g1 t a (by omega), (m1 t a (by omega)).1]
    · rw [j4.1, g2, (m1 t a q).2]
    · rw [j4.2 12 0 (by unfold mJ; omega), g1 12 0 (by omega), m2 k q]
    · rw [j4.2 12 0 (by unfold mJ; omega), g1 12 0 (by omega), m4]
    · rw [j4.2 12 0 (by unfold mJ; omega), g1 12 0 (by omega)]
      exact f0.2
    · rw [j4.2 891 0 (by unfold mJ; omega), g3 k hk, (m1 874 0 (by omega)).1, e874]
end BO
