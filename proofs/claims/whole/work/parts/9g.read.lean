/-! All lines of a dairy, of both. -/
section LR2
variable {w w' v v' : nc_H} {b : Nat → Nat} {sz lim n i z : Nat} {t : Tok} {f C N h : Nat} {S S' : Nat → Int32}
theorem sm_line_bad (hT : MT v t) (hk : tkk sz lim t) (hq : wq t ≠ 0 ∧ wq t ≠ 1 ∧ wq t ≠ 2 ∧ wq t ≠ 8 ∧ wq t ≠ 9) : nc_Call m_X12_line [mO] v = nc_bI (nc_Call m_X12_bad [mO, .inl 1] v) fun r18 w17 => nc_z r18 <| some (some (.inl r18), w17) := by
  rw [qc_X12_line, wl_0, sm_wq (by decide) hT hk, nc_bI_v, tI_f hq.1, if_pos rfl, wl_1, sm_wq (by decide) hT hk, nc_bI_v, tI_f hq.2.1, if_pos rfl, wl_2, sm_wq (by decide) hT hk, nc_bI_v, tI_f hq.2.2.1, if_pos rfl, wl_8, sm_wq (by decide) hT hk, nc_bI_v, tI_f hq.2.2.2.1, if_pos rfl, wl_9, sm_wq (by decide) hT hk, nc_bI_v, tI_f hq.2.2.2.2, if_neg (fun z => z rfl)]
theorem LQ_z {A B : Option nc_R} (h : LQ w v A b sz lim n i) (e : ∀ r w', (r = 0 ∨ r = 1) → A = some (some (.inl r), w') → B = some (some (.inl r), w')) : LQ w v B b sz lim n i := by
  obtain ⟨r, w', v', a1, a2, a3, a4, a5⟩ := h
  exact ⟨r, w', v', e r w' (a5.elim (fun z => Or.inl z.1) (fun z => Or.inr z.1)) a1, a2, a3, a4, a5⟩
theorem ln_line (P : Pr w v b sz lim n i t f C N h) : LQ w v (nc_Call m_X3_readLine [.inr (.inr (3, 0))] w) b sz lim n i := by
  have p3 := P.2.2.1
  have p6 := P.2.2.2.2.2.1
  have p10 := P.2.2.2.2.2.2.2.2.2
  have hx : ∀ j, j < 10 → ((if wq t < 24 then nI (wq t) else (-1 : Int32)) = nI j ↔ wq t = j) := by
    intro j hj
    have := wq_le (t := t)
    by_cases q : wq t < 24
    · rw [if_pos q]
      exact nI_eq (by omega) (by omega)
    · rw [if_neg q]
      exact ⟨fun e => absurd e.symm ((by decide +kernel : ∀ j, j < 10 → nI j ≠ -1) j hj), fun e => by omega⟩
  have n0 : ∀ {j : Nat}, j < 10 → wq t ≠ j → ¬ (if wq t < 24 then nI (wq t) else (-1 : Int32)) = nI j := fun hj hne e => hne ((hx _ hj).mp e)
  have y0 : ∀ {j : Nat}, j < 10 → wq t = j → (if wq t < 24 then nI (wq t) else (-1 : Int32)) = nI j := fun hj he => (hx _ hj).mpr he
  have bad : wq t ≠ 0 ∧ wq t ≠ 1 ∧ wq t ≠ 2 ∧ wq t ≠ 8 ∧ wq t ≠ 9 → LQ w v (nc_bI (nc_Call m_X10_fail [tO, .inl 1] w) fun r w1 => nc_z r <| some (some (.inl r), w1)) b sz lim n i := by
    intro hq
    obtain ⟨w2, v2, a1, a2, a3, a4, a5⟩ := jt_fail (w := w) (v := v) (t := t) 1 p3.1 p6.2.1
    refine ⟨0, w2, v2, ?_, ⟨0, v2, ?_, Or.inl ⟨rfl, rfl, rfl⟩⟩, a3.cR, a4.mR, Or.inl ⟨rfl, a5⟩⟩
    · rw [a1, nc_bI_v, nc_z_0]
    · rw [sm_line_bad p6 p10 hq, a2, nc_bI_v, nc_z_0]
  rw [qc_X3_readLine, sa_word p3 p10, nc_bI_v]
  have c : wq t = 0 ∨ wq t = 1 ∨ wq t = 2 ∨ wq t = 3 ∨ wq t = 4 ∨ wq t = 5 ∨ wq t = 6 ∨ wq t = 7 ∨ wq t = 8 ∨ wq t = 9 ∨ 10 ≤ wq t := by omega
  rcases c with q | q | q | q | q | q | q | q | q | q | q
  · rw [if_pos (show (if wq t < 24 then nI (wq t) else (-1 : Int32)) = (0 : Int32) from y0 (j := 0) (by decide) q)]
    exact LQ_z (ln_farm P q) (fun r w' hr e => by rw [e, nc_bI_v, nc_z_of hr])
  · rw [if_neg (show ¬ (if wq t < 24 then nI (wq t) else (-1 : Int32)) = (0 : Int32) from n0 (j := 0) (by decide) (by omega)), if_pos (show (if wq t < 24 then nI (wq t) else (-1 : Int32)) = (1 : Int32) from y0 (j := 1) (by decide) q)]
    exact LQ_z (ln_cow P q) (fun r w' hr e => by rw [e, nc_bI_v, nc_z_of hr])
  · rw [if_neg (show ¬ (if wq t < 24 then nI (wq t) else (-1 : Int32)) = (0 : Int32) from n0 (j := 0) (by decide) (by omega)), if_neg (show ¬ (if wq t < 24 then nI (wq t) else (-1 : Int32)) = (1 : Int32) from n0 (j := 1) (by decide) (by omega)), if_pos (show (if wq t < 24 then nI (wq t) else (-1 : Int32)) = (2 : Int32) from y0 (j := 2) (by decide) q)]
    exact LQ_z (ln_news P q) (fun r w' hr e => by rw [e, nc_bI_v, nc_z_of hr])
  · rw [if_neg (show ¬ (if wq t < 24 then nI (wq t) else (-1 : Int32)) = (0 : Int32) from n0 (j := 0) (by decide) (by omega)), if_neg (show ¬ (if wq t < 24 then nI (wq t) else (-1 : Int32)) = (1 : Int32) from n0 (j := 1) (by decide) (by omega)), if_neg (show ¬ (if wq t < 24 then nI (wq t) else (-1 : Int32)) = (2 : Int32) from n0 (j := 2) (by decide) (by omega)), if_pos (show (if wq t < 24 then nI (wq t) else (-1 : Int32)) = (3 : Int32) from y0 (j := 3) (by decide) q)]
    exact bad (by omega)
  · rw [if_neg (show ¬ (if wq t < 24 then nI (wq t) else (-1 : Int32)) = (0 : Int32) from n0 (j := 0) (by decide) (by omega)), if_neg (show ¬ (if wq t < 24 then nI (wq t) else (-1 : Int32)) = (1 : Int32) from n0 (j := 1) (by decide) (by omega)), if_neg (show ¬ (if wq t < 24 then nI (wq t) else (-1 : Int32)) = (2 : Int32) from n0 (j := 2) (by decide) (by omega)), if_neg (show ¬ (if wq t < 24 then nI (wq t) else (-1 : Int32)) = (3 : Int32) from n0 (j := 3) (by decide) (by omega)), if_pos (show (if wq t < 24 then nI (wq t) else (-1 : Int32)) = (4 : Int32) from y0 (j := 4) (by decide) q)]
    exact bad (by omega)
  · rw [if_neg (show ¬ (if wq t < 24 then nI (wq t) else (-1 : Int32)) = (0 : Int32) from n0 (j := 0) (by decide) (by omega)), if_neg (show ¬ (if wq t < 24 then nI (wq t) else (-1 : Int32)) = (1 : Int32) from n0 (j := 1) (by decide) (by omega)), if_neg (show ¬ (if wq t < 24 then nI (wq t) else (-1 : Int32)) = (2 : Int32) from n0 (j := 2) (by decide) (by omega)), if_neg (show ¬ (if wq t < 24 then nI (wq t) else (-1 : Int32)) = (3 : Int32) from n0 (j := 3) (by decide) (by omega)), if_neg (show ¬ (if wq t < 24 then nI (wq t) else (-1 : Int32)) = (4 : Int32) from n0 (j := 4) (by decide) (by omega)), if_pos (show (if wq t < 24 then nI (wq t) else (-1 : Int32)) = (5 : Int32) from y0 (j := 5) (by decide) q)]
    exact bad (by omega)
  · rw [if_neg (show ¬ (if wq t < 24 then nI (wq t) else (-1 : Int32)) = (0 : Int32) from n0 (j := 0) (by decide) (by omega)), if_neg (show ¬ (if wq t < 24 then nI (wq t) else (-1 : Int32)) = (1 : Int32) from n0 (j := 1) (by decide) (by omega)), if_neg (show ¬ (if wq t < 24 then nI (wq t) else (-1 : Int32)) = (2 : Int32) from n0 (j := 2) (by decide) (by omega)), if_neg (show ¬ (if wq t < 24 then nI (wq t) else (-1 : Int32)) = (3 : Int32) from n0 (j := 3) (by decide) (by omega)), if_neg (show ¬ (if wq t < 24 then nI (wq t) else (-1 : Int32)) = (4 : Int32) from n0 (j := 4) (by decide) (by omega)), if_neg (show ¬ (if wq t < 24 then nI (wq t) else (-1 : Int32)) = (5 : Int32) from n0 (j := 5) (by decide) (by omega)), if_pos (show (if wq t < 24 then nI (wq t) else (-1 : Int32)) = (6 : Int32) from y0 (j := 6) (by decide) q)]
    exact bad (by omega)
  · rw [if_neg (show ¬ (if wq t < 24 then nI (wq t) else (-1 : Int32)) = (0 : Int32) from n0 (j := 0) (by decide) (by omega)), if_neg (show ¬ (if wq t < 24 then nI (wq t) else (-1 : Int32)) = (1 : Int32) from n0 (j := 1) (by decide) (by omega)), if_neg (show ¬ (if wq t < 24 then nI (wq t) else (-1 : Int32)) = (2 : Int32) from n0 (j := 2) (by decide) (by omega)), if_neg (show ¬ (if wq t < 24 then nI (wq t) else (-1 : Int32)) = (3 : Int32) from n0 (j := 3) (by decide) (by omega)), if_neg (show ¬ (if wq t < 24 then nI (wq t) else (-1 : Int32)) = (4 : Int32) from n0 (j := 4) (by decide) (by omega)), if_neg (show ¬ (if wq t < 24 then nI (wq t) else (-1 : Int32)) = (5 : Int32) from n0 (j := 5) (by decide) (by omega)), if_neg (show ¬ (if wq t < 24 then nI (wq t) else (-1 : Int32)) = (6 : Int32) from n0 (j := 6) (by decide) (by omega)), if_pos (show (if wq t < 24 then nI (wq t) else (-1 : Int32)) = (7 : Int32) from y0 (j := 7) (by decide) q)]
    exact bad (by omega)
  · rw [if_neg (show ¬ (if wq t < 24 then nI (wq t) else (-1 : Int32)) = (0 : Int32) from n0 (j := 0) (by decide) (by omega)), if_neg (show ¬ (if wq t < 24 then nI (wq t) else (-1 : Int32)) = (1 : Int32) from n0 (j := 1) (by decide) (by omega)), if_neg (show ¬ (if wq t < 24 then nI (wq t) else (-1 : Int32)) = (2 : Int32) from n0 (j := 2) (by decide) (by omega)), if_neg (show ¬ (if wq t < 24 then nI (wq t) else (-1 : Int32)) = (3 : Int32) from n0 (j := 3) (by decide) (by omega)), if_neg (show ¬ (if wq t < 24 then nI (wq t) else (-1 : Int32)) = (4 : Int32) from n0 (j := 4) (by decide) (by omega)), if_neg (show ¬ (if wq t < 24 then nI (wq t) else (-1 : Int32)) = (5 : Int32) from n0 (j := 5) (by decide) (by omega)), if_neg (show ¬ (if wq t < 24 then nI (wq t) else (-1 : Int32)) = (6 : Int32) from n0 (j := 6) (by decide) (by omega)), if_neg (show ¬ (if wq t < 24 then nI (wq t) else (-1 : Int32)) = (7 : Int32) from n0 (j := 7) (by decide) (by omega)), if_pos (show (if wq t < 24 then nI (wq t) else (-1 : Int32)) = (8 : Int32) from y0 (j := 8) (by decide) q)]
    exact LQ_z (ln_hedge P q) (fun r w' hr e => by rw [e, nc_bI_v, nc_z_of hr])
  · rw [if_neg (show ¬ (if wq t < 24 then nI (wq t) else (-1 : Int32)) = (0 : Int32) from n0 (j := 0) (by decide) (by omega)), if_neg (show ¬ (if wq t < 24 then nI (wq t) else (-1 : Int32)) = (1 : Int32) from n0 (j := 1) (by decide) (by omega)), if_neg (show ¬ (if wq t < 24 then nI (wq t) else (-1 : Int32)) = (2 : Int32) from n0 (j := 2) (by decide) (by omega)), if_neg (show ¬ (if wq t < 24 then nI (wq t) else (-1 : Int32)) = (3 : Int32) from n0 (j := 3) (by decide) (by omega)), if_neg (show ¬ (if wq t < 24 then nI (wq t) else (-1 : Int32)) = (4 : Int32) from n0 (j := 4) (by decide) (by omega)), if_neg (show ¬ (if wq t < 24 then nI (wq t) else (-1 : Int32)) = (5 : Int32) from n0 (j := 5) (by decide) (by omega)), if_neg (show ¬ (if wq t < 24 then nI (wq t) else (-1 : Int32)) = (6 : Int32) from n0 (j := 6) (by decide) (by omega)), if_neg (show ¬ (if wq t < 24 then nI (wq t) else (-1 : Int32)) = (7 : Int32) from n0 (j := 7) (by decide) (by omega)), if_neg (show ¬ (if wq t < 24 then nI (wq t) else (-1 : Int32)) = (8 : Int32) from n0 (j := 8) (by decide) (by omega)), if_pos (show (if wq t < 24 then nI (wq t) else (-1 : Int32)) = (9 : Int32) from y0 (j := 9) (by decide) q)]
    exact LQ_z (ln_hears P q) (fun r w' hr e => by rw [e, nc_bI_v, nc_z_of hr])
  · rw [if_neg (show ¬ (if wq t < 24 then nI (wq t) else (-1 : Int32)) = (0 : Int32) from n0 (j := 0) (by decide) (by omega)), if_neg (show ¬ (if wq t < 24 then nI (wq t) else (-1 : Int32)) = (1 : Int32) from n0 (j := 1) (by decide) (by omega)), if_neg (show ¬ (if wq t < 24 then nI (wq t) else (-1 : Int32)) = (2 : Int32) from n0 (j := 2) (by decide) (by omega)), if_neg (show ¬ (if wq t < 24 then nI (wq t) else (-1 : Int32)) = (3 : Int32) from n0 (j := 3) (by decide) (by omega)), if_neg (show ¬ (if wq t < 24 then nI (wq t) else (-1 : Int32)) = (4 : Int32) from n0 (j := 4) (by decide) (by omega)), if_neg (show ¬ (if wq t < 24 then nI (wq t) else (-1 : Int32)) = (5 : Int32) from n0 (j := 5) (by decide) (by omega)), if_neg (show ¬ (if wq t < 24 then nI (wq t) else (-1 : Int32)) = (6 : Int32) from n0 (j := 6) (by decide) (by omega)), if_neg (show ¬ (if wq t < 24 then nI (wq t) else (-1 : Int32)) = (7 : Int32) from n0 (j := 7) (by decide) (by omega)), if_neg (show ¬ (if wq t < 24 then nI (wq t) else (-1 : Int32)) = (8 : Int32) from n0 (j := 8) (by decide) (by omega)), if_neg (show ¬ (if wq t < 24 then nI (wq t) else (-1 : Int32)) = (9 : Int32) from n0 (j := 9) (by decide) (by omega))]
    exact bad (by omega)
/-- an end is too long or none -/
theorem tkn_end (he : isE (tkn b sz lim z)) : (tkn b sz lim z).1 = 6 ↔ lim < sz := by
  by_cases q : lim < sz ∧ lim ≤ z
  · rw [tkn_6 q.1 q.2]
    exact ⟨fun _ => q.1, fun _ => rfl⟩
  · by_cases c0 : z < sz
    · exfalso
      by_cases ca : alB (b z) = true
      · exact (tkn_run c0 ca q).2.2 he
      · have ca' := Bool.eq_false_iff.mpr ca
        by_cases cs : sgB (b z) = true
        · rw [tkn_5 q c0 ca' cs] at he
          rcases he with e | e <;> exact absurd e (show ¬ (5 : Nat) = _ by decide)
        · rw [tkn_n q c0 ca' (Bool.eq_false_iff.mpr cs)] at he
          rcases he with e | e <;> exact absurd e (show ¬ (1 : Nat) = _ by decide)
    · rw [tkn_0 q (by omega)]
      exact ⟨fun e => absurd e (show ¬ (0 : Nat) = 6 by decide), fun e => by omega⟩
theorem Tk_e6 (he : isE (Tk b sz lim i)) : (Tk b sz lim i).1 = 6 ↔ lim < sz := by
  cases i with
  | zero => exact tkn_end he
  | succ i => exact tkn_end he
theorem wq_isE (h : isE t) : wq t = 24 := by
  have h' : t.1 = 0 ∨ t.1 = 6 := h
  exact if_neg (by omega)
theorem DD_line (hD : DD w v f C N h) : DD (nc_si w 2 1 0 (w.1 2 1 0 + 1)) (nc_si v 12 0 19 (v.1 12 0 19 + 1)) f C N h := by
  obtain ⟨⟨s, h1, h2, h3, h4⟩, ⟨x1, x2, x3⟩, k, d4, d5, d6⟩ := hD
  have e8 : (nc_si v 12 0 19 (v.1 12 0 19 + 1)).1 875 0 = v.1 875 0 := by rw [si_t (by decide)]
  have er : ∀ t, t ≠ 2 → (nc_si w 2 1 0 (w.1 2 1 0 + 1)).1 t = w.1 t := fun t ht => si_t ht
  have e2 : ∀ j, j ≠ 0 → (nc_si w 2 1 0 (w.1 2 1 0 + 1)).1 2 1 j = w.1 2 1 j := fun j hj => si_k hj
  unfold DD
  rw [e8]
  refine ⟨⟨s, ?_, ?_, ?_, ?_⟩, ⟨?_, ?_, x3⟩, k, d4, ?_, ?_⟩
  · rw [e2 1 (by decide), e2 2 (by decide), e2 3 (by decide), e2 4 (by decide), e2 5 (by decide), e2 6 (by decide)]
    exact h1
  · rw [er 238 (by decide), er 239 (by decide), er 240 (by decide), er 241 (by decide)]
    exact h2
  · rw [er 242 (by decide), er 243 (by decide)]
    exact h3
  · rw [er 244 (by decide), er 245 (by decide), er 246 (by decide)]
    exact h4
  · rw [er 237 (by decide)]
    exact x1
  · rw [e2 7 (by decide)]
    exact x2
  · rw [er 3 (by decide), si_k (by decide)]
    exact d5
  · rw [si_s, si_s, d6]
end LR2
