/-! The model's next TOKEN. -/
section MX
variable {v v' : nc_H} {b : Nat → Nat} {sz lim p z : Nat}
theorem km_v {k a n x : Nat} {l : List Nat} : km (k, a, n, x, l) = if k = 1 then 4 else if k = 2 then 1 else if k = 4 then 2 else if k = 5 then 3 else if k = 6 then 4 else 0 := rfl
theorem sm_80 (hM : MS v b sz lim) (h4 : v.1 12 0 4 = nI z) (h12 : v.1 12 0 12 = nI z) (h13 : v.1 12 0 13 = 0) (hz : z ≤ sz) (hn : ¬ (lim < sz ∧ lim ≤ z)) : ∃ v', nc_Run m_X12_next 80 [some mO, none, none, none] [] v = some (none, v') ∧ mN v v' ∧ MT v' (tkn b sz lim z) := by
  have h3 := hM.2.2.1
  rw [qr_X12_next_80, sm_peek hM h4 hz, nc_bI_v]
  unfold pkB
  by_cases q : z < sz
  · have hb := (hM.2.2.2.2 z (by omega)).1
    rw [if_pos q, if_pos (show (0 : Int32) ≤ nI (b z) from nI_le (a := 0) (Nat.zero_le _) (by omega)), sm_small hb, nc_bI_v]
    by_cases qa : alB (b z) = true
    · have go : (∀ {X Y : Option nc_R}, X = Y → X = Y) := fun h => h
      obtain ⟨r1, r2, r3, r4⟩ := rln_spec q qa
      have hu : mN v (nc_si (nc_sl v 12 0 17 0) 12 0 14 0) := mN.rf.sl.si (by omega)
      obtain ⟨v', a1, a2, a3, a4, a5, a6, a7⟩ := sm_run (lim := lim) (s := smB (b z)) r1 r3 r4 (rln b sz z) 0 (nc_si (nc_sl v 12 0 17 0) 12 0 14 0) (by omega) (MS_mN hM hu) (by rw [si_k (by decide)]; exact h4) (by rw [si_k (by decide)]; exact h13) (by rw [si_2, sl_s]; rfl) (by rw [si_s]; rfl)
      refine ⟨v', ?_, hu.tr a2, ?_⟩
      · refine Eq.trans ?_ a1
        rcases alB_t.mp qa with e | e
        · rw [e, if_pos (by decide), sm_small hb, nc_bI_v, e, nc_lt_v, nc_lt_v]
          rfl
        · by_cases e2 : smB (b z) = true
          · rw [e2, if_pos (by decide), sm_small hb, nc_bI_v, e2, nc_lt_v, nc_lt_v]
            rfl
          · rw [Bool.eq_false_iff.mpr e2, if_neg (fun z => z rfl), sm_digit' hb, nc_bI_v, e, if_pos (by decide), sm_small hb, nc_bI_v, Bool.eq_false_iff.mpr e2, nc_lt_v, nc_lt_v]
            rfl
      · have h12' : v'.1 12 0 12 = nI z := by
          rw [a4, si_k (by decide)]
          exact h12
        obtain ⟨k1, k2, k3⟩ := run_kd q qa
        by_cases c2 : (rl b z (rln b sz z)).all smB = true ∧ rln b sz z ≤ 7
        · rw [tkn_2 hn q qa c2.1 c2.2]
          have e : smB (b z) = true := (rl_all _).mp c2.1 0 (by omega)
          refine ⟨?_, h12', a3, fun _ => ?_, fun z => absurd z (by rintro (z | z) <;> exact absurd z (show ¬ (2 : Nat) = _ by decide))⟩
          · rw [a5, ← (k2 e).2, c2.1, e]
            exact if_pos c2.2
          · rw [a6, show min (rln b sz z) 7 = rln b sz z by omega]
        · by_cases c4 : (rl b z (rln b sz z)).all dgB = true ∧ rln b sz z ≤ 3
          · rw [tkn_4 hn q qa c2 c4.1 c4.2]
            have e : smB (b z) = false := Bool.eq_false_iff.mpr (fun z => (k2 z).1 c4.1)
            refine ⟨?_, h12', a3, fun z => absurd z (show ¬ (4 : Nat) = 2 by decide), fun _ => ?_⟩
            · rw [a5, ← (k3 e).2, c4.1, e]
              exact if_pos c4.2
            · rw [a7, show min (rln b sz z) 3 = rln b sz z by omega]
              exact num_eq _ c4.1
          · rw [tkn_1 hn q qa c2 c4]
            refine ⟨?_, h12', a3, fun z => absurd z (show ¬ (1 : Nat) = 2 by decide), fun z => absurd z (by rintro (z | z) <;> exact absurd z (show ¬ (1 : Nat) = _ by decide))⟩
            rw [a5]
            show _ = 4
            cases ea : (rl b z (rln b sz z)).all (fun c => smB c == smB (b z)) with
            | false => rfl
            | true =>
              cases e : smB (b z) with
              | true =>
                have := (k2 e).2.trans ea
                exact if_neg (fun z => c2 ⟨this, z⟩)
              | false =>
                have := (k3 e).2.trans ea
                exact if_neg (fun z => c4 ⟨this, z⟩)
    · have qa' := Bool.eq_false_iff.mpr qa
      have qq := qa'
      unfold alB at qq
      rw [Bool.or_eq_false_iff] at qq
      have fin : ∀ k : Int32, (nc_lt (nc_si v 12 0 11 k) fun w15 => nc_lt (nc_si w15 12 0 14 (nI (b z))) fun w16 => nc_lt (nc_si w16 12 0 4 ((w16.1 12 0 4) + 1)) fun w17 => (some (none, w17) : Option nc_R)) = some (none, nc_si (nc_si (nc_si v 12 0 11 k) 12 0 14 (nI (b z))) 12 0 4 (nI (z + 1))) := by
        intro k
        rw [nc_lt_v, nc_lt_v, nc_lt_v, si_k (by decide), si_k (by decide), h4, nI_1]
      refine ⟨nc_si (nc_si (nc_si v 12 0 11 (if sgB (b z) = true then 3 else 4)) 12 0 14 (nI (b z))) 12 0 4 (nI (z + 1)), ?_, ((mN.rf.si (by omega)).si (by omega)).si (by omega), ?_⟩
      · rw [qq.1, if_neg (fun z => z rfl), sm_digit' hb, nc_bI_v, qq.2, if_neg (fun z => z rfl)]
        by_cases c1 : b z = 59
        · rw [if_pos (show nI (b z) = 59 by rw [c1]; rfl), fin, if_pos (sgB_t.mpr (by omega))]
        · rw [if_neg (fun z => c1 ((nI_lit (by omega) 59 (by decide)).mp z))]
          by_cases c2 : b z = 40
          · rw [if_pos (show nI (b z) = 40 by rw [c2]; rfl), fin, if_pos (sgB_t.mpr (by omega))]
          · rw [if_neg (fun z => c2 ((nI_lit (by omega) 40 (by decide)).mp z))]
            by_cases c3 : b z = 41
            · rw [if_pos (show nI (b z) = 41 by rw [c3]; rfl), fin, if_pos (sgB_t.mpr (by omega))]
            · rw [if_neg (fun z => c3 ((nI_lit (by omega) 41 (by decide)).mp z))]
              have e1 : nI (b z) < (60 : Int32) ↔ b z < 60 := nI_litlt (n := 60) (by omega) (by omega)
              have e2 : (62 : Int32) < nI (b z) ↔ 62 < b z := nI_litlt (c := 62) (by omega) (by omega)
              by_cases c4 : b z < 60
              · rw [if_pos (e1.mpr c4), fin, if_neg (fun z => by have := sgB_t.mp z; omega)]
              · rw [if_neg (fun z => c4 (e1.mp z))]
                by_cases c5 : 62 < b z
                · rw [if_pos (e2.mpr c5), fin, if_neg (fun z => by have := sgB_t.mp z; omega)]
                · rw [if_neg (fun z => c5 (e2.mp z)), fin, if_pos (sgB_t.mpr (by omega))]
      · by_cases g : sgB (b z) = true
        · rw [tkn_5 hn q qa' g, if_pos g]
          refine ⟨?_, ?_, si_s, fun z => absurd z (show ¬ (5 : Nat) = 2 by decide), fun _ => ?_⟩
          · rw [si_k (by decide), si_k (by decide), si_s]
            rfl
          · rw [si_k (by decide), si_k (by decide), si_k (by decide)]
            exact h12
          · rw [si_k (by decide), si_s]
        · rw [tkn_n hn q qa' (Bool.eq_false_iff.mpr g), if_neg g]
          refine ⟨?_, ?_, si_s, fun z => absurd z (show ¬ (1 : Nat) = 2 by decide), fun z => absurd z (by rintro (z | z) <;> exact absurd z (show ¬ (1 : Nat) = _ by decide))⟩
          · rw [si_k (by decide), si_k (by decide), si_s]
            rfl
          · rw [si_k (by decide), si_k (by decide), si_k (by decide)]
            exact h12
  · rw [if_neg q, if_neg (by decide), nc_lt_v, tkn_0 hn (by omega)]
    refine ⟨_, rfl, mN.rf.si (by omega), ?_, ?_, ?_, fun z => absurd z (show ¬ (0 : Nat) = 2 by decide), fun z => absurd z (by rintro (z | z) <;> exact absurd z (show ¬ (0 : Nat) = _ by decide))⟩
    · rw [si_s]
      rfl
    · rw [si_k (by decide)]
      exact h12
    · rw [si_k (by decide)]
      exact h4
theorem bls_spec (hp : p ≤ sz) : p ≤ bls b sz p ∧ bls b sz p ≤ sz ∧ (∀ i, p ≤ i → i < bls b sz p → blB (b i) = true) ∧ (bls b sz p < sz → blB (b (bls b sz p)) = false) := by
  unfold bls
  have h1 := rnf_le (q := fun i => blB (b i)) (sz - p) p
  have h3 := rnf_out (q := fun i => blB (b i)) (sz - p) p
  refine ⟨by omega, by omega, fun i hi hj => ?_, fun q => h3 (by omega)⟩
  have := rnf_in (q := fun i => blB (b i)) (sz - p) p (i - p) (by omega)
  rw [show p + (i - p) = i by omega] at this
  exact this
/-- the model's next TOKEN -/
theorem sm_next (hM : MS v b sz lim) (hp : v.1 12 0 4 = nI p) (hps : p ≤ sz) : ∃ v', nc_Call m_X12_next [mO] v = some (none, v') ∧ mN v v' ∧ MT v' (tok b sz lim p) := by
  have c0 : nc_Call m_X12_next [mO] v = nc_Run m_X12_next 0 [some mO, none, none, none] [] v := by
    rw [qc_X12_next, qr_X12_next_0]
  have h3 := hM.2.2.1
  have h9 := hM.2.2.2.1
  obtain ⟨s1, s2, s3, s4⟩ := bls_spec (b := b) hps
  obtain ⟨u, a1, a2, a3⟩ := sm_blank (b := b) (lim := lim) (bls b sz p - p) p v hM hp (by omega) (fun i hi => s3 (p + i) (by omega) (by omega))
  rw [show p + (bls b sz p - p) = bls b sz p by omega] at a3
  have hU := MS_mN hM a2
  unfold tok
  generalize bls b sz p = z at s1 s2 s3 s4 a3
  have pe := sm_peek hU a3 s2
  have n32 : pkB b sz z ≠ 32 ∧ pkB b sz z ≠ 10 := by
    unfold pkB
    by_cases q : z < sz
    · have hb := (hM.2.2.2.2 z (by omega)).1
      have := Bool.eq_false_iff.mp (s4 q)
      rw [if_pos q]
      exact ⟨fun e => this (blB_t.mpr (Or.inl ((nI_lit (by omega) 32 (by decide)).mp e))), fun e => this (blB_t.mpr (Or.inr ((nI_lit (by omega) 10 (by decide)).mp e)))⟩
    · rw [if_neg q]
      exact ⟨by decide, by decide⟩
  have m2 : mN u (nc_si (nc_si u 12 0 12 (nI z)) 12 0 13 0) := (mN.rf.si (by omega)).si (by omega)
  have f4 : (nc_si (nc_si u 12 0 12 (nI z)) 12 0 13 0).1 12 0 4 = nI z := by
    rw [si_k (by decide), si_k (by decide)]
    exact a3
  have f3 : (nc_si (nc_si u 12 0 12 (nI z)) 12 0 13 0).1 12 0 3 = nI sz := by
    rw [si_k (by decide), si_k (by decide)]
    exact hU.1
  have f5 : (nc_si (nc_si u 12 0 12 (nI z)) 12 0 13 0).1 12 0 5 = nI lim := by
    rw [si_k (by decide), si_k (by decide)]
    exact hU.2.1
  have f12 : (nc_si (nc_si u 12 0 12 (nI z)) 12 0 13 0).1 12 0 12 = nI z := by
    rw [si_k (by decide), si_s]
  have f13 : (nc_si (nc_si u 12 0 12 (nI z)) 12 0 13 0).1 12 0 13 = 0 := si_s
  rw [c0, a1, qr_X12_next_0, pe, nc_bI_v, if_neg n32.1, pe, nc_bI_v, if_pos n32.2, nc_lt_v, nc_lt_v, a3]
  generalize nc_si (nc_si u 12 0 12 (nI z)) 12 0 13 0 = x at m2 f4 f3 f5 f12 f13
  have hX := MS_mN hU m2
  rw [f3, f5, f4]
  by_cases q : lim < sz ∧ lim ≤ z
  · rw [if_neg (nI_ge q.1 (by omega)), if_neg (fun e => by have := (nI_litlt (by omega) (by omega)).mp e; omega), nc_lt_v, nc_lt_v, tkn_6 q.1 q.2]
    refine ⟨_, rfl, (a2.tr m2).tr ((mN.rf.si (by omega)).si (by omega)), ?_, ?_, ?_, fun z => absurd z (show ¬ (6 : Nat) = 2 by decide), fun z => absurd z (by rintro (z | z) <;> exact absurd z (show ¬ (6 : Nat) = _ by decide))⟩
    · rw [si_s]
      rfl
    · rw [si_k (by decide), si_s]
    · rw [si_k (by decide), si_k (by decide)]
      exact f4
  · obtain ⟨v', g1, g2, g3⟩ := sm_80 hX f4 f12 f13 s2 q
    refine ⟨v', ?_, (a2.tr m2).tr g2, g3⟩
    refine Eq.trans ?_ g1
    by_cases q1 : sz ≤ lim
    · rw [if_pos (nI_le q1 (by omega))]
    · rw [if_neg (nI_ge (by omega) (by omega)), if_pos ((nI_litlt (by omega) (by omega)).mpr (by omega))]
/-- what every TOKEN keeps -/
def tkk (sz lim : Nat) (t : Nat × Nat × Nat × Nat × List Nat) : Prop := (t.1 = 0 ∨ t.1 = 1 ∨ t.1 = 2 ∨ t.1 = 4 ∨ t.1 = 5 ∨ t.1 = 6) ∧ t.2.1 ≤ sz ∧ t.2.2.1 ≤ sz ∧ (t.1 = 2 → wl t.2.2.2.2 ∧ t.2.2.2.2 ≠ []) ∧ (t.1 = 4 → t.2.2.2.1 < 1000) ∧ (t.1 = 5 → sgB t.2.2.2.1 = true)
theorem tkn_ok (hz : z ≤ sz) (hn : z < sz → blB (b z) = false) : tkk sz lim (tkn b sz lim z) := by
  by_cases q : lim < sz ∧ lim ≤ z
  · rw [tkn_6 q.1 q.2]
    exact ⟨by omega, by show lim ≤ sz; omega, hz, fun h => absurd h (show ¬ (6 : Nat) = 2 by decide), fun h => absurd h (show ¬ (6 : Nat) = 4 by decide), fun h => absurd h (show ¬ (6 : Nat) = 5 by decide)⟩
  · by_cases c0 : z < sz
    · by_cases ca : alB (b z) = true
      · obtain ⟨r1, r2, r3, r4⟩ := rln_spec c0 ca
        by_cases c2 : (rl b z (rln b sz z)).all smB = true ∧ rln b sz z ≤ 7
        · rw [tkn_2 q c0 ca c2.1 c2.2]
          refine ⟨by omega, hz, r1, fun _ => ⟨⟨by rw [rl_len]; exact c2.2, all_sm c2.1⟩, fun e => ?_⟩, fun h => absurd h (show ¬ (2 : Nat) = 4 by decide), fun h => absurd h (show ¬ (2 : Nat) = 5 by decide)⟩
          have := congrArg List.length e
          rw [rl_len] at this
          have : rln b sz z = 0 := this
          omega
        · by_cases c4 : (rl b z (rln b sz z)).all dgB = true ∧ rln b sz z ≤ 3
          · rw [tkn_4 q c0 ca c2 c4.1 c4.2]
            refine ⟨by omega, hz, r1, fun h => absurd h (show ¬ (4 : Nat) = 2 by decide), fun _ => ?_, fun h => absurd h (show ¬ (4 : Nat) = 5 by decide)⟩
            have := n10_lt _ c4.1
            rw [rl_len] at this
            exact Nat.lt_of_lt_of_le this (Nat.pow_le_pow_right (show 0 < 10 by decide) c4.2)
          · rw [tkn_1 q c0 ca c2 c4]
            exact ⟨by omega, hz, r1, fun h => absurd h (show ¬ (1 : Nat) = 2 by decide), fun h => absurd h (show ¬ (1 : Nat) = 4 by decide), fun h => absurd h (show ¬ (1 : Nat) = 5 by decide)⟩
      · have ca' := Bool.eq_false_iff.mpr ca
        by_cases cs : sgB (b z) = true
        · rw [tkn_5 q c0 ca' cs]
          exact ⟨by omega, hz, by show z + 1 ≤ sz; omega, fun h => absurd h (show ¬ (5 : Nat) = 2 by decide), fun h => absurd h (show ¬ (5 : Nat) = 4 by decide), fun _ => cs⟩
        · rw [tkn_n q c0 ca' (Bool.eq_false_iff.mpr cs)]
          exact ⟨by omega, hz, by show z + 1 ≤ sz; omega, fun h => absurd h (show ¬ (1 : Nat) = 2 by decide), fun h => absurd h (show ¬ (1 : Nat) = 4 by decide), fun h => absurd h (show ¬ (1 : Nat) = 5 by decide)⟩
    · rw [tkn_0 q (by omega)]
      exact ⟨by omega, hz, hz, fun h => absurd h (show ¬ (0 : Nat) = 2 by decide), fun h => absurd h (show ¬ (0 : Nat) = 4 by decide), fun h => absurd h (show ¬ (0 : Nat) = 5 by decide)⟩
theorem tok_ok (hp : p ≤ sz) : tkk sz lim (tok b sz lim p) := by
  obtain ⟨s1, s2, s3, s4⟩ := bls_spec (b := b) hp
  exact tkn_ok s2 s4
theorem bls_id (hp : p ≤ sz) (h : p < sz → blB (b p) = false) : bls b sz p = p := by
  unfold bls
  rw [rnf_eq (q := fun i => blB (b i)) (sz - p) p 0 (Nat.zero_le _) (fun i hi => absurd hi (Nat.not_lt_zero i)) (fun q => h (by omega))]
  rfl
theorem bls_bl (hp : p < sz) (h : blB (b p) = true) : bls b sz p = bls b sz (p + 1) := by
  unfold bls
  rw [show sz - p = (sz - (p + 1)) + 1 by omega]
  show p + (if blB (b p) = true then rnf (fun i => blB (b i)) (sz - (p + 1)) (p + 1) + 1 else 0) = _
  rw [if_pos h]
  omega
theorem tok_id (hp : p ≤ sz) (h : p < sz → blB (b p) = false) : tok b sz lim p = tkn b sz lim p := by
  unfold tok
  rw [bls_id hp h]
theorem tok_bl (hp : p < sz) (h : blB (b p) = true) : tok b sz lim p = tok b sz lim (p + 1) := by
  unfold tok
  rw [bls_bl hp h]
/-- behind the end nothing follows -/
theorem tok_end (hp : p ≤ sz) (he : (tok b sz lim p).1 = 0 ∨ (tok b sz lim p).1 = 6) : tok b sz lim (tok b sz lim p).2.2.1 = tok b sz lim p := by
  obtain ⟨s1, s2, s3, s4⟩ := bls_spec (b := b) hp
  have key : (tok b sz lim p).2.2.1 = bls b sz p := by
    have he' : (tkn b sz lim (bls b sz p)).1 = 0 ∨ (tkn b sz lim (bls b sz p)).1 = 6 := he
    show (tkn b sz lim (bls b sz p)).2.2.1 = bls b sz p
    generalize bls b sz p = z at *
    by_cases q : lim < sz ∧ lim ≤ z
    · rw [tkn_6 q.1 q.2]
    · by_cases c0 : z < sz
      · exfalso
        by_cases ca : alB (b z) = true
        · by_cases c2 : (rl b z (rln b sz z)).all smB = true ∧ rln b sz z ≤ 7
          · rw [tkn_2 q c0 ca c2.1 c2.2] at he'
            rcases he' with e | e <;> exact absurd e (show ¬ (2 : Nat) = _ by decide)
          · by_cases c4 : (rl b z (rln b sz z)).all dgB = true ∧ rln b sz z ≤ 3
            · rw [tkn_4 q c0 ca c2 c4.1 c4.2] at he'
              rcases he' with e | e <;> exact absurd e (show ¬ (4 : Nat) = _ by decide)
            · rw [tkn_1 q c0 ca c2 c4] at he'
              rcases he' with e | e <;> exact absurd e (show ¬ (1 : Nat) = _ by decide)
        · have ca' := Bool.eq_false_iff.mpr ca
          by_cases cs : sgB (b z) = true
          · rw [tkn_5 q c0 ca' cs] at he'
            rcases he' with e | e <;> exact absurd e (show ¬ (5 : Nat) = _ by decide)
          · rw [tkn_n q c0 ca' (Bool.eq_false_iff.mpr cs)] at he'
            rcases he' with e | e <;> exact absurd e (show ¬ (1 : Nat) = _ by decide)
      · rw [tkn_0 q (by omega)]
  rw [key, tok_id s2 s4]
  rfl
end MX
