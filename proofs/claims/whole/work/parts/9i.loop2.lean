/-! The lines of a dairy, all, of both. -/
section LP3
variable {b : Nat → Nat} {sz lim n : Nat}
theorem ln_loop : ∀ m k i w v f C N h, n ≤ i + m → Jt w v b sz lim n i → DD w v f C N h → k ≤ i → k ≤ 900 → LL w v k := by
  intro m
  have hE : ∀ {w : nc_H} {i : Nat}, CS w b sz lim n → n ≤ i + 1 → isE (Tk b sz lim i) := by
    intro w i hS hi
    have h1 := hS.1
    have := Tk_end hS.2.2.2.2.2.2 (i - (n - 1))
    rw [show n - 1 + (i - (n - 1)) = i by omega] at this
    rw [this]
    exact hS.2.2.2.2.2.2
  induction m with
  | zero =>
    intro k i w v f C N h hm J D hk hk9
    exact ln_end J D hk9 (hE J.1 (by omega))
  | succ m ih =>
    intro k i w v f C N h hm J D hk hk9
    by_cases he : isE (Tk b sz lim i)
    · exact ln_end J D hk9 he
    · have hi : i + 1 < n := by
        by_cases q : i + 1 < n
        · exact q
        · exact absurd (hE J.1 (by omega)) he
      have hn9 := J.1.2.1.1
      obtain ⟨w1, a1, a2, a3, a4, a5, a6⟩ := jt_c J
      have hkk := Tk_ok (b := b) (sz := sz) (lim := lim) i
      have M := J.2.2.2.1
      have k0 : w1.1 10 0 11 ≠ 0 := by rw [a5.2.1]; exact fun z => he ((kc_0 hkk).mp z)
      have nl : nc_Call m_X10_nextLine [tO] w = some (some (.inl 1), w1) := by
        rw [qc_X10_nextLine, a1, nc_bV_v, if_neg k0]
      have P : Pr w1 v b sz lim n i (Tk b sz lim i) f C N h := ⟨a3, a4, a5, a6, J.2.2.1, M, J.2.2.2.2.2, DD_F D a2.cF mF.rf, rfl, hkk⟩
      have m0 : v.1 12 0 11 ≠ 0 := by rw [M.1]; exact fun z => he (Or.inl ((km_i hkk).2.2.2.mp z))
      obtain ⟨r, w2, v2, c1, ⟨r1, v1, l1, l2⟩, c3, c4, c5⟩ := ln_line P
      unfold LL
      rw [qr_X3_read_24, if_neg (show ¬ (900 : Int32) < nI k from fun z => by have := (nI_litlt (c := 900) (by omega) (by omega)).mp z; omega), nl, nc_bI_v, if_neg (by decide), c1, nc_bI_v, qr_X12_dairy_59, if_neg m0, l1, nc_bI_v]
      rcases c5 with ⟨r0, fq⟩ | ⟨r0, i', f', C', N', h', e1, e2, e3⟩
      · subst r0
        refine ⟨0, w2, v2, ?_, a2.cR.tr c3, c4, Or.inl ⟨rfl, fq, ?_⟩⟩
        · rw [if_neg (fun z => z rfl)]
        · rcases l2 with ⟨y1, -, y3⟩ | ⟨y1, y2⟩
          · rw [if_pos y1, y3]
          · rw [if_neg y1, y2, nc_bI_v, if_neg (fun z => z rfl)]
      · subst r0
        rcases l2 with ⟨-, y2, -⟩ | ⟨y1, y2⟩
        · exact absurd y2 (by decide)
        · have J' : Jt (nc_si w2 2 1 0 (w2.1 2 1 0 + 1)) (nc_si v2 12 0 19 (v2.1 12 0 19 + 1)) b sz lim n i' := Jt_z e2 (cZ.rf.si ⟨by decide, by decide, by decide, by decide⟩) (mZ.rf.sk (by decide))
          obtain ⟨r, w3, v3, g1, g2, g3, g4⟩ := ih (k + 1) i' _ _ f' C' N' h' (by omega) J' (DD_line e3) (by omega) (by omega)
          refine ⟨r, w3, v3, ?_, ((a2.cR.tr c3).si (by omega)).tr g2, (c4.sk (by omega)).tr g3, ?_⟩
          · rw [if_pos (by decide), nc_lt_v, nc_li_v, nI_1, g1]
          · rw [if_neg y1, y2, nc_bI_v, if_pos (by decide), nc_lt_v]
            exact g4
end LP3
