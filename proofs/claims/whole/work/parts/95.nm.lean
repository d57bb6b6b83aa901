/-! Names, of both tapes. -/
section NM
variable {w w' v v' : nc_H} {b : Nat → Nat} {sz lim n i : Nat} {t : Tok} {dn f C N B fs sl mn : Nat}
theorem sm_name (hT : MT v t) (hk : tkk sz lim t) (hW : TW v) : nc_Call m_X12_isName [mO] v = some (some (.inl (tI (t.1 = 2 ∧ wi t.2.2.2.2 = 24))), v) := by
  by_cases q : t.1 = 2
  · rw [sm_isName hW (by rw [hT.1]; exact (km_i hk).2.2.1.mpr q) (hT.2.2.2.1 q) (hk.2.2.2.1 q).1]
    rw [tI_c (show wi t.2.2.2.2 = 24 ↔ (t.1 = 2 ∧ wi t.2.2.2.2 = 24) from ⟨fun z => ⟨q, z⟩, fun z => z.2⟩)]
  · rw [sm_isName_f (by rw [hT.1]; exact fun z => q ((km_i hk).2.2.1.mp z)), tI_f (fun z => q z.1)]
theorem sm_word {j : Nat} (hj : j < 24) (hT : MT v t) (hk : tkk sz lim t) : nc_Call m_X12_isWord [mO, .inr (.inl (enc8 (wrd j)))] v = some (some (.inl (tI (t.1 = 2 ∧ wi t.2.2.2.2 = j))), v) := by
  by_cases q : t.1 = 2
  · rw [sm_isWord hj (by rw [hT.1]; exact (km_i hk).2.2.1.mpr q) (hT.2.2.2.1 q) (hk.2.2.2.1 q).1]
    rw [tI_c (show wi t.2.2.2.2 = j ↔ (t.1 = 2 ∧ wi t.2.2.2.2 = j) from ⟨fun z => ⟨q, z⟩, fun z => z.2⟩)]
  · rw [sm_isWord_f (by rw [hT.1]; exact fun z => q ((km_i hk).2.2.1.mp z)), tI_f (fun z => q z.1)]
/-- the number of the told word of a TOKEN; 24: none -/
def wq (t : Tok) : Nat := if t.1 = 2 then wi t.2.2.2.2 else 24
theorem wq_le : wq t ≤ 24 := by
  unfold wq
  split
  · exact wi_le
  · exact Nat.le_refl 24
theorem wq_lt {j : Nat} (hj : j < 24) : wq t = j ↔ t.1 = 2 ∧ wi t.2.2.2.2 = j := by
  unfold wq
  by_cases q : t.1 = 2
  · rw [if_pos q]
    exact ⟨fun z => ⟨q, z⟩, fun z => z.2⟩
  · rw [if_neg q]
    exact ⟨fun z => by omega, fun z => absurd z.1 q⟩
theorem sa_word (hT : CT w t) (hk : tkk sz lim t) : nc_Call m_X10_word [tO] w = some (some (.inl (if wq t < 24 then nI (wq t) else -1)), w) := by
  rw [qc_X10_word, hT.2.1]
  by_cases q : t.1 = 2 ∧ wi t.2.2.2.2 < 24
  · have e : wq t = wi t.2.2.2.2 := if_pos q.1
    rw [if_neg (fun z => z ((kc_2 hk).mpr q)), (hT.2.2.1 q.1).1, e]
  · rw [if_pos (fun z => q ((kc_2 hk).mp z)), if_neg (fun z => q ?_)]
    have := (wq_lt (t := t) z).mp rfl
    exact ⟨this.1, by rw [this.2]; exact z⟩
/-- the conditions of a sort of names -/
def srt (f C N fs sl mn : Nat) : Prop := mn ≤ sl ∧ fs + sl ≤ 22 ∧ (∀ k, usd f C N k → fs ≤ k → k < fs + sl → k < fs + mn) ∧ (∀ k, fs ≤ k → k < fs + mn → usd f C N k)
theorem srt_f (hf : f ≤ 4) : srt f C N 0 4 f := by
  refine ⟨hf, by omega, fun k hu _ h => ?_, fun k _ h => Or.inl (by omega)⟩
  unfold usd at hu
  omega
theorem srt_c (hf : f ≤ 4) (hC : C ≤ 8) : srt f C N 4 8 C := by
  refine ⟨hC, by omega, fun k hu _ h => ?_, fun k h1 h => Or.inr (Or.inl ⟨h1, h⟩)⟩
  unfold usd at hu
  omega
theorem srt_n (hf : f ≤ 4) (hC : C ≤ 8) (hN : N ≤ 10) : srt f C N 12 10 N := by
  refine ⟨hN, by omega, fun k hu _ h => ?_, fun k h1 h => Or.inr (Or.inr ⟨h1, h⟩)⟩
  unfold usd at hu
  omega
/-- the TOKEN at hand as a name of a sort -/
theorem jt_looks (hc : CT w t) (hm : MT v t) (hk : tkk sz lim t) (hW : TW v) (hn : nmOK (w.2 236 dn) (fun k => v.2 877 0 (B + k)) f C N) (hf : f ≤ 4) (hC : C ≤ 8) (hN : N ≤ 10) (hB : B ≤ 22) (hs : srt f C N fs sl mn) : (∃ g v', g < mn ∧ nc_Call m_X2_named [.inr (.inr (2, dn)), tO, .inl (nI fs), .inl (nI sl)] w = some (some (.inl (nI g)), w) ∧ nc_Call m_X12_looksAt [mO, .inl (nI (B + fs)), .inl (nI mn)] v = some (some (.inl 1), v') ∧ v' = nc_si v 12 0 18 (nI g)) ∨ (∃ w' v', nc_Call m_X2_named [.inr (.inr (2, dn)), tO, .inl (nI fs), .inl (nI sl)] w = some (some (.inl (-1)), w') ∧ nc_Call m_X12_looksAt [mO, .inl (nI (B + fs)), .inl (nI mn)] v = some (some (.inl 0), v') ∧ cF w w' ∧ mF v v' ∧ FQ w' v') := by
  obtain ⟨s1, s2, s3, s4⟩ := hs
  rw [qc_X2_named, qc_X12_looksAt, sm_name hm hk hW, nc_bI_v, hc.2.1]
  by_cases q : t.1 = 2 ∧ wi t.2.2.2.2 = 24
  · rw [if_pos ((kc_3 hk).mpr q), tI_t q, if_pos (by decide), (hc.2.2.1 q.1).2]
    obtain ⟨hl, hl0⟩ := hk.2.2.2.1 q.1
    have hw8 := hm.2.2.2.1 q.1
    generalize t.2.2.2.2 = l at hl hl0 hw8
    have bad : ∀ x : Int32, x = -1 → ∃ w' v', nc_Call m_X10_fail [tO, .inl 3] w = some (some (.inl 0), w') ∧ nc_Call m_X12_bad [mO, .inl 3] (nc_si v 12 0 18 x) = some (some (.inl 0), v') ∧ cF w w' ∧ mF v v' ∧ FQ w' v' := by
      intro x _
      obtain ⟨w', v', a1, a2, a3, a4, a5⟩ := jt_fail (w := w) (v := nc_si v 12 0 18 x) (t := t) 3 hc.1 (by rw [si_k (by decide)]; exact hm.2.1)
      exact ⟨w', v', a1, a2, a3, (mF.rf.si (by omega)).tr a4, a5⟩
    obtain ⟨w', v', b1, b2, b3, b4, b5⟩ := bad (-1) rfl
    rcases sd_slotOf hn hf hC hN hl hl0 with ⟨k, k1, k2, k3, k4⟩ | ⟨k1, k2⟩
    · rcases sm_seek (fr := B + fs) (mn := mn) hw8 (by omega) with ⟨g, g1, g2, g3⟩ | ⟨g1, g2⟩
      · -- both have it
        have ug := s4 (fs + g) (by omega) (by omega)
        have e : k = fs + g := hn.2.2 k (fs + g) k2 ug (by
          rw [k3]
          have := (nm_iff hn ug hl).mpr (by show v.2 877 0 (B + (fs + g)) = _; rw [← Nat.add_assoc]; exact g2)
          exact this.symm)
        refine Or.inl ⟨g, _, g1, ?_, ?_, rfl⟩
        · rw [k4, nc_bI_v, e, pk_sub (by omega), nc_li_v, show fs + g - fs = g by omega, if_neg (fun z => by have := (nI_litlt (n := 0) (by omega) (by omega)).mp z; omega), if_pos ((nI_litlt (by omega) (by omega)).mpr (by omega))]
        · rw [g3, nc_bI_v, nc_lt_v, si_s, if_pos (show (0 : Int32) ≤ nI g from nI_le (a := 0) (Nat.zero_le _) (by omega))]
      · -- a name of another sort
        have out : ¬ (fs ≤ k ∧ k < fs + sl) := by
          intro z
          have h2 := s3 k k2 z.1 z.2
          refine g1 (k - fs) (by omega) ?_
          have := (nm_iff hn k2 hl).mp k3
          rw [show B + fs + (k - fs) = B + k by omega]
          exact this
        refine Or.inr ⟨w', v', ?_, ?_, b3, b4, b5⟩
        · rw [k4, nc_bI_v, nc_li_v]
          by_cases c : k < fs
          · rw [if_pos (by
              have e := pk_sub_toInt (a := k) (b := fs) (by omega) (by omega)
              exact Int32.lt_iff_toInt_lt.mpr (by rw [e]; show (k : Int) - fs < 0; omega)), b1, nc_bI_v]
          · rw [pk_sub (by omega), if_neg (fun z => by have := (nI_litlt (n := 0) (by omega) (by omega)).mp z; omega), if_neg (fun z => by have := (nI_litlt (by omega) (by omega)).mp z; omega), b1, nc_bI_v]
        · rw [g2, nc_bI_v, nc_lt_v, si_s, if_neg (by decide), b2, nc_bI_v, if_pos rfl]
    · -- no name
      have g : ∀ g, g < mn → v.2 877 0 (B + fs + g) ≠ enc8 l := by
        intro g hg e
        have ug := s4 (fs + g) (by omega) (by omega)
        exact k1 _ ug ((nm_iff hn ug hl).mpr (by show v.2 877 0 (B + (fs + g)) = _; rw [← Nat.add_assoc]; exact e))
      rcases sm_seek (fr := B + fs) (mn := mn) hw8 (by omega) with ⟨g0, g1, g2, g3⟩ | ⟨g1, g2⟩
      · exact absurd g2 (g g0 g1)
      · refine Or.inr ⟨w', v', ?_, ?_, b3, b4, b5⟩
        · rw [k2, nc_bI_v, nc_li_v, if_pos (by
            have e := pk_sub_toInt (a := 0) (b := fs + 1) (by omega) (by omega)
            have e2 : (-1 : Int32) - nI fs = nI 0 - nI (fs + 1) := by
              rw [← nI_add, show nI 1 = (1 : Int32) from rfl, show nI 0 = (0 : Int32) from rfl]
              rw [Int32.sub_eq_add_neg, Int32.sub_eq_add_neg, Int32.neg_add, Int32.zero_add, Int32.sub_eq_add_neg, Int32.add_comm]
            exact Int32.lt_iff_toInt_lt.mpr (by rw [e2, e]; show ((0 : Nat) : Int) - ((fs + 1 : Nat) : Int) < 0; omega)), b1, nc_bI_v]
        · rw [g2, nc_bI_v, nc_lt_v, si_s, if_neg (by decide), b2, nc_bI_v, if_pos rfl]
  · obtain ⟨w', v', a1, a2, a3, a4, a5⟩ := jt_fail (w := w) (v := v) (t := t) 1 hc.1 hm.2.1
    refine Or.inr ⟨w', v', ?_, ?_, a3, a4, a5⟩
    · rw [if_neg (fun z => q ((kc_3 hk).mp z)), a1, nc_bI_v]
    · rw [tI_f q, if_neg (fun z => z rfl), a2, nc_bI_v, nc_z_0]
end NM
