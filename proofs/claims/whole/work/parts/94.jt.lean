/-! Both tapes, step by step. -/
section JT
variable {w w' v v' : nc_H} {b : Nat → Nat} {sz lim n i : Nat} {t : Tok}
/-- the class has read i TOKENS, the model has the TOKEN i at hand -/
def Jt (w v : nc_H) (b : Nat → Nat) (sz lim n i : Nat) : Prop := CS w b sz lim n ∧ CP w b sz lim n i ∧ MS v b sz lim ∧ MT v (Tk b sz lim i) ∧ TW w ∧ TW v
/-- what the class's tape leaves -/
def cF (w w' : nc_H) : Prop := (∀ t a, ¬ (t = 10 ∧ a = 0) → w'.1 t a = w.1 t a ∧ w'.2 t a = w.2 t a) ∧ w'.1 10 0 1 = w.1 10 0 1
def mF (v v' : nc_H) : Prop := (∀ t a, ¬ (t = 12 ∧ a = 0) → v'.1 t a = v.1 t a ∧ v'.2 t a = v.2 t a) ∧ (∀ k, ¬ (k = 4 ∨ (11 ≤ k ∧ k ≤ 16) ∨ k = 18) → v'.1 12 0 k = v.1 12 0 k) ∧ (∀ k, k ≠ 17 → v'.2 12 0 k = v.2 12 0 k)
theorem cF.rf : cF w w := ⟨fun _ _ _ => ⟨rfl, rfl⟩, rfl⟩
theorem cF.tr {w'' : nc_H} (h : cF w w') (h2 : cF w' w'') : cF w w'' := ⟨fun t a q => ⟨(h2.1 t a q).1.trans (h.1 t a q).1, (h2.1 t a q).2.trans (h.1 t a q).2⟩, h2.2.trans h.2⟩
theorem mF.rf : mF v v := ⟨fun _ _ _ => ⟨rfl, rfl⟩, fun _ _ => rfl, fun _ _ => rfl⟩
theorem mF.tr {v'' : nc_H} (h : mF v v') (h2 : mF v' v'') : mF v v'' := ⟨fun t a q => ⟨(h2.1 t a q).1.trans (h.1 t a q).1, (h2.1 t a q).2.trans (h.1 t a q).2⟩, fun k q => (h2.2.1 k q).trans (h.2.1 k q), fun k q => (h2.2.2 k q).trans (h.2.2 k q)⟩
theorem cX.cF (h : cX w w') : cF w w' := ⟨h.1, h.2.1 1 (by omega)⟩
theorem mN.mF (h : mN v v') : mF v v' := ⟨h.1, fun k q => h.2.1 k (by omega), h.2.2⟩
theorem mF.si {k : Nat} {x : Int32} (h : mF v v') (hk : k = 4 ∨ (11 ≤ k ∧ k ≤ 16) ∨ k = 18) : mF v (nc_si v' 12 0 k x) := by
  refine ⟨fun t a q => ⟨?_, (h.1 t a q).2⟩, fun j q => ?_, h.2.2⟩
  · by_cases e : t = 12
    · rw [si_a (fun e2 => q ⟨e, e2⟩)]
      exact (h.1 t a q).1
    · rw [si_t e]
      exact (h.1 t a q).1
  · rw [si_k (fun e => q (by rw [e]; exact hk))]
    exact h.2.1 j q
theorem cF.si {k : Nat} {x : Int32} (h : cF w w') (hk : k ≠ 1) : cF w (nc_si w' 10 0 k x) := by
  refine ⟨fun t a q => ⟨?_, (h.1 t a q).2⟩, ?_⟩
  · by_cases e : t = 10
    · rw [si_a (fun e2 => q ⟨e, e2⟩)]
      exact (h.1 t a q).1
    · rw [si_t e]
      exact (h.1 t a q).1
  · rw [si_k (fun e => hk e.symm)]
    exact h.2
def FQ (w v : nc_H) : Prop := w.1 10 0 14 = v.1 12 0 15 ∧ w.1 10 0 15 = v.1 12 0 16
theorem sa_fail (k : Int32) (h : w.1 10 0 10 = nI t.2.1) : ∃ w', nc_Call m_X10_fail [tO, .inl k] w = some (some (.inl 0), w') ∧ cF w w' ∧ w'.1 10 0 14 = k ∧ w'.1 10 0 15 = nI t.2.1 := by
  refine ⟨nc_si (nc_si w 10 0 14 k) 10 0 15 (nI t.2.1), ?_, (cF.rf.si (by decide)).si (by decide), ?_, si_s⟩
  · rw [qc_X10_fail, nc_lt_v, nc_lt_v, si_k (by decide), h]
  · rw [si_k (by decide), si_s]
theorem sm_bad (k : Int32) (h : v.1 12 0 12 = nI t.2.1) : ∃ v', nc_Call m_X12_bad [mO, .inl k] v = some (some (.inl 0), v') ∧ mF v v' ∧ v'.1 12 0 15 = k ∧ v'.1 12 0 16 = nI t.2.1 := by
  refine ⟨nc_si (nc_si v 12 0 15 k) 12 0 16 (nI t.2.1), ?_, (mF.rf.si (by omega)).si (by omega), ?_, si_s⟩
  · rw [qc_X12_bad, nc_lt_v, nc_lt_v, si_k (by decide), h]
  · rw [si_k (by decide), si_s]
/-- both fail at the same TOKEN -/
theorem jt_fail (k : Int32) (h : w.1 10 0 10 = nI t.2.1) (h2 : v.1 12 0 12 = nI t.2.1) : ∃ w' v', nc_Call m_X10_fail [tO, .inl k] w = some (some (.inl 0), w') ∧ nc_Call m_X12_bad [mO, .inl k] v = some (some (.inl 0), v') ∧ cF w w' ∧ mF v v' ∧ FQ w' v' := by
  obtain ⟨w', a1, a2, a3, a4⟩ := sa_fail k h
  obtain ⟨v', b1, b2, b3, b4⟩ := sm_bad k h2
  exact ⟨w', v', a1, b1, a2, b2, a3.trans b3.symm, a4.trans b4.symm⟩
theorem TW_cX (h : TW w) (hc : cX w w') : TW w' := by
  refine ⟨fun k hk => ?_, fun k hk => ?_⟩
  · rw [(hc.1 742 0 (by omega)).2]
    exact h.1 k hk
  · rw [(hc.1 878 0 (by omega)).2]
    exact h.2 k hk
theorem TW_mN (h : TW v) (hc : mN v v') : TW v' := by
  refine ⟨fun k hk => ?_, fun k hk => ?_⟩
  · rw [(hc.1 742 0 (by omega)).2]
    exact h.1 k hk
  · rw [(hc.1 878 0 (by omega)).2]
    exact h.2 k hk
/-- the class reads on -/
theorem jt_c (J : Jt w v b sz lim n i) : ∃ w', nc_Call m_X10_next [tO] w = some (none, w') ∧ cX w w' ∧ CS w' b sz lim n ∧ CP w' b sz lim n (i + 1) ∧ CT w' (Tk b sz lim i) ∧ TW w' := by
  obtain ⟨w', a1, a2, a3⟩ := sa_next J.1 J.2.1
  have := a3.2 (by omega)
  rw [Nat.add_sub_cancel] at this
  exact ⟨w', a1, a2, CS_cX J.1 a2, a3, this, TW_cX J.2.2.2.2.1 a2⟩
/-- the model reads on -/
theorem jt_m (hM : MS v b sz lim) (hT : MT v (Tk b sz lim i)) (hW : TW v) : ∃ v', nc_Call m_X12_next [mO] v = some (none, v') ∧ mN v v' ∧ MS v' b sz lim ∧ MT v' (Tk b sz lim (i + 1)) ∧ TW v' := by
  obtain ⟨v', a1, a2, a3⟩ := sm_next hM hT.2.2.1 (Tk_le i)
  exact ⟨v', a1, a2, MS_mN hM a2, a3, TW_mN hW a2⟩
/-- kinds of a TOKEN, of both -/
theorem kc_4 (hk : tkk sz lim t) : kc t = 4 ↔ t.1 = 4 := by
  have h := hk.1
  unfold kc
  by_cases h1 : t.1 = 1
  · rw [if_pos h1]; exact ⟨fun q => absurd q (by decide), fun q => by omega⟩
  rw [if_neg h1]
  by_cases h2 : t.1 = 2
  · rw [if_pos h2]
    refine ⟨fun q => ?_, fun q => by omega⟩
    split at q <;> exact absurd q (by decide)
  rw [if_neg h2]
  by_cases h4 : t.1 = 4
  · rw [if_pos h4]; exact ⟨fun _ => h4, fun _ => rfl⟩
  rw [if_neg h4]
  by_cases h5 : t.1 = 5
  · rw [if_pos h5]; exact ⟨fun q => absurd q (by decide), fun q => by omega⟩
  rw [if_neg h5]
  exact ⟨fun q => absurd q (by decide), fun q => by omega⟩
theorem kc_5 (hk : tkk sz lim t) : kc t = 5 ↔ t.1 = 5 := by
  have h := hk.1
  unfold kc
  by_cases h1 : t.1 = 1
  · rw [if_pos h1]; exact ⟨fun q => absurd q (by decide), fun q => by omega⟩
  rw [if_neg h1]
  by_cases h2 : t.1 = 2
  · rw [if_pos h2]
    refine ⟨fun q => ?_, fun q => by omega⟩
    split at q <;> exact absurd q (by decide)
  rw [if_neg h2]
  by_cases h4 : t.1 = 4
  · rw [if_pos h4]; exact ⟨fun q => absurd q (by decide), fun q => by omega⟩
  rw [if_neg h4]
  by_cases h5 : t.1 = 5
  · rw [if_pos h5]; exact ⟨fun _ => h5, fun _ => rfl⟩
  rw [if_neg h5]
  exact ⟨fun q => absurd q (by decide), fun q => by omega⟩
theorem kc_3 (hk : tkk sz lim t) : kc t = 3 ↔ t.1 = 2 ∧ wi t.2.2.2.2 = 24 := by
  have h := hk.1
  have hw := wi_le (l := t.2.2.2.2)
  unfold kc
  by_cases h1 : t.1 = 1
  · rw [if_pos h1]; exact ⟨fun q => absurd q (by decide), fun q => by omega⟩
  rw [if_neg h1]
  by_cases h2 : t.1 = 2
  · rw [if_pos h2]
    by_cases q : wi t.2.2.2.2 < 24
    · rw [if_pos q]; exact ⟨fun q => absurd q (by decide), fun q => by omega⟩
    · rw [if_neg q]; exact ⟨fun _ => ⟨h2, by omega⟩, fun _ => rfl⟩
  rw [if_neg h2]
  by_cases h4 : t.1 = 4
  · rw [if_pos h4]; exact ⟨fun q => absurd q (by decide), fun q => by omega⟩
  rw [if_neg h4]
  by_cases h5 : t.1 = 5
  · rw [if_pos h5]; exact ⟨fun q => absurd q (by decide), fun q => by omega⟩
  rw [if_neg h5]
  exact ⟨fun q => absurd q (by decide), fun q => by omega⟩
theorem kc_2 (hk : tkk sz lim t) : kc t = 2 ↔ t.1 = 2 ∧ wi t.2.2.2.2 < 24 := by
  have h := hk.1
  unfold kc
  by_cases h1 : t.1 = 1
  · rw [if_pos h1]; exact ⟨fun q => absurd q (by decide), fun q => by omega⟩
  rw [if_neg h1]
  by_cases h2 : t.1 = 2
  · rw [if_pos h2]
    by_cases q : wi t.2.2.2.2 < 24
    · rw [if_pos q]; exact ⟨fun _ => ⟨h2, q⟩, fun _ => rfl⟩
    · rw [if_neg q]; exact ⟨fun q => absurd q (by decide), fun z => absurd z.2 q⟩
  rw [if_neg h2]
  by_cases h4 : t.1 = 4
  · rw [if_pos h4]; exact ⟨fun q => absurd q (by decide), fun q => by omega⟩
  rw [if_neg h4]
  by_cases h5 : t.1 = 5
  · rw [if_pos h5]; exact ⟨fun q => absurd q (by decide), fun q => by omega⟩
  rw [if_neg h5]
  exact ⟨fun q => absurd q (by decide), fun q => by omega⟩
theorem kc_0 (hk : tkk sz lim t) : kc t = 0 ↔ isE t := by
  have h := hk.1
  unfold kc isE
  by_cases h1 : t.1 = 1
  · rw [if_pos h1]; exact ⟨fun q => absurd q (by decide), fun q => by omega⟩
  rw [if_neg h1]
  by_cases h2 : t.1 = 2
  · rw [if_pos h2]
    refine ⟨fun q => ?_, fun q => by omega⟩
    split at q <;> exact absurd q (by decide)
  rw [if_neg h2]
  by_cases h4 : t.1 = 4
  · rw [if_pos h4]; exact ⟨fun q => absurd q (by decide), fun q => by omega⟩
  rw [if_neg h4]
  by_cases h5 : t.1 = 5
  · rw [if_pos h5]; exact ⟨fun q => absurd q (by decide), fun q => by omega⟩
  rw [if_neg h5]
  exact ⟨fun q => by omega, fun q => rfl⟩
theorem km_i (hk : tkk sz lim t) : (km t = 2 ↔ t.1 = 4) ∧ (km t = 3 ↔ t.1 = 5) ∧ (km t = 1 ↔ t.1 = 2) ∧ (km t = 0 ↔ t.1 = 0) := by
  have h := hk.1
  unfold km
  by_cases h1 : t.1 = 1
  · rw [if_pos h1]; refine ⟨⟨fun q => absurd q (by decide), fun q => by omega⟩, ⟨fun q => absurd q (by decide), fun q => by omega⟩, ⟨fun q => absurd q (by decide), fun q => by omega⟩, ⟨fun q => absurd q (by decide), fun q => by omega⟩⟩
  rw [if_neg h1]
  by_cases h2 : t.1 = 2
  · rw [if_pos h2]; refine ⟨⟨fun q => absurd q (by decide), fun q => by omega⟩, ⟨fun q => absurd q (by decide), fun q => by omega⟩, ⟨fun _ => h2, fun _ => rfl⟩, ⟨fun q => absurd q (by decide), fun q => by omega⟩⟩
  rw [if_neg h2]
  by_cases h4 : t.1 = 4
  · rw [if_pos h4]; refine ⟨⟨fun _ => h4, fun _ => rfl⟩, ⟨fun q => absurd q (by decide), fun q => by omega⟩, ⟨fun q => absurd q (by decide), fun q => by omega⟩, ⟨fun q => absurd q (by decide), fun q => by omega⟩⟩
  rw [if_neg h4]
  by_cases h5 : t.1 = 5
  · rw [if_pos h5]; refine ⟨⟨fun q => absurd q (by decide), fun q => by omega⟩, ⟨fun _ => h5, fun _ => rfl⟩, ⟨fun q => absurd q (by decide), fun q => by omega⟩, ⟨fun q => absurd q (by decide), fun q => by omega⟩⟩
  rw [if_neg h5]
  by_cases h6 : t.1 = 6
  · rw [if_pos h6]; refine ⟨⟨fun q => absurd q (by decide), fun q => by omega⟩, ⟨fun q => absurd q (by decide), fun q => by omega⟩, ⟨fun q => absurd q (by decide), fun q => by omega⟩, ⟨fun q => absurd q (by decide), fun q => by omega⟩⟩
  rw [if_neg h6]
  refine ⟨⟨fun q => absurd q (by decide), fun q => by omega⟩, ⟨fun q => absurd q (by decide), fun q => by omega⟩, ⟨fun q => absurd q (by decide), fun q => by omega⟩, ⟨fun q => by omega, fun _ => rfl⟩⟩
/-- a number -/
theorem jt_number {lo hi : Nat} (J : Jt w v b sz lim n i) (hlh : hi < 1000) (hlo : lo < 1000) : ∃ r w' v', nc_Call m_X10_nextNumber [tO, .inl (nI lo), .inl (nI hi)] w = some (some (.inl r), w') ∧ nc_Call m_X12_takes [mO, .inl (nI lo), .inl (nI hi)] v = some (some (.inl r), v') ∧ cF w w' ∧ mF v v' ∧ ((r = 0 ∧ FQ w' v') ∨ (r = 1 ∧ Jt w' v' b sz lim n (i + 1) ∧ ∃ x, lo ≤ x ∧ x ≤ hi ∧ w'.1 10 0 12 = nI x ∧ v'.1 12 0 18 = nI x)) := by
  obtain ⟨w1, a1, a2, a3, a4, a5, a6⟩ := jt_c J
  obtain ⟨j1, j2, j3, j4, j5, j6⟩ := J
  have hk := Tk_ok (b := b) (sz := sz) (lim := lim) i
  generalize ht : Tk b sz lim i = t at a5 j4 hk
  rw [qc_X10_nextNumber, a1, nc_bV_v, qc_X12_takes, a5.2.1, j4.1]
  by_cases q4 : t.1 = 4
  · have hm := j4.2.2.2.2 (Or.inl q4)
    have hc := a5.2.2.2 (Or.inl q4)
    rw [if_pos ((kc_4 hk).mpr q4), if_pos ((km_i hk).1.mpr q4), hm, hc]
    have hx := hk.2.2.2.2.1 q4
    generalize t.2.2.2.1 = x at hx hm hc
    have e1 : nI x < nI lo ↔ x < lo := nI_litlt (by omega) (by omega)
    have e2 : nI x ≤ nI hi ↔ x ≤ hi := nI_le_iff (by omega) (by omega)
    have e3 : nI lo ≤ nI x ↔ lo ≤ x := nI_le_iff (by omega) (by omega)
    obtain ⟨w2, v2, f1, f2, f3, f4, f5⟩ := jt_fail (w := w1) (v := v) 2 a5.1 j4.2.1
    rw [sm_isIn, nc_bI_v]
    by_cases c1 : x < lo
    · refine ⟨0, w2, v2, ?_, ?_, a2.cF.tr f3, f4, Or.inl ⟨rfl, f5⟩⟩
      · rw [if_pos (e1.mpr c1), f1, nc_bI_v, if_pos rfl]
      · rw [tI_f (fun z => by have := e3.mp z.1; omega), if_neg (fun z => z rfl), f2, nc_bI_v, nc_z_0]
    · by_cases c2 : x ≤ hi
      · have m18 : mF v (nc_si v 12 0 18 (nI x)) := mF.rf.si (by omega)
        have M2 : MS (nc_si v 12 0 18 (nI x)) b sz lim := ⟨by rw [si_k (by decide)]; exact j3.1, by rw [si_k (by decide)]; exact j3.2.1, j3.2.2.1, ⟨j3.2.2.2.1.1, by rw [si_k (by decide)]; exact j3.2.2.2.1.2⟩, fun k hk => ⟨(j3.2.2.2.2 k hk).1, by rw [si_t (by decide)]; exact (j3.2.2.2.2 k hk).2⟩⟩
        have T2 : MT (nc_si v 12 0 18 (nI x)) (Tk b sz lim i) := by
          rw [ht]
          refine ⟨?_, ?_, ?_, j4.2.2.2.1, fun z => ?_⟩
          · rw [si_k (by decide)]; exact j4.1
          · rw [si_k (by decide)]; exact j4.2.1
          · rw [si_k (by decide)]; exact j4.2.2.1
          · rw [si_k (by decide)]; exact j4.2.2.2.2 z
        obtain ⟨v3, g1, g2, g3, g4, g5⟩ := jt_m M2 T2 j6
        refine ⟨1, w1, v3, ?_, ?_, a2.cF, m18.tr g2.mF, Or.inr ⟨rfl, ⟨a3, a4, g3, g4, a6, g5⟩, x, by omega, c2, ?_, ?_⟩⟩
        · rw [if_neg (fun z => c1 (e1.mp z)), if_pos (e2.mpr c2)]
        · rw [tI_t ⟨e3.mpr (by omega), e2.mpr c2⟩, if_pos (by decide), hm, nc_lt_v, g1, nc_bV_v]
        · exact hc
        · rw [g2.2.1 18 (by omega), si_s]
      · refine ⟨0, w2, v2, ?_, ?_, a2.cF.tr f3, f4, Or.inl ⟨rfl, f5⟩⟩
        · rw [if_neg (fun z => c1 (e1.mp z)), if_neg (fun z => c2 (e2.mp z)), f1, nc_bI_v, if_pos rfl]
        · rw [tI_f (fun z => by have := e2.mp z.2; omega), if_neg (fun z => z rfl), f2, nc_bI_v, nc_z_0]
  · obtain ⟨w2, v2, f1, f2, f3, f4, f5⟩ := jt_fail (w := w1) (v := v) 1 a5.1 j4.2.1
    refine ⟨0, w2, v2, ?_, ?_, a2.cF.tr f3, f4, Or.inl ⟨rfl, f5⟩⟩
    · rw [if_neg (fun z => q4 ((kc_4 hk).mp z)), f1, nc_bI_v, nc_z_0]
    · rw [if_neg (fun z => q4 ((km_i hk).1.mp z)), f2, nc_bI_v, nc_z_0]
theorem sa_isSign {c : Nat} (hT : CT w t) (hk : tkk sz lim t) (hc : c < 256) : nc_Call m_X10_isSign [tO, .inl (nI c)] w = some (some (.inl (tI (t.1 = 5 ∧ t.2.2.2.1 = c))), w) := by
  rw [qc_X10_isSign, hT.2.1]
  by_cases q5 : t.1 = 5
  · have hs := sgB_t.mp (hk.2.2.2.2.2 q5)
    have e : nI t.2.2.2.1 = nI c ↔ t.2.2.2.1 = c := nI_eq (by omega) (by omega)
    rw [if_neg (fun z => z ((kc_5 hk).mpr q5)), hT.2.2.2 (Or.inr q5)]
    by_cases q : t.2.2.2.1 = c
    · rw [if_neg (fun z => z (e.mpr q)), tI_t ⟨q5, q⟩]
    · rw [if_pos (fun z => q (e.mp z)), tI_f (fun z => q z.2)]
  · rw [if_pos (fun z => q5 ((kc_5 hk).mp z)), tI_f (fun z => q5 z.1)]
theorem sm_isSign {c : Nat} (hT : MT v t) (hk : tkk sz lim t) (hc : c < 256) : nc_Call m_X12_isSign [mO, .inl (nI c)] v = some (some (.inl (tI (t.1 = 5 ∧ t.2.2.2.1 = c))), v) := by
  rw [qc_X12_isSign, hT.1]
  by_cases q5 : t.1 = 5
  · have hs := sgB_t.mp (hk.2.2.2.2.2 q5)
    have e : nI t.2.2.2.1 = nI c ↔ t.2.2.2.1 = c := nI_eq (by omega) (by omega)
    rw [if_neg (fun z => z ((km_i hk).2.1.mpr q5)), hT.2.2.2.2 (Or.inr q5)]
    by_cases q : t.2.2.2.1 = c
    · rw [if_neg (fun z => z (e.mpr q)), tI_t ⟨q5, q⟩]
    · rw [if_pos (fun z => q (e.mp z)), tI_f (fun z => q z.2)]
  · rw [if_pos (fun z => q5 ((km_i hk).2.1.mp z)), tI_f (fun z => q5 z.1)]
/-- a sign that must be -/
theorem sa_mustBe {c : Nat} (hT : CT w t) (hk : tkk sz lim t) (hc : c < 256) : ((t.1 = 5 ∧ t.2.2.2.1 = c) ∧ nc_Call m_X10_mustBeSign [tO, .inl (nI c)] w = some (some (.inl 1), w)) ∨ (¬ (t.1 = 5 ∧ t.2.2.2.1 = c) ∧ ∃ w', nc_Call m_X10_mustBeSign [tO, .inl (nI c)] w = some (some (.inl 0), w') ∧ cF w w' ∧ w'.1 10 0 14 = 1 ∧ w'.1 10 0 15 = nI t.2.1) := by
  rw [qc_X10_mustBeSign, sa_isSign hT hk hc, nc_bI_v]
  by_cases q : t.1 = 5 ∧ t.2.2.2.1 = c
  · rw [tI_t q, if_pos (by decide)]
    exact Or.inl ⟨q, rfl⟩
  · obtain ⟨w', a1, a2, a3, a4⟩ := sa_fail (t := t) 1 hT.1
    rw [tI_f q, if_neg (fun z => z rfl), a1, nc_bI_v, if_pos rfl]
    exact Or.inr ⟨q, w', rfl, a2, a3, a4⟩
/-- the sign that closes -/
theorem jt_close (J : Jt w v b sz lim n i) : ∃ r w' v', nc_Call m_X10_closesLine [tO] w = some (some (.inl r), w') ∧ nc_Call m_X12_sign [mO, .inl 59] v = some (some (.inl r), v') ∧ cF w w' ∧ mF v v' ∧ ((r = 0 ∧ FQ w' v') ∨ (r = 1 ∧ Jt w' v' b sz lim n (i + 1))) := by
  obtain ⟨w1, a1, a2, a3, a4, a5, a6⟩ := jt_c J
  obtain ⟨j1, j2, j3, j4, j5, j6⟩ := J
  have hk := Tk_ok (b := b) (sz := sz) (lim := lim) i
  obtain ⟨v3, g1, g2, g3, g4, g5⟩ := jt_m j3 j4 j6
  generalize ht : Tk b sz lim i = t at a5 j4 hk
  have m := sm_isSign (c := 59) j4 hk (by decide)
  rw [qc_X10_closesLine, a1, nc_bV_v]
  rcases sa_mustBe (c := 59) a5 hk (by decide) with ⟨q, e⟩ | ⟨q, w2, e, e2, e3, e4⟩
  · refine ⟨1, w1, v3, ?_, ?_, a2.cF, g2.mF, Or.inr ⟨rfl, a3, a4, g3, g4, a6, g5⟩⟩
    · rw [show (59 : Int32) = nI 59 from rfl, e, nc_bI_v, nc_z_1]
    · rw [qc_X12_sign, show (59 : Int32) = nI 59 from rfl, m, nc_bI_v, tI_t q, if_pos (by decide), g1, nc_bV_v]
  · obtain ⟨v2, b1, b2, b3, b4⟩ := sm_bad (t := t) 1 j4.2.1
    refine ⟨0, w2, v2, ?_, ?_, a2.cF.tr e2, b2, Or.inl ⟨rfl, e3.trans b3.symm, e4.trans b4.symm⟩⟩
    · rw [show (59 : Int32) = nI 59 from rfl, e, nc_bI_v, nc_z_0]
    · rw [qc_X12_sign, show (59 : Int32) = nI 59 from rfl, m, nc_bI_v, tI_f q, if_neg (fun z => z rfl), b1, nc_bI_v, nc_z_0]
/-- the names of both -/
theorem nm_iff {X Y : Nat → Int64} {f C N k : Nat} {l : List Nat} (hn : nmOK X Y f C N) (hu : usd f C N k) (hl : wl l) : X k = enc5 l ↔ Y k = enc8 l := by
  obtain ⟨m, m1, m2, m3, m4, m5⟩ := hn.1 k hu
  have hm : wl m := ⟨m2, m3⟩
  rw [m4, m5, enc5_inj hm hl, enc8_inj hm hl]
theorem sd_slotOf {dn f C N : Nat} {Y : Nat → Int64} {l : List Nat} (hn : nmOK (w.2 236 dn) Y f C N) (hf : f ≤ 4) (hC : C ≤ 8) (hN : N ≤ 10) (hl : wl l) (hl0 : l ≠ []) : (∃ k, k < 22 ∧ usd f C N k ∧ w.2 236 dn k = enc5 l ∧ nc_Call m_X2_slotOf [.inr (.inr (2, dn)), .inr (.inl (enc5 l))] w = some (some (.inl (nI k)), w)) ∨ ((∀ k, usd f C N k → w.2 236 dn k ≠ enc5 l) ∧ nc_Call m_X2_slotOf [.inr (.inr (2, dn)), .inr (.inl (enc5 l))] w = some (some (.inl (-1)), w)) := by
  rw [qc_X2_slotOf]
  have key : ∀ m j, j + m = 22 → (∀ k, k < j → w.2 236 dn k ≠ enc5 l) → (∃ k, k < 22 ∧ usd f C N k ∧ w.2 236 dn k = enc5 l ∧ nc_Run m_X2_slotOf 2 [some (.inr (.inr (2, dn))), some (.inr (.inl (enc5 l))), none, some (.inl (nI j))] [] w = some (some (.inl (nI k)), w)) ∨ ((∀ k, usd f C N k → w.2 236 dn k ≠ enc5 l) ∧ nc_Run m_X2_slotOf 2 [some (.inr (.inr (2, dn))), some (.inr (.inl (enc5 l))), none, some (.inl (nI j))] [] w = some (some (.inl (-1)), w)) := by
    intro m
    induction m with
    | zero =>
      intro j hj hno
      rw [qr_X2_slotOf_2, if_pos (show (22 : Int32) ≤ nI j from nI_le (a := 22) (by omega) (by omega))]
      refine Or.inr ⟨fun k hk => hno k ?_, rfl⟩
      unfold usd at hk
      omega
    | succ m ih =>
      intro j hj hno
      rw [qr_X2_slotOf_2, if_neg (show ¬ (22 : Int32) ≤ nI j from nI_ge (b := 22) (by omega) (by decide)), bd8 j 22 (by omega) (by decide)]
      by_cases q : w.2 236 dn j = enc5 l
      · rw [if_neg (fun z => z (lg0.mpr q))]
        refine Or.inl ⟨j, by omega, ?_, q, rfl⟩
        by_cases u : usd f C N j
        · exact u
        · exact absurd ((hn.2.1 j (by omega) u).symm.trans q).symm (enc5_0 hl hl0)
      · rw [if_pos (fun z => q (lg0.mp z)), nc_li_v, nI_1]
        refine ih (j + 1) (by omega) (fun k hk => ?_)
        by_cases e : k = j
        · rw [e]; exact q
        · exact hno k (by omega)
  exact key 22 0 (by omega) (fun k hk => absurd hk (Nat.not_lt_zero k))
theorem sm_seek {fr mn : Nat} {y : Int64} (hw : v.2 12 0 17 = y) (h44 : fr + mn ≤ 44) : (∃ k, k < mn ∧ v.2 877 0 (fr + k) = y ∧ nc_Call m_X12_seek [mO, .inl (nI fr), .inl (nI mn)] v = some (some (.inl (nI k)), v)) ∨ ((∀ k, k < mn → v.2 877 0 (fr + k) ≠ y) ∧ nc_Call m_X12_seek [mO, .inl (nI fr), .inl (nI mn)] v = some (some (.inl (-1)), v)) := by
  rw [qc_X12_seek]
  have key : ∀ m j, j + m = mn → (∀ k, k < j → v.2 877 0 (fr + k) ≠ y) → (∃ k, k < mn ∧ v.2 877 0 (fr + k) = y ∧ nc_Run m_X12_seek 2 [some mO, some (.inl (nI fr)), some (.inl (nI mn)), some (.inl (nI j))] [] v = some (some (.inl (nI k)), v)) ∨ ((∀ k, k < mn → v.2 877 0 (fr + k) ≠ y) ∧ nc_Run m_X12_seek 2 [some mO, some (.inl (nI fr)), some (.inl (nI mn)), some (.inl (nI j))] [] v = some (some (.inl (-1)), v)) := by
    intro m
    induction m with
    | zero =>
      intro j hj hno
      rw [qr_X12_seek_2, if_pos (nI_le (by omega) (by omega))]
      exact Or.inr ⟨fun k hk => hno k (by omega), rfl⟩
    | succ m ih =>
      intro j hj hno
      rw [qr_X12_seek_2, if_neg (nI_ge (by omega) (by omega)), nI_add, bd8 (fr + j) 44 (by omega) (by decide), hw]
      by_cases q : v.2 877 0 (fr + j) = y
      · rw [if_neg (fun z => z (lg0.mpr q))]
        exact Or.inl ⟨j, by omega, q, rfl⟩
      · rw [if_pos (fun z => q (lg0.mp z)), nc_li_v, nI_1]
        refine ih (j + 1) (by omega) (fun k hk => ?_)
        by_cases e : k = j
        · rw [e]; exact q
        · exact hno k (by omega)
  exact key mn 0 (by omega) (fun k hk => absurd hk (Nat.not_lt_zero k))
end JT
