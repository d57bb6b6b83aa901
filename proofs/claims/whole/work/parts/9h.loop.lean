/-! The lines of a dairy to the end, of both. -/
section LP2
variable {b : Nat → Nat} {sz lim n : Nat}
def FQ0 (w v : nc_H) : Prop := w.1 10 0 14 = 0 ∧ v.1 12 0 15 = 0
def LL (w v : nc_H) (k : Nat) : Prop := ∃ r w' v', nc_Run m_X3_read 24 [some (.inr (.inr (3, 0))), some (.inl (nI k))] [] w = some (some (.inl r), w') ∧ cR w w' ∧ mR v v' ∧ ((r = 0 ∧ FQ w' v' ∧ nc_Run m_X12_dairy 59 [some mO, none] [] v = some (some (.inl (-1 - v'.1 12 0 16)), v')) ∨ (r = 1 ∧ nc_Run m_X12_dairy 59 [some mO, none] [] v = nc_Run m_X12_dairy 104 [some mO, some (.inl 0)] [] v' ∧ FQ0 w' v' ∧ ∃ f C N h, DD w' v' f C N h))
theorem ln_end {w v : nc_H} {k i f C N h : Nat} (J : Jt w v b sz lim n i) (D : DD w v f C N h) (hk9 : k ≤ 900) (he : isE (Tk b sz lim i)) : LL w v k := by
  obtain ⟨w1, a1, a2, a3, a4, a5, a6⟩ := jt_c J
  have hk := Tk_ok (b := b) (sz := sz) (lim := lim) i
  have M := J.2.2.2.1
  have e6 := Tk_e6 he
  have k0 : w1.1 10 0 11 = 0 := by rw [a5.2.1]; exact (kc_0 hk).mpr he
  have nl : nc_Call m_X10_nextLine [tO] w = some (some (.inl 0), w1) := by
    rw [qc_X10_nextLine, a1, nc_bV_v, if_pos k0]
  have c9 := a3.2.2.2.1
  unfold LL
  rw [qr_X3_read_24, if_neg (show ¬ (900 : Int32) < nI k from fun z => by have := (nI_litlt (c := 900) (by omega) (by omega)).mp z; omega), nl, nc_bI_v, if_pos rfl, qc_X10_mustEnd, if_neg (fun z => z k0), c9, qr_X12_dairy_59, M.1]
  by_cases q : lim < sz
  · have t6 := e6.mpr q
    obtain ⟨w2, v2, f1, f2, f3, f4, f5⟩ := jt_fail (w := w1) (v := v) (t := Tk b sz lim i) 1 a5.1 M.2.1
    have wb := wq_isE he
    refine ⟨0, w2, v2, ?_, a2.cR.tr f3.cR, f4.mR, Or.inl ⟨rfl, f5, ?_⟩⟩
    · rw [tI_t q, if_neg (by decide), f1, nc_bI_v, if_pos rfl, nc_bI_v, nc_z_0]
    · rw [if_neg (fun z => by have := (km_i hk).2.2.2.mp z; omega), sm_line_bad M hk (by omega), f2, nc_bI_v, nc_z_0, nc_bI_v, if_pos rfl]
  · have t0 : (Tk b sz lim i).1 = 0 := he.resolve_right (fun z => q (e6.mp z))
    refine ⟨1, w1, v, ?_, a2.cR, mR.rf, Or.inr ⟨rfl, ?_, ⟨a3.2.1.2, J.2.2.1.2.2.2.1.2⟩, f, C, N, h, DD_F D a2.cF mF.rf⟩⟩
    · rw [tI_f q, if_pos rfl, nc_bI_v, nc_z_1]
    · rw [if_pos ((km_i hk).2.2.2.mpr t0)]
end LP2
