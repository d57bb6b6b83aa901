/-! A book read whole, of both. -/
section BN
variable {b : Nat → Nat} {sz lim n f C N : Nat}
def LLb (w v : nc_H) (x : Int32) (C N k : Nat) : Prop := ∃ r w' v', nc_Run m_X0_read 14 [some (.inr (.inr (0, 0))), some tO, some (.inr (.inr (2, 0))), some (.inl (nI k))] [] w = some (some (.inl r), w') ∧ cK w w' ∧ mW v v' ∧ ((r = 0 ∧ FQ w' v' ∧ nc_Run m_X12_book 39 [some mO, some (.inl x), none, none] [] v = some (some (.inl (-2 - v'.1 12 0 16)), v')) ∨ (r = 1 ∧ nc_Run m_X12_book 39 [some mO, some (.inl x), none, none] [] v = nc_bV (nc_Call m_X12_tries [mO] v') (fun w1 => nc_Run m_X12_book 89 [some mO, some (.inl x), some (.inl 0), none] [] w1) ∧ FQ0 w' v' ∧ ∃ m, BR w' v' C N m))
theorem le400 {k : Nat} (hk : k ≤ 400) : ¬ (400 : Int32) < nI k := fun z => by
  have := (nI_litlt (c := 400) (n := k) (by omega) (by omega)).mp z
  omega
theorem bn_end {w v : nc_H} {x : Int32} {i m : Nat} (J : Jt w v b sz lim n i) (Nm : NS w v f C N) (B : BR w v C N m) (he : isE (Tk b sz lim i)) : LLb w v x C N m := by
  obtain ⟨w1, a1, a2, a3, a4, a5, a6⟩ := jt_c J
  have hk := Tk_ok (b := b) (sz := sz) (lim := lim) i
  have M := J.2.2.2.1
  have e6 := Tk_e6 he
  have k0 : w1.1 10 0 11 = 0 := by rw [a5.2.1]; exact (kc_0 hk).mpr he
  have nl : nc_Call m_X10_nextLine [tO] w = some (some (.inl 0), w1) := by
    rw [qc_X10_nextLine, a1, nc_bV_v, if_pos k0]
  have c9 := a3.2.2.2.1
  obtain ⟨q1, q2, q3, q4⟩ := B
  unfold LLb
  rw [qr_X0_read_14, if_neg (le400 (by omega)), nl, nc_bI_v, if_pos rfl, qc_X10_mustEnd, if_neg (fun z => z k0), c9, qr_X12_book_39, M.1]
  by_cases q : lim < sz
  · have t6 := e6.mpr q
    obtain ⟨w2, v2, f1, f2, f3, f4, f5⟩ := jt_fail (w := w1) (v := v) (t := Tk b sz lim i) 1 a5.1 M.2.1
    have wb := wq_isE he
    refine ⟨0, w2, v2, ?_, a2.cF.cK.tr f3.cK, f4.mW, Or.inl ⟨rfl, f5, ?_⟩⟩
    · rw [tI_t q, if_neg (by decide), f1, nc_bI_v, if_pos rfl, nc_bI_v, nc_z_0]
    · have hl : nc_Call m_X12_bookLine [mO] v = some (some (.inl 0), v2) := by
        rw [qc_X12_bookLine, nc_li_v, wl_10, sm_wq (by decide) M hk, nc_bI_v, wl_11, sm_wq (by decide) M hk, nc_bI_v, tI_f (by omega), tI_f (by omega), if_neg (fun z => z rfl), if_neg (fun z => z rfl), qc_X12_looksAt, sm_name M hk J.2.2.2.2.2, nc_bI_v, tI_f (fun z => by have h' : (Tk b sz lim i).1 = 0 ∨ (Tk b sz lim i).1 = 6 := he; omega), if_neg (fun z => z rfl), f2, nc_bI_v, nc_z_0, nc_bI_v, if_neg (fun z => z rfl)]
      rw [if_neg (fun z => by have := (km_i hk).2.2.2.mp z; omega), hl, nc_bI_v, if_pos rfl]
  · have t0 : (Tk b sz lim i).1 = 0 := he.resolve_right (fun z => q (e6.mp z))
    refine ⟨1, w1, v, ?_, a2.cF.cK, mW.rf, Or.inr ⟨rfl, ?_, ⟨a3.2.1.2, J.2.2.1.2.2.2.1.2⟩, m, ?_, q2, q3, ?_⟩⟩
    · rw [tI_f q, if_pos rfl, nc_bI_v, nc_z_1]
    · rw [if_pos ((km_i hk).2.2.2.mpr t0)]
    · rw [(a2.1 0 0 (by omega)).1]
      exact q1
    · unfold lnA
      rw [(a2.1 100 0 (by omega)).1, (a2.1 101 0 (by omega)).1, (a2.1 102 0 (by omega)).1]
      exact q4
theorem bn_loop {x : Int32} : ∀ p m i w v, n ≤ i + p → Jt w v b sz lim n i → NS w v f C N → BR w v C N m → LLb w v x C N m := by
  intro p
  have hE : ∀ {w : nc_H} {i : Nat}, CS w b sz lim n → n ≤ i + 1 → isE (Tk b sz lim i) := by
    intro w i hS hi
    have h1 := hS.1
    have := Tk_end hS.2.2.2.2.2.2 (i - (n - 1))
    rw [show n - 1 + (i - (n - 1)) = i by omega] at this
    rw [this]
    exact hS.2.2.2.2.2.2
  induction p with
  | zero =>
    intro m i w v hm J Nm B
    exact bn_end J Nm B (hE J.1 (by omega))
  | succ p ih =>
    intro m i w v hm J Nm B
    by_cases he : isE (Tk b sz lim i)
    · exact bn_end J Nm B he
    · obtain ⟨w1, a1, a2, a3, a4, a5, a6⟩ := jt_c J
      have hkk := Tk_ok (b := b) (sz := sz) (lim := lim) i
      have M := J.2.2.2.1
      have k0 : w1.1 10 0 11 ≠ 0 := by rw [a5.2.1]; exact fun z => he ((kc_0 hkk).mp z)
      have nl : nc_Call m_X10_nextLine [tO] w = some (some (.inl 1), w1) := by
        rw [qc_X10_nextLine, a1, nc_bV_v, if_neg k0]
      have q2 := B.2.1
      have B1 : BR w1 v C N m := by
        obtain ⟨y1, y2, y3, y4⟩ := B
        refine ⟨by rw [(a2.1 0 0 (by omega)).1]; exact y1, y2, y3, ?_⟩
        unfold lnA
        rw [(a2.1 100 0 (by omega)).1, (a2.1 101 0 (by omega)).1, (a2.1 102 0 (by omega)).1]
        exact y4
      have P : Pb w1 v b sz lim n i (Tk b sz lim i) f C N m := ⟨a3, a4, a5, a6, J.2.2.1, M, J.2.2.2.2.2, NS_z Nm (a2.1 236 0 (by omega)).2 rfl rfl, B1, rfl, hkk⟩
      have m0 : v.1 12 0 11 ≠ 0 := by rw [M.1]; exact fun z => he (Or.inl ((km_i hkk).2.2.2.mp z))
      obtain ⟨r, w2, v2, c1, ⟨r1, v1, l1, l2⟩, c3, c4, c5⟩ := bl_line P
      unfold LLb
      rw [qr_X0_read_14, if_neg (le400 (by omega)), nl, nc_bI_v, if_neg (by decide), c1, nc_bI_v, qr_X12_book_39, if_neg m0, l1, nc_bI_v]
      rcases c5 with ⟨r0, fq⟩ | ⟨r0, i', e1, e2, e3, e4, e5, e6⟩
      · subst r0
        refine ⟨0, w2, v2, ?_, a2.cF.cK.tr c3, c4, Or.inl ⟨rfl, fq, ?_⟩⟩
        · rw [if_neg (fun z => z rfl)]
        · rcases l2 with ⟨y1, -, y3⟩ | ⟨y1, y2⟩
          · rw [if_pos y1, y3]
          · rw [if_neg y1, y2, nc_bI_v, if_neg (fun z => z rfl)]
      · subst r0
        rcases l2 with ⟨-, y2, -⟩ | ⟨y1, y2⟩
        · exact absurd y2 (by decide)
        · have J' : Jt w2 (nc_si v2 12 0 36 (nI (m + 1))) b sz lim n i' := Jt_z e2 cZ.rf (mZ.rf.sk (by decide))
          have B' : BR w2 (nc_si v2 12 0 36 (nI (m + 1))) C N (m + 1) := by
            refine ⟨e3, e4, si_s, ?_⟩
            unfold lnA
            rw [si_t (by decide)]
            exact e6
          have Nm' : NS w2 (nc_si v2 12 0 36 (nI (m + 1))) f C N := NS_z Nm ((c3.1 236 0 (by omega)).2.trans (a2.1 236 0 (by omega)).2) (c4.1 877 0 (by omega)).2 (by rw [si_t (by decide)]; exact (c4.1 874 0 (by omega)).1)
          obtain ⟨r, w3, v3, g1, g2, g3, g4⟩ := ih (m + 1) i' _ _ (by omega) J' Nm' B'
          refine ⟨r, w3, v3, ?_, (a2.cF.cK.tr c3).tr g2, (c4.sk (by omega)).tr g3, ?_⟩
          · rw [if_pos (by decide), nc_li_v, nI_1, g1]
          · rw [if_neg y1, y2, nc_bI_v, if_pos (by decide), nc_lt_v, e5, nI_1]
            exact g4
/-- what the model's reading of a book leaves, from the call on -/
def mY (v v' : nc_H) : Prop := (∀ t a, ¬ (a = 0 ∧ (t = 12 ∨ t = 876)) → v'.1 t a = v.1 t a ∧ v'.2 t a = v.2 t a) ∧ (∀ k, ¬ (k = 0 ∨ (2 ≤ k ∧ k ≤ 5) ∨ (11 ≤ k ∧ k ≤ 16) ∨ k = 18 ∨ k = 36) → v'.1 12 0 k = v.1 12 0 k) ∧ (∀ k, k ≠ 17 → v'.2 12 0 k = v.2 12 0 k) ∧ v'.1 12 0 2 = 0
theorem jb_read {w v : nc_H} {x : Int32} (hx : rng x 2) (hB : CB w b sz) (hT : TW w) (hz : v.1 12 0 2 = nI sz) (hb : ∀ k, k < 940 → v.1 869 0 k &&& 255 = nI (b k)) (hV : TW v) (hN : NS w v f C N) : ∃ r w' v', nc_Call m_X0_read [.inr (.inr (0, 0)), tO, .inr (.inr (2, 0))] w = some (some (.inl r), w') ∧ cK w w' ∧ mY v v' ∧ ((r = 0 ∧ FQ w' v' ∧ nc_Call m_X12_book [mO, .inl x] v = some (some (.inl (-2 - v'.1 12 0 16)), v')) ∨ (r = 1 ∧ nc_Call m_X12_book [mO, .inl x] v = nc_bV (nc_Call m_X12_tries [mO] v') (fun w1 => nc_Run m_X12_book 89 [some mO, some (.inl x), some (.inl 0), none] [] w1) ∧ FQ0 w' v' ∧ ∃ m, BR w' v' C N m)) := by
  have hm := qc_X12_book 0 x v
  rw [nc_lt_v, sm_isIn, nc_bI_v, tI_t (isIn01.mpr hx), if_pos (by decide), qc_X12_taken] at hm
  simp only [nc_lt_v, nc_bV_v, si_rw, row_s, row_r] at hm
  generalize hF : upd (upd (upd (upd (upd (upd (upd (v.1 12 0) 0 0) 3 (upd (v.1 12 0) 0 0 2)) 2 0) 4 0) 5 400) 15 0) 36 0 = F at hm
  have hF' : ∀ k, ¬ (k = 0 ∨ (2 ≤ k ∧ k ≤ 5) ∨ (11 ≤ k ∧ k ≤ 16) ∨ k = 18 ∨ k = 36) → F k = v.1 12 0 k := fun k q => by
    rw [← hF, upd_n (by omega), upd_n (by omega), upd_n (by omega), upd_n (by omega), upd_n (by omega), upd_n (by omega), upd_n (by omega)]
  have F2 : F 2 = 0 := by rw [← hF]; rfl
  have F3 : F 3 = nI sz := by rw [← hF]; exact hz
  have F4 : F 4 = nI 0 := by rw [← hF]; rfl
  have F5 : F 5 = nI 400 := by rw [← hF]; rfl
  have F15 : F 15 = 0 := by rw [← hF]; rfl
  have F36 : F 36 = nI 0 := by rw [← hF]; rfl
  have B2 : CB (nc_si w 0 0 3 0) b sz := by
    refine ⟨?_, hB.2.1, fun k hk => ⟨(hB.2.2 k hk).1, ?_⟩⟩
    · rw [si_t (by decide)]
      exact hB.1
    · rw [si_t (by decide)]
      exact (hB.2.2 k hk).2
  have T2 : TW (nc_si w 0 0 3 0) := TW_z hT rfl rfl
  obtain ⟨w3, n, c1, c2, c3, c4, c5, c6, c7⟩ := sa_start (lim := 400) B2 T2 (by decide)
  have MS1 : MS (row v 12 0 F) b sz 400 := ⟨by rw [row_s]; exact F3, by rw [row_s]; exact F5, hB.2.1, ⟨by decide, by rw [row_s]; exact F15⟩, fun k hk => ⟨(hB.2.2 k hk).1, by rw [row_t (by decide)]; exact hb k hk⟩⟩
  obtain ⟨v2, d1, d2, d3⟩ := sm_next (p := 0) MS1 (by rw [row_s]; exact F4) (Nat.zero_le _)
  have TV1 : TW (row v 12 0 F) := TW_z hV rfl rfl
  rw [d1, nc_bV_v] at hm
  have J : Jt w3 v2 b sz 400 n 0 := ⟨c3, ⟨by rw [c4, Nat.zero_min]; rfl, fun q => absurd q (by decide)⟩, MS_mN MS1 d2, d3, TW_cN T2 c2, TW_mN TV1 d2⟩
  have N2 : NS w3 v2 f C N := NS_z hN (c2.2.1 236 0 (by omega)) (d2.1 877 0 (by omega)).2 (by rw [(d2.1 874 0 (by omega)).1, row_t (by decide)])
  have BR2 : BR w3 v2 C N 0 := ⟨by rw [c2.1 0 0 (by omega), si_s]; rfl, by decide, by rw [d2.2.1 36 (by omega), row_s]; exact F36, fun j hj => absurd hj (Nat.not_lt_zero j)⟩
  obtain ⟨r, w4, v4, e1, e2, e3, e4⟩ := bn_loop (x := x) n 0 0 w3 v2 (by omega) J N2 BR2
  have cc : cK w w3 := by
    refine ⟨fun t a q => ⟨?_, ?_⟩, fun k hk => ?_⟩
    · rw [c2.1 t a (by omega)]
      by_cases e : t = 0
      · subst e
        rw [si_a (by omega)]
      · rw [si_t e]
    · rw [c2.2.1 t a (by omega)]
      rfl
    · rw [c2.1 0 0 (by omega), si_k hk]
  have mq : mY v v4 := by
    obtain ⟨g1, g2, g3⟩ := d2.mF.mW.tr e3
    refine ⟨fun t a q => ⟨(g1 t a q).1.trans (row_n (by omega)), (g1 t a q).2⟩, fun k q => ?_, g3, ?_⟩
    · rw [g2 k (by omega), row_s]
      exact hF' k q
    · rw [g2 2 (by omega), row_s]
      exact F2
  refine ⟨r, w4, v4, ?_, cc.tr e2, mq, ?_⟩
  · rw [qc_X0_read, nc_lt_v, show (400 : Int32) = nI 400 from rfl, c1, nc_bV_v]
    exact e1
  · rw [hm]
    exact e4
end BN
