/-! The class's TOKENS. -/
section ST
abbrev Tok : Type := Nat × Nat × Nat × Nat × List Nat
def isE (t : Tok) : Prop := t.1 = 0 ∨ t.1 = 6
def Tk (b : Nat → Nat) (sz lim : Nat) : Nat → Tok
  | 0 => tok b sz lim 0
  | j + 1 => tok b sz lim (Tk b sz lim j).2.2.1
/-- kind, value and letters of a TOKEN, as the class holds them -/
def CV (t : Tok) (k x : Int32) (y : Int64) : Prop := k = kc t ∧ (t.1 = 2 → x = (if wi t.2.2.2.2 < 24 then nI (wi t.2.2.2.2) else -1) ∧ y = enc5 t.2.2.2.2) ∧ (t.1 = 4 ∨ t.1 = 5 → x = nI t.2.2.2.1)
def CE (w : nc_H) (j : Nat) (t : Tok) : Prop := w.1 743 0 j = nI t.2.1 ∧ CV t (w.1 744 0 j) (w.1 745 0 j) (w.2 746 0 j)
def CB (w : nc_H) (b : Nat → Nat) (sz : Nat) : Prop := w.1 10 0 1 = nI sz ∧ sz ≤ 940 ∧ ∀ k, k < 940 → b k < 256 ∧ w.1 740 0 k &&& 255 = nI (b k)
def cN (w w' : nc_H) : Prop := (∀ t a, ¬ (a = 0 ∧ (t = 10 ∨ (743 ≤ t ∧ t ≤ 745))) → w'.1 t a = w.1 t a) ∧ (∀ t a, ¬ (a = 0 ∧ (t = 10 ∨ t = 746)) → w'.2 t a = w.2 t a) ∧ (∀ k, ¬ (7 ≤ k ∧ k ≤ 15) → w'.1 10 0 k = w.1 10 0 k) ∧ (∀ k, k ≠ 13 → w'.2 10 0 k = w.2 10 0 k)
theorem cN.rf {w : nc_H} : cN w w := ⟨fun _ _ _ => rfl, fun _ _ _ => rfl, fun _ _ => rfl, fun _ _ => rfl⟩
theorem cN.tr {w w' w'' : nc_H} (h : cN w w') (h2 : cN w' w'') : cN w w'' := ⟨fun t a q => (h2.1 t a q).trans (h.1 t a q), fun t a q => (h2.2.1 t a q).trans (h.2.1 t a q), fun k q => (h2.2.2.1 k q).trans (h.2.2.1 k q), fun k q => (h2.2.2.2 k q).trans (h.2.2.2 k q)⟩
theorem cN.si {w w' : nc_H} {k : Nat} {x : Int32} (h : cN w w') (hk : 7 ≤ k ∧ k ≤ 15) : cN w (nc_si w' 10 0 k x) := by
  refine ⟨fun t a q => ?_, h.2.1, fun j q => ?_, h.2.2.2⟩
  · by_cases e : t = 10
    · rw [si_a (fun e2 => q ⟨e2, Or.inl e⟩)]
      exact h.1 t a q
    · rw [si_t e]
      exact h.1 t a q
  · rw [si_k (fun e => q (by omega))]
    exact h.2.2.1 j q
variable {w w' : nc_H} {b : Nat → Nat} {sz lim p z m : Nat}
theorem CB_cN (h : CB w b sz) (hc : cN w w') : CB w' b sz := by
  obtain ⟨h1, h2, h3⟩ := h
  refine ⟨(hc.2.2.1 1 (by omega)).trans h1, h2, fun k hk => ⟨(h3 k hk).1, ?_⟩⟩
  rw [hc.1 740 0 (by omega)]
  exact (h3 k hk).2
theorem TW_cN (h : TW w) (hc : cN w w') : TW w' := by
  refine ⟨fun k hk => ?_, fun k hk => ?_⟩
  · rw [hc.2.1 742 0 (by omega)]
    exact h.1 k hk
  · rw [hc.2.1 878 0 (by omega)]
    exact h.2 k hk
/-- one TOKEN, added -/
theorem sa_add {x k e : Int32} {y : Int64} (h7 : w.1 10 0 7 = nI m) (hm : m < 901) : ∃ w', nc_Call m_X10_add [tO, .inl x, .inl k, .inl e, .inr (.inl y)] w = some (none, w') ∧ cN w w' ∧ w'.1 10 0 7 = nI (m + 1) ∧ (∀ j, j ≠ 7 → w'.1 10 0 j = w.1 10 0 j) ∧ (w'.1 743 0 m = x ∧ w'.1 744 0 m = k ∧ w'.1 745 0 m = e ∧ w'.2 746 0 m = y) ∧ (∀ j, j ≠ m → w'.1 743 0 j = w.1 743 0 j ∧ w'.1 744 0 j = w.1 744 0 j ∧ w'.1 745 0 j = w.1 745 0 j ∧ w'.2 746 0 j = w.2 746 0 j) := by
  have e7 : ∀ {t kk : Nat} {u : nc_H} {x : Int32}, t ≠ 10 → u.1 10 0 7 = nI m → (nc_si u t 0 kk x).1 10 0 7 = nI m := by
    intro t kk u x ht hu
    rw [si_t (fun e => ht e.symm)]
    exact hu
  refine ⟨nc_si (nc_sl (nc_si (nc_si (nc_si w 743 0 m x) 744 0 m k) 745 0 m e) 746 0 m y) 10 0 7 (nI (m + 1)), ?_, ?_, si_s, fun j hj => ?_, ⟨?_, ?_, ?_, ?_⟩, fun j hj => ⟨?_, ?_, ?_, ?_⟩⟩
  · rw [qc_X10_add, h7, if_neg (show ¬ (901 : Int32) ≤ nI m from nI_ge (b := 901) (by omega) (by decide)), bd8 m 901 hm (by decide), nc_lt_v, nc_bd_of m (e7 (by decide) h7) hm (by decide), nc_lt_v, nc_bd_of m (e7 (by decide) (e7 (by decide) h7)) hm (by decide), nc_lt_v, nc_bd_of m (e7 (by decide) (e7 (by decide) (e7 (by decide) h7))) hm (by decide), nc_lt_v, nc_lt_v, sl_1, e7 (by decide) (e7 (by decide) (e7 (by decide) h7)), nI_1]
  · refine cN.si ⟨fun t a q => ?_, fun t a q => ?_, fun j _ => ?_, fun j hj => ?_⟩ (by omega)
    · rw [sl_1]
      by_cases ea : a = 0
      · rw [si_t (by omega), si_t (by omega), si_t (by omega)]
      · rw [si_a ea, si_a ea, si_a ea]
    · by_cases ea : a = 0
      · rw [sl_t (by omega)]
        rfl
      · rw [sl_a ea]
        rfl
    · rw [sl_1, si_t (by decide), si_t (by decide), si_t (by decide)]
    · rw [sl_t (by decide)]
      rfl
  · rw [si_k hj, sl_1, si_t (by decide), si_t (by decide), si_t (by decide)]
  · rw [si_t (by decide), sl_1, si_t (by decide), si_t (by decide), si_s]
  · rw [si_t (by decide), sl_1, si_t (by decide), si_s]
  · rw [si_t (by decide), sl_1, si_s]
  · rw [si_2, sl_s]
  · rw [si_t (by decide), sl_1, si_t (by decide), si_t (by decide), si_k hj]
  · rw [si_t (by decide), sl_1, si_t (by decide), si_k hj, si_t (by decide)]
  · rw [si_t (by decide), sl_1, si_k hj, si_t (by decide), si_t (by decide)]
  · rw [si_2, sl_k hj]
    rfl
theorem sa_isLetter {c : Nat} (hc : c < 256) : nc_Call m_X10_isLetter [.inl (nI c)] w = some (some (.inl (bI (smB c))), w) := by
  rw [qc_X10_isLetter]
  have := sm_small (v := w) hc
  rw [qc_X12_isSmall] at this
  exact this
theorem sa_isDigit {c : Nat} (hc : c < 256) : nc_Call m_X10_isDigit [.inl (nI c)] w = some (some (.inl (bI (dgB c))), w) := by
  rw [qc_X10_isDigit]
  have := sm_digit' (v := w) hc
  rw [qc_X12_isDigit] at this
  exact this
theorem sa_byte (h : CB w b sz) (hp : p < sz) : nc_Call m_X10_at [tO, .inl (nI p)] w = some (some (.inl (nI (b p))), w) := by
  have h2 := h.2.1
  rw [sa_at (by omega), (h.2.2 p (by omega)).2]
/-- a run of the class -/
def lc (b : Nat → Nat) (z : Nat) : Nat → Nat
  | 0 => 0
  | i + 1 => if smB (b (z + i)) = true then lc b z i + 1 else lc b z i
def lee (b : Nat → Nat) (z : Nat) : Nat → Int64
  | 0 => 0
  | i + 1 => if smB (b (z + i)) = true then ((lee b z i) <<< ((5 : Int32).toInt64 &&& 63)) ||| ((nI (b (z + i)) &&& 31).toInt64) else lee b z i
def lnn (b : Nat → Nat) (z : Nat) : Nat → Int32
  | 0 => 0
  | i + 1 => if smB (b (z + i)) = true then lnn b z i else lnn b z i * 10 + nI (b (z + i)) - 48
theorem lc_s {i : Nat} : lc b z (i + 1) = if smB (b (z + i)) = true then lc b z i + 1 else lc b z i := rfl
theorem lee_s {i : Nat} : lee b z (i + 1) = if smB (b (z + i)) = true then ((lee b z i) <<< ((5 : Int32).toInt64 &&& 63)) ||| ((nI (b (z + i)) &&& 31).toInt64) else lee b z i := rfl
theorem lnn_s {i : Nat} : lnn b z (i + 1) = if smB (b (z + i)) = true then lnn b z i else lnn b z i * 10 + nI (b (z + i)) - 48 := rfl
theorem n1_24 : ∀ k, k < 24 → nI k ≠ -1 := by decide +kernel
theorem lc_le : ∀ i, lc b z i ≤ i
  | 0 => Nat.le_refl 0
  | i + 1 => by
    unfold lc
    have := lc_le i
    split <;> omega
theorem lc_all : ∀ i, lc b z i = i ↔ (rl b z i).all smB = true
  | 0 => ⟨fun _ => rfl, fun _ => rfl⟩
  | i + 1 => by
    rw [rl_s, Bool.and_eq_true, ← lc_all i, lc_s]
    have := lc_le (b := b) (z := z) i
    by_cases q : smB (b (z + i)) = true
    · rw [if_pos q]
      exact ⟨fun e => ⟨by omega, q⟩, fun e => by rw [e.1]⟩
    · rw [if_neg q]
      exact ⟨fun e => by omega, fun e => absurd e.2 q⟩
theorem lc_0 : ∀ i, (∀ j, j < i → alB (b (z + j)) = true) → (lc b z i = 0 ↔ (rl b z i).all dgB = true)
  | 0 => fun _ => ⟨fun _ => rfl, fun _ => rfl⟩
  | i + 1 => by
    intro ha
    rw [rl_s, Bool.and_eq_true, ← lc_0 i (fun j hj => ha j (by omega)), lc_s]
    by_cases q : smB (b (z + i)) = true
    · rw [if_pos q]
      refine ⟨fun e => by omega, fun e => ?_⟩
      have h1 := smB_t.mp q
      have h2 := dgB_t.mp e.2
      omega
    · rw [if_neg q]
      exact ⟨fun e => ⟨e, (alB_t.mp (ha i (by omega))).elim (fun x => absurd x q) id⟩, fun e => e.1⟩
theorem c31 {c : Nat} (hc : c < 256) : (nI c &&& 31).toInt64 = Int64.ofNat (c % 32) := (by decide +kernel : ∀ c, c < 256 → (nI c &&& 31).toInt64 = Int64.ofNat (c % 32)) c hc
theorem lee_e : ∀ i, (∀ j, j < i → b (z + j) < 256) → (rl b z i).all smB = true → lee b z i = enc5 (rl b z i)
  | 0 => fun _ _ => rfl
  | i + 1 => by
    intro hb h
    rw [rl_s, Bool.and_eq_true] at h
    have s5 : ((5 : Int32).toInt64 &&& 63) = 5 := by decide
    show lee b z (i + 1) = enc5 (rl b z i ++ [b (z + i)])
    rw [lee_s, if_pos h.2, lee_e i (fun j hj => hb j (by omega)) h.1, enc5_a, c31 (hb i (by omega)), s5]
theorem lnn_e : ∀ i, (rl b z i).all dgB = true → lnn b z i = numI (rl b z i)
  | 0 => fun _ => rfl
  | i + 1 => by
    intro h
    rw [rl_s, Bool.and_eq_true] at h
    show lnn b z (i + 1) = numI (rl b z i ++ [b (z + i)])
    rw [lnn_s, if_neg (fun q => by have h1 := smB_t.mp q; have h2 := dgB_t.mp h.2; omega), lnn_e i h.1, numI_a, Int32.mul_comm]
theorem sa_addRun (hB : CB w b sz) (hT : TW w) (hz : z < sz) (ha : alB (b z) = true) (hn : ¬ (lim < sz ∧ lim ≤ z)) : ∃ k x y, CV (tkn b sz lim z) k x y ∧ nc_Call m_X10_addRun [tO, .inl (nI z)] w = nc_bV (nc_Call m_X10_add [tO, .inl (nI z), .inl k, .inl x, .inr (.inl y)] w) (fun w1 => some (some (.inl (nI (rln b sz z))), w1)) := by
  obtain ⟨r1, r2, r3, r4⟩ := rln_spec hz ha
  have h2 := hB.2.1
  generalize hL : rln b sz z = L at r1 r2 r3 r4
  have hLe : rln b sz z = L := hL
  have hbb : ∀ j, j < L → b (z + j) < 256 := fun j hj => (hB.2.2 (z + j) (by omega)).1
  have body : ∃ k x y, CV (tkn b sz lim z) k x y ∧ (if nI (lc b z L) ≠ nI L then
      if nI (lc b z L) ≠ 0 then
        nc_bV (nc_Call m_X10_add [tO, .inl (nI z), .inl 1, .inl (lnn b z L), .inr (.inl 0)] w) fun w1 =>
        some (some (.inl (nI L)), w1)
      else
        if (3 : Int32) < nI L then
          nc_bV (nc_Call m_X10_add [tO, .inl (nI z), .inl 1, .inl (lnn b z L), .inr (.inl 0)] w) fun w2 =>
          some (some (.inl (nI L)), w2)
        else
          nc_bV (nc_Call m_X10_add [tO, .inl (nI z), .inl 4, .inl (lnn b z L), .inr (.inl 0)] w) fun w3 =>
          some (some (.inl (nI L)), w3)
    else
      if (7 : Int32) < nI L then
        if nI (lc b z L) ≠ 0 then
          nc_bV (nc_Call m_X10_add [tO, .inl (nI z), .inl 1, .inl (lnn b z L), .inr (.inl 0)] w) fun w4 =>
          some (some (.inl (nI L)), w4)
        else
          if (3 : Int32) < nI L then
            nc_bV (nc_Call m_X10_add [tO, .inl (nI z), .inl 1, .inl (lnn b z L), .inr (.inl 0)] w) fun w5 =>
            some (some (.inl (nI L)), w5)
          else
            nc_bV (nc_Call m_X10_add [tO, .inl (nI z), .inl 4, .inl (lnn b z L), .inr (.inl 0)] w) fun w6 =>
            some (some (.inl (nI L)), w6)
      else
        nc_bI (nc_Call m_X10_toldWord [tO, .inr (.inl (lee b z L))] w) fun r8 w7 =>
        if r8 ≠ (-1) then
          nc_bV (nc_Call m_X10_add [tO, .inl (nI z), .inl 2, .inl r8, .inr (.inl (lee b z L))] w7) fun w9 =>
          some (some (.inl (nI L)), w9)
        else
          nc_bV (nc_Call m_X10_add [tO, .inl (nI z), .inl 3, .inl r8, .inr (.inl (lee b z L))] w7) fun w10 =>
          some (some (.inl (nI L)), w10)) = nc_bV (nc_Call m_X10_add [tO, .inl (nI z), .inl k, .inl x, .inr (.inl y)] w) (fun w1 => some (some (.inl (nI L)), w1)) := by
    have hc := lc_le (b := b) (z := z) L
    have eL : nI (lc b z L) = nI L ↔ lc b z L = L := nI_eq (by omega) (by omega)
    have e0 : nI (lc b z L) = 0 ↔ lc b z L = 0 := nI_lit (by omega) 0 (by decide)
    have e3 : (3 : Int32) < nI L ↔ 3 < L := nI_litlt (c := 3) (by omega) (by omega)
    have e7 : (7 : Int32) < nI L ↔ 7 < L := nI_litlt (c := 7) (by omega) (by omega)
    have no : ∀ {t : Tok} {x : Int32} {y : Int64}, t.1 = 1 → CV t 1 x y := by
      intro t x y ht
      refine ⟨?_, fun q => by omega, fun q => by omega⟩
      unfold kc
      rw [if_pos ht]
    by_cases c1 : lc b z L = L
    · rw [if_neg (fun q => q (eL.mpr c1))]
      have cs := (lc_all L).mp c1
      by_cases c7 : 7 < L
      · refine ⟨1, lnn b z L, 0, ?_, ?_⟩
        · rw [tkn_1 hn hz ha (by rw [hLe]; exact fun q => by omega) (by rw [hLe]; exact fun q => by omega)]
          exact no rfl
        · rw [if_pos (e7.mpr c7), if_pos (fun q => by have := e0.mp q; omega)]
      · have ht : tkn b sz lim z = (2, z, z + L, 0, rl b z L) := by
          rw [tkn_2 hn hz ha (by rw [hLe]; exact cs) (by rw [hLe]; omega), hLe]
        have hw : wl (rl b z L) := ⟨by rw [rl_len]; omega, all_sm cs⟩
        rw [if_neg (fun q => c7 (e7.mp q)), lee_e L hbb cs, sa_toldWord hT hw, nc_bI_v, ht]
        by_cases c24 : wi (rl b z L) < 24
        · rw [if_pos c24]
          refine ⟨2, nI (wi (rl b z L)), enc5 (rl b z L), ⟨?_, fun _ => ⟨(if_pos c24).symm, rfl⟩, fun q => by have : (2 : Nat) = 4 ∨ (2 : Nat) = 5 := q; omega⟩, ?_⟩
          · show 2 = if wi (rl b z L) < 24 then (2 : Int32) else 3
            rw [if_pos c24]
          · rw [if_pos (n1_24 _ c24)]
        · rw [if_neg c24]
          refine ⟨3, -1, enc5 (rl b z L), ⟨?_, fun _ => ⟨(if_neg c24).symm, rfl⟩, fun q => by have : (2 : Nat) = 4 ∨ (2 : Nat) = 5 := q; omega⟩, ?_⟩
          · show 3 = if wi (rl b z L) < 24 then (2 : Int32) else 3
            rw [if_neg c24]
          · rw [if_neg (fun q => q rfl)]
    · rw [if_pos (fun q => c1 (eL.mp q))]
      have cs : ¬ (rl b z L).all smB = true := fun q => c1 ((lc_all L).mpr q)
      by_cases c0 : lc b z L = 0
      · rw [if_neg (fun q => q (e0.mpr c0))]
        have cd := (lc_0 L r3).mp c0
        by_cases c3 : 3 < L
        · refine ⟨1, lnn b z L, 0, ?_, ?_⟩
          · rw [tkn_1 hn hz ha (by rw [hLe]; exact fun q => cs q.1) (by rw [hLe]; exact fun q => by omega)]
            exact no rfl
          · rw [if_pos (e3.mpr c3)]
        · refine ⟨4, lnn b z L, 0, ?_, ?_⟩
          · rw [tkn_4 hn hz ha (by rw [hLe]; exact fun q => cs q.1) (by rw [hLe]; exact cd) (by rw [hLe]; omega), hLe]
            refine ⟨rfl, fun q => by have : (4 : Nat) = 2 := q; omega, fun _ => ?_⟩
            rw [lnn_e L cd, num_eq _ cd]
          · rw [if_neg (fun q => c3 (e3.mp q))]
      · refine ⟨1, lnn b z L, 0, ?_, ?_⟩
        · rw [tkn_1 hn hz ha (by rw [hLe]; exact fun q => cs q.1) (by rw [hLe]; exact fun q => c0 ((lc_0 L r3).mpr q.1))]
          exact no rfl
        · rw [if_pos (fun q => c0 (e0.mp q))]
  obtain ⟨k, x, y, b1, b2⟩ := body
  refine ⟨k, x, y, b1, Eq.trans ?_ b2⟩
  rw [qc_X10_addRun]
  have key : ∀ n i, i + n = L → nc_Run m_X10_addRun 13 [some tO, some (.inl (nI z)), some (.inl (nI i)), some (.inl (nI (lc b z i))), some (.inl (lnn b z i)), some (.inr (.inl (lee b z i))), none, some (.inl (nI (z + i)))] [] w = nc_Run m_X10_addRun 13 [some tO, some (.inl (nI z)), some (.inl (nI L)), some (.inl (nI (lc b z L))), some (.inl (lnn b z L)), some (.inr (.inl (lee b z L))), none, some (.inl (nI (z + L)))] [] w := by
    intro n
    induction n with
    | zero =>
      intro i hi
      rw [show i = L by omega]
    | succ n ih =>
      intro i hi
      refine Eq.trans ?_ (ih (i + 1) (by omega))
      have hb := hbb i (by omega)
      have by' := sa_byte hB (show z + i < sz by omega)
      have e31 : (5 : Int32).toInt64 &&& 63 = (5 : Int32).toInt64 &&& 63 := rfl
      rw [qr_X10_addRun_13, hB.1, if_neg (nI_ge (by omega) (by omega)), by', nc_bI_v, sa_isLetter hb, nc_bI_v]
      by_cases q : smB (b (z + i)) = true
      · rw [q, if_pos (by decide), nc_li_v, by', nc_bI_v, sa_isLetter hb, nc_bI_v, q, if_neg (by decide), by', nc_bI_v, qc_X10_withLetter, nc_bL_v, nc_li_v, nc_li_v, nI_1, nI_1, nI_1]
        rw [lc_s, lnn_s, lee_s, if_pos q, if_pos q, if_pos q]
        rfl
      · have qd : dgB (b (z + i)) = true := (alB_t.mp (r3 i (by omega))).elim (fun x => absurd x q) id
        have qf := Bool.eq_false_iff.mpr q
        rw [qf, if_neg (fun z => z rfl), by', nc_bI_v, sa_isDigit hb, nc_bI_v, qd, if_neg (by decide), nc_li_v, by', nc_bI_v, sa_isLetter hb, nc_bI_v, qf, if_pos (show bI false = 0 from rfl), by', nc_bI_v, nc_li_v, nc_li_v, nI_1, nI_1]
        rw [lc_s, lnn_s, lee_s, if_neg q, if_neg q, if_neg q]
        rfl
  refine (key L 0 (by omega)).trans ?_
  rw [qr_X10_addRun_13, hB.1]
  by_cases q : sz ≤ z + L
  · rw [if_pos (nI_le q (by omega))]
  · have hb := (hB.2.2 (z + L) (by omega)).1
    have by' := sa_byte hB (show z + L < sz by omega)
    have ho := r4 (by omega)
    unfold alB at ho
    rw [Bool.or_eq_false_iff] at ho
    rw [if_neg (nI_ge (by omega) (by omega)), by', nc_bI_v, sa_isLetter hb, nc_bI_v, ho.1, if_neg (fun z => z rfl), by', nc_bI_v, sa_isDigit hb, nc_bI_v, ho.2, if_pos (show bI false = 0 from rfl)]
end ST
