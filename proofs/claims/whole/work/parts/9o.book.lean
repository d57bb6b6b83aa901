/-! The lines of a book, of both. -/
section BL
variable {w w' v v' : nc_H} {b : Nat → Nat} {sz lim n i : Nat} {t : Tok} {f C N m : Nat}
/-- what the class's reading of a book leaves -/
def cK (w w' : nc_H) : Prop := (∀ t a, ¬ (a = 0 ∧ (t = 0 ∨ t = 10 ∨ (743 ≤ t ∧ t ≤ 746) ∨ (100 ≤ t ∧ t ≤ 102))) → w'.1 t a = w.1 t a ∧ w'.2 t a = w.2 t a) ∧ (∀ k, k ≠ 3 → w'.1 0 0 k = w.1 0 0 k)
def mW (v v' : nc_H) : Prop := (∀ t a, ¬ (a = 0 ∧ (t = 12 ∨ t = 876)) → v'.1 t a = v.1 t a ∧ v'.2 t a = v.2 t a) ∧ (∀ k, ¬ (k = 4 ∨ (11 ≤ k ∧ k ≤ 16) ∨ k = 18 ∨ k = 36) → v'.1 12 0 k = v.1 12 0 k) ∧ (∀ k, k ≠ 17 → v'.2 12 0 k = v.2 12 0 k)
theorem cK.rf : cK w w := ⟨fun _ _ _ => ⟨rfl, rfl⟩, fun _ _ => rfl⟩
theorem cK.tr {w'' : nc_H} (h : cK w w') (g : cK w' w'') : cK w w'' := ⟨fun t a q => ⟨(g.1 t a q).1.trans (h.1 t a q).1, (g.1 t a q).2.trans (h.1 t a q).2⟩, fun k q => (g.2 k q).trans (h.2 k q)⟩
theorem cF.cK (h : cF w w') : cK w w' := ⟨fun t a q => h.1 t a (by omega), fun k _ => by rw [(h.1 0 0 (by omega)).1]⟩
theorem mW.rf : mW v v := ⟨fun _ _ _ => ⟨rfl, rfl⟩, fun _ _ => rfl, fun _ _ => rfl⟩
theorem mW.tr {v'' : nc_H} (h : mW v v') (g : mW v' v'') : mW v v'' := ⟨fun t a q => ⟨(g.1 t a q).1.trans (h.1 t a q).1, (g.1 t a q).2.trans (h.1 t a q).2⟩, fun k q => (g.2.1 k q).trans (h.2.1 k q), fun k q => (g.2.2 k q).trans (h.2.2 k q)⟩
theorem mF.mW (h : mF v v') : mW v v' := ⟨fun t a q => h.1 t a (by omega), fun k q => h.2.1 k (by omega), h.2.2⟩
theorem mW.si {k : Nat} {x : Int32} (hm : mW v v') : mW v (nc_si v' 876 0 k x) := by
  refine hm.tr ⟨fun t' a' q => ⟨?_, rfl⟩, fun k q => ?_, fun _ _ => rfl⟩
  · by_cases e : t' = 876
    · rw [si_a (fun e2 => by omega)]
    · rw [si_t e]
  · rw [si_t (by decide)]
theorem mW.sk {k : Nat} {x : Int32} (hm : mW v v') (hk : k = 18 ∨ k = 36) : mW v (nc_si v' 12 0 k x) := by
  refine hm.tr ⟨fun t' a' q => ⟨?_, rfl⟩, fun j q => ?_, fun _ _ => rfl⟩
  · by_cases e : t' = 12
    · rw [si_a (fun e2 => by omega)]
    · rw [si_t e]
  · rw [si_k (by omega)]
theorem cK.si {t k : Nat} {x : Int32} (hc : cK w w') (ht : (t = 0 ∧ k = 3) ∨ (100 ≤ t ∧ t ≤ 102)) : cK w (nc_si w' t 0 k x) := by
  refine hc.tr ⟨fun t' a' q => ⟨?_, rfl⟩, fun j q => ?_⟩
  · by_cases e : t' = t
    · rw [si_a (fun e2 => by omega)]
    · rw [si_t e]
  · by_cases e : t = 0
    · subst e
      rw [si_k (by omega)]
    · rw [si_t (fun z => e z.symm)]
/-- one line, of both -/
def lnR (a p q x y z : Int32) (C N : Nat) : Prop := (a = 9 ∧ x = 0 ∧ ∃ c n, c < C ∧ n < N ∧ p = nI c ∧ q = nI n ∧ y = nI c ∧ z = nI n) ∨ (a = 10 ∧ x = 1 ∧ ∃ n, n < N ∧ q = nI n ∧ z = nI n) ∨ (a = 11 ∧ x = 2 ∧ ∃ k, 1 ≤ k ∧ k ≤ 60 ∧ q = nI k ∧ y = nI k)
def lnA (w v : nc_H) (C N m : Nat) : Prop := ∀ j, j < m → lnR (w.1 100 0 j) (w.1 101 0 j) (w.1 102 0 j) (v.1 876 0 (3 * j)) (v.1 876 0 (3 * j + 1)) (v.1 876 0 (3 * j + 2)) C N
def BR (w v : nc_H) (C N m : Nat) : Prop := w.1 0 0 3 = nI m ∧ m ≤ 40 ∧ v.1 12 0 36 = nI m ∧ lnA w v C N m
/-- names and numbers of the dairy now -/
def NS (w v : nc_H) (f C N : Nat) : Prop := nmOK (w.2 236 0) (fun k => v.2 877 0 (0 + k)) f C N ∧ f ≤ 4 ∧ C ≤ 8 ∧ N ≤ 10 ∧ v.1 874 0 0 = nI f ∧ v.1 874 0 1 = nI C ∧ v.1 874 0 2 = nI N
theorem NS_z (h : NS w v f C N) (h1 : w'.2 236 0 = w.2 236 0) (h2 : v'.2 877 0 = v.2 877 0) (h3 : v'.1 874 0 = v.1 874 0) : NS w' v' f C N := by
  unfold NS
  rw [h1, h2, h3]
  exact h
/-- the end of a line -/
theorem bt_tail (J : Jt w v b sz lim n i) (h3 : w.1 0 0 3 = nI m) (hm : m < 40) (a p q : Int32) : ∃ r w' v', (nc_bI (nc_Call m_X10_closesLine [tO] w) fun r4 w3 =>
      if r4 ≠ 0 then
        nc_bd (w3.1 0 0 3) 40 fun j5 =>
        nc_lt (nc_si w3 100 0 j5 a) fun w6 =>
        nc_bd (w6.1 0 0 3) 40 fun j7 =>
        nc_lt (nc_si w6 101 0 j7 p) fun w8 =>
        nc_bd (w8.1 0 0 3) 40 fun j9 =>
        nc_lt (nc_si w8 102 0 j9 q) fun w10 =>
        nc_lt (nc_si w10 0 0 3 ((w10.1 0 0 3) + 1)) fun w11 =>
        some (some (.inl 1), w11)
      else
        some (some (.inl 0), w3)) = some (some (.inl r), w') ∧ nc_Call m_X12_sign [mO, .inl 59] v = some (some (.inl r), v') ∧ cK w w' ∧ mF v v' ∧ ((r = 0 ∧ FQ w' v') ∨ (r = 1 ∧ Jt w' v' b sz lim n (i + 1) ∧ w'.1 0 0 3 = nI (m + 1) ∧ (w'.1 100 0 m = a ∧ w'.1 101 0 m = p ∧ w'.1 102 0 m = q) ∧ (∀ j, j ≠ m → w'.1 100 0 j = w.1 100 0 j ∧ w'.1 101 0 j = w.1 101 0 j ∧ w'.1 102 0 j = w.1 102 0 j))) := by
  obtain ⟨r, w1, v1, a1, a2, a3, a4, a5⟩ := jt_close J
  have e3 : w1.1 0 0 3 = nI m := by rw [(a3.1 0 0 (by omega)).1]; exact h3
  rcases a5 with ⟨rfl, fq⟩ | ⟨rfl, J1⟩
  · refine ⟨0, w1, v1, ?_, a2, a3.cK, a4, Or.inl ⟨rfl, fq⟩⟩
    rw [a1, nc_bI_v, if_neg (fun z => z rfl)]
  · refine ⟨1, nc_si (nc_si (nc_si (nc_si w1 100 0 m a) 101 0 m p) 102 0 m q) 0 0 3 (nI (m + 1)), v1, ?_, a2, (((a3.cK.si (by omega)).si (by omega)).si (by omega)).si (by omega), a4, Or.inr ⟨rfl, ?_, si_s, ⟨?_, ?_, ?_⟩, fun j hj => ⟨?_, ?_, ?_⟩⟩⟩
    · have s1 : (nc_si w1 100 0 m a).1 0 0 3 = nI m := by rw [si_t (by decide)]; exact e3
      have s2 : (nc_si (nc_si w1 100 0 m a) 101 0 m p).1 0 0 3 = nI m := by rw [si_t (by decide)]; exact s1
      have s3 : (nc_si (nc_si (nc_si w1 100 0 m a) 101 0 m p) 102 0 m q).1 0 0 3 = nI m := by rw [si_t (by decide)]; exact s2
      rw [a1, nc_bI_v, if_pos (by decide), e3, bd8 m 40 hm (by decide), nc_lt_v, s1, bd8 m 40 hm (by decide), nc_lt_v, s2, bd8 m 40 hm (by decide), nc_lt_v, s3, nc_lt_v, nI_1]
    · exact Jt_z J1 ((((cZ.rf.si ⟨by decide, by decide, by decide, by decide⟩).si ⟨by decide, by decide, by decide, by decide⟩).si ⟨by decide, by decide, by decide, by decide⟩).si ⟨by decide, by decide, by decide, by decide⟩) mZ.rf
    · rw [si_t (by decide), si_t (by decide), si_t (by decide), si_s]
    · rw [si_t (by decide), si_t (by decide), si_s]
    · rw [si_t (by decide), si_s]
    · rw [si_t (by decide), si_t (by decide), si_t (by decide), si_k hj, (a3.1 100 0 (by omega)).1]
    · rw [si_t (by decide), si_t (by decide), si_k hj, si_t (by decide), (a3.1 101 0 (by omega)).1]
    · rw [si_t (by decide), si_k hj, si_t (by decide), si_t (by decide), (a3.1 102 0 (by omega)).1]
/-- at the first word of a line -/
def Pb (w v : nc_H) (b : Nat → Nat) (sz lim n i : Nat) (t : Tok) (f C N m : Nat) : Prop := CS w b sz lim n ∧ CP w b sz lim n (i + 1) ∧ CT w t ∧ TW w ∧ MS v b sz lim ∧ MT v t ∧ TW v ∧ NS w v f C N ∧ BR w v C N m ∧ t = Tk b sz lim i ∧ tkk sz lim t
/-- a line of the model, with its end -/
def LNb (v : nc_H) (r : Int32) (v' : nc_H) : Prop := ∃ r1 v1, nc_Call m_X12_bookLine [mO] v = some (some (.inl r1), v1) ∧ ((r1 = 0 ∧ r = 0 ∧ v' = v1) ∨ (r1 ≠ 0 ∧ nc_Call m_X12_sign [mO, .inl 59] v1 = some (some (.inl r), v')))
def LB (w v : nc_H) (A : Option nc_R) (b : Nat → Nat) (sz lim n i C N m : Nat) : Prop := ∃ r w' v', A = some (some (.inl r), w') ∧ LNb v r v' ∧ cK w w' ∧ mW v v' ∧ ((r = 0 ∧ FQ w' v') ∨ (r = 1 ∧ ∃ i', i + 2 ≤ i' ∧ Jt w' v' b sz lim n i' ∧ w'.1 0 0 3 = nI (m + 1) ∧ m + 1 ≤ 40 ∧ v'.1 12 0 36 = nI m ∧ lnA w' v' C N (m + 1)))
theorem wl_10 : (439956631140 : Int64) = enc8 (wrd 10) := by decide +kernel
theorem wl_11 : (6578553 : Int64) = enc8 (wrd 11) := by decide +kernel
/-- the model's line behind its first word -/
theorem sm_84 {x y za : Int32} (M : MS v b sz lim) (T : MT v (Tk b sz lim i)) (W : TW v) (hm : m < 40) : ∃ v1, nc_Run m_X12_bookLine 84 [some mO, some (.inl (nI (3 * m))), some (.inl x), some (.inl y)] [.inl za, .inl (nI (3 * m)), .inr (.inr (876, 0))] v = (if y = 0 then
    if x ≠ 0 then
      nc_bI (nc_Call m_X12_takesName [mO, .inl 12, .inl (v1.1 874 0 2)] v1) fun r7 w6 =>
      if r7 ≠ 0 then
        nc_bd (nI (3 * m) + 2) 135 fun j8 =>
        nc_lt (nc_si w6 876 0 j8 (w6.1 12 0 18)) fun w9 =>
        some (some (.inl 1), w9)
      else
        some (some (.inl 0), w6)
    else
      nc_bI (nc_Call m_X12_isWord [mO, .inr (.inl 448377483891)] v1) fun r11 w10 =>
      if r11 ≠ 0 then
        nc_bV (nc_Call m_X12_next [mO] w10) fun w12 =>
        nc_bI (nc_Call m_X12_takesName [mO, .inl 12, .inl (w12.1 874 0 2)] w12) fun r14 w13 =>
        if r14 ≠ 0 then
          nc_bd (nI (3 * m) + 2) 135 fun j15 =>
          nc_lt (nc_si w13 876 0 j15 (w13.1 12 0 18)) fun w16 =>
          some (some (.inl 1), w16)
        else
          some (some (.inl 0), w13)
      else
        nc_bI (nc_Call m_X12_bad [mO, .inl 1] w10) fun r18 w17 =>
        nc_z r18 <| some (some (.inl r18), w17)
  else
    nc_bI (nc_Call m_X12_takes [mO, .inl 1, .inl 60] v1) fun r20 w19 =>
    if r20 ≠ 0 then
      nc_bd (nI (3 * m) + 1) 135 fun j21 =>
      nc_lt (nc_si w19 876 0 j21 (w19.1 12 0 18)) fun w22 =>
      some (some (.inl 1), w22)
    else
      some (some (.inl 0), w19)) ∧ mW v v1 ∧ MS v1 b sz lim ∧ MT v1 (Tk b sz lim (i + 1)) ∧ TW v1 ∧ v1.1 12 0 36 = v.1 12 0 36 ∧ v1.1 876 0 = upd (upd (v.1 876 0) (3 * m) za) (3 * m + 1) (v.1 12 0 18) := by
  have z : mZ v (nc_si (nc_si v 876 0 (3 * m) za) 876 0 (3 * m + 1) (v.1 12 0 18)) := (mZ.rf.si ⟨by decide, by decide⟩).si ⟨by decide, by decide⟩
  obtain ⟨v1, g1, g2, g3, g4, g5⟩ := jt_m (i := i) (MS_z M z) (MT_z T z) (TW_z W z.2.2.2.1 z.2.2.2.2)
  refine ⟨v1, ?_, (mW.rf.si.si).tr g2.mF.mW, g3, g4, g5, ?_, ?_⟩
  · have e18 : (nc_si v 876 0 (3 * m) za).1 12 0 18 = v.1 12 0 18 := by rw [si_t (by decide)]
    rw [qr_X12_bookLine_84, bd8 (3 * m) 135 (by omega) (by decide), nc_lt_v, nc_bd_of (3 * m + 1) (nI_1 (3 * m)) (by omega) (by decide), nc_lt_v, e18, g1, nc_bV_v]
  · rw [g2.2.1 36 (by omega), si_t (by decide), si_t (by decide)]
  · rw [(g2.1 876 0 (by omega)).1, si_row, si_row]
theorem i2_135 {m : Nat} {k : Nat → Option nc_R} (hm : m < 40) : nc_bd (nI (3 * m) + 2) 135 k = k (3 * m + 2) := nc_bd_of (3 * m + 2) (by rw [show (2 : Int32) = nI 2 from rfl, nI_add]) (by omega) (by decide)
theorem i1_135 {m : Nat} {k : Nat → Option nc_R} (hm : m < 40) : nc_bd (nI (3 * m) + 1) 135 k = k (3 * m + 1) := nc_bd_of (3 * m + 1) (nI_1 (3 * m)) (by omega) (by decide)
theorem wqn (t : Tok) {j : Nat} (hj : j < 24) (h : wq t ≠ j) : ¬ (if wq t < 24 then nI (wq t) else (-1 : Int32)) = nI j := by
  by_cases q : wq t < 24
  · rw [if_pos q]
    exact fun e => h ((nI_eq (by omega) (by omega)).mp e)
  · rw [if_neg q]
    exact fun e => n1_24 j hj e.symm
theorem wqy (t : Tok) {j : Nat} (hj : j < 24) (h : wq t = j) : (if wq t < 24 then nI (wq t) else (-1 : Int32)) = nI j := by
  rw [if_pos (by omega), h]
theorem lnA_s {w' v' : nc_H} (h : lnA w v C N m) (hw : ∀ j, j ≠ m → w'.1 100 0 j = w.1 100 0 j ∧ w'.1 101 0 j = w.1 101 0 j ∧ w'.1 102 0 j = w.1 102 0 j) (hv : ∀ k, k < 3 * m → v'.1 876 0 k = v.1 876 0 k) (hl : lnR (w'.1 100 0 m) (w'.1 101 0 m) (w'.1 102 0 m) (v'.1 876 0 (3 * m)) (v'.1 876 0 (3 * m + 1)) (v'.1 876 0 (3 * m + 2)) C N) : lnA w' v' C N (m + 1) := by
  intro j hj
  by_cases e : j = m
  · rw [e]
    exact hl
  · obtain ⟨e1, e2, e3⟩ := hw j e
    rw [e1, e2, e3, hv _ (by omega), hv _ (by omega), hv _ (by omega)]
    exact h j (by omega)
end BL
