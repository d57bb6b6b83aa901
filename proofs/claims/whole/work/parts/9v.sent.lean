/-! A sentence: what both hold while it is read. -/
section SA
variable {w w' v v' : nc_H} {b : Nat → Nat} {sz lim n i : Nat} {t : Tok} {f C N T D m o dp : Nat} {bs : Nat → Int32}
/-- both have TOKEN i at hand -/
def Ja (w v : nc_H) (b : Nat → Nat) (sz lim n i : Nat) : Prop := CS w b sz lim n ∧ CP w b sz lim n (i + 1) ∧ CT w (Tk b sz lim i) ∧ TW w ∧ MS v b sz lim ∧ MT v (Tk b sz lim i) ∧ TW v
theorem Ja_z (J : Ja w v b sz lim n i) (zc : cZ w w') (zm : mZ v v') : Ja w' v' b sz lim n i := by
  obtain ⟨j1, j2, j3, j4, j5, j6, j7⟩ := J
  exact ⟨CS_z j1 zc, CP_z j2 zc, CT_z j3 zc, TW_z j4 zc.2.2.2.2.2.2.1 zc.2.2.2.2.2.2.2, MS_z j5 zm, MT_z j6 zm, TW_z j7 zm.2.2.2.1 zm.2.2.2.2⟩
/-- the model reads on first -/
theorem Ja_m (J : Ja w v b sz lim n i) : ∃ v1, nc_Call m_X12_next [mO] v = some (none, v1) ∧ mN v v1 ∧ Jt w v1 b sz lim n (i + 1) := by
  obtain ⟨j1, j2, j3, j4, j5, j6, j7⟩ := J
  obtain ⟨v1, a1, a2, a3, a4, a5⟩ := jt_m j5 j6 j7
  exact ⟨v1, a1, a2, j1, j2, a3, a4, j4, a5⟩
/-- then the class -/
theorem Jt_a (J : Jt w v b sz lim n i) : ∃ w1, nc_Call m_X10_next [tO] w = some (none, w1) ∧ cX w w1 ∧ Ja w1 v b sz lim n i := by
  obtain ⟨w1, a1, a2, a3, a4, a5, a6⟩ := jt_c J
  obtain ⟨j1, j2, j3, j4, j5, j6⟩ := J
  exact ⟨w1, a1, a2, a3, a4, a5, a6, j3, j4, j6⟩
/-- what the class's reading of a sentence leaves -/
def cS (w w' : nc_H) : Prop := ∀ t a, ¬ (t = 10 ∧ a = 0) → ¬ (a = 1 ∧ (t = 9 ∨ (676 ≤ t ∧ t ≤ 678))) → w'.1 t a = w.1 t a ∧ w'.2 t a = w.2 t a
def mS (v v' : nc_H) : Prop := (∀ t a, ¬ (a = 0 ∧ (t = 12 ∨ t = 876 ∨ t = 907)) → v'.1 t a = v.1 t a ∧ v'.2 t a = v.2 t a) ∧ (∀ k, ¬ (k = 4 ∨ (11 ≤ k ∧ k ≤ 16) ∨ k = 18 ∨ (40 ≤ k ∧ k ≤ 44)) → v'.1 12 0 k = v.1 12 0 k) ∧ (∀ k, k ≠ 17 → v'.2 12 0 k = v.2 12 0 k)
theorem cS.rf : cS w w := fun _ _ _ _ => ⟨rfl, rfl⟩
theorem cS.tr {w'' : nc_H} (h : cS w w') (g : cS w' w'') : cS w w'' := fun t a q r => ⟨(g t a q r).1.trans (h t a q r).1, (g t a q r).2.trans (h t a q r).2⟩
theorem mS.rf : mS v v := ⟨fun _ _ _ => ⟨rfl, rfl⟩, fun _ _ => rfl, fun _ _ => rfl⟩
theorem mS.tr {v'' : nc_H} (h : mS v v') (g : mS v' v'') : mS v v'' := ⟨fun t a q => ⟨(g.1 t a q).1.trans (h.1 t a q).1, (g.1 t a q).2.trans (h.1 t a q).2⟩, fun k q => (g.2.1 k q).trans (h.2.1 k q), fun k q => (g.2.2 k q).trans (h.2.2 k q)⟩
theorem cF.cS (h : cF w w') : cS w w' := fun t a q _ => h.1 t a q
theorem mF.mS (h : mF v v') : mS v v' := ⟨fun t a q => h.1 t a (by omega), fun k q => h.2.1 k (by omega), h.2.2⟩
theorem cS.si {t k : Nat} {x : Int32} (hc : cS w w') (ht : t = 9 ∨ (676 ≤ t ∧ t ≤ 678)) : cS w (nc_si w' t 1 k x) := by
  refine hc.tr (fun t' a' q r => ⟨?_, rfl⟩)
  rw [si_rw, row_n (by omega)]
theorem mS.sk {k : Nat} {x : Int32} (hm : mS v v') (hk : k = 18 ∨ (40 ≤ k ∧ k ≤ 44)) : mS v (nc_si v' 12 0 k x) := by
  refine hm.tr ⟨fun t' a' q => ⟨?_, rfl⟩, fun j q => ?_, fun _ _ => rfl⟩
  · rw [si_rw, row_n (by omega)]
  · rw [si_k (by omega)]
theorem mS.si {t k : Nat} {x : Int32} (hm : mS v v') (ht : t = 876 ∨ t = 907) : mS v (nc_si v' t 0 k x) := by
  refine hm.tr ⟨fun t' a' q => ⟨?_, rfl⟩, fun j q => ?_, fun _ _ => rfl⟩
  · rw [si_rw, row_n (by omega)]
  · rw [si_t (by omega)]
/-- the steps so far, of both -/
def CD (w v : nc_H) (m dp N : Nat) : Prop := ∃ dep : Nat → Nat, dep 0 = 0 ∧ dep m = dp ∧ (∀ i, i ≤ m → dep i ≤ 20) ∧ ∀ i, i < m → codeR (w.1 676 1 i) (w.1 677 1 i) (w.1 678 1 i) (v.1 876 0 (3 * i)) (v.1 876 0 (3 * i + 1)) (v.1 876 0 (3 * i + 2)) N ∧ stp (v.1 876 0 (3 * i)) (dep i) (dep (i + 1))
def EX (w v : nc_H) (bs : Nat → Int32) (T D m o dp N : Nat) : Prop := (w.1 9 1 3 = nI m ∧ w.1 9 1 4 = nI o) ∧ (v.1 12 0 40 = nI m ∧ v.1 12 0 41 = nI o ∧ v.1 12 0 42 = nI T ∧ v.1 12 0 43 = nI D) ∧ (o ≤ 20 ∧ m + dp ≤ 2 * o ∧ dp ≤ o) ∧ CD w v m dp N ∧ ∀ j, j < T → v.1 907 0 j = bs j
theorem CD_eq (h : CD w v m dp N) (h1 : w'.1 676 1 = w.1 676 1) (h2 : w'.1 677 1 = w.1 677 1) (h3 : w'.1 678 1 = w.1 678 1) (h4 : v'.1 876 0 = v.1 876 0) : CD w' v' m dp N := by
  unfold CD
  rw [h1, h2, h3, h4]
  exact h
theorem EX_F (h : EX w v bs T D m o dp N) (hc : cF w w') (hm : mF v v') : EX w' v' bs T D m o dp N := by
  obtain ⟨⟨a1, a2⟩, ⟨b1, b2, b3, b4⟩, c, d, e⟩ := h
  refine ⟨⟨?_, ?_⟩, ⟨?_, ?_, ?_, ?_⟩, c, CD_eq d (hc.1 676 1 (by omega)).1 (hc.1 677 1 (by omega)).1 (hc.1 678 1 (by omega)).1 (hm.1 876 0 (by omega)).1, fun j hj => ?_⟩
  · rw [(hc.1 9 1 (by omega)).1]; exact a1
  · rw [(hc.1 9 1 (by omega)).1]; exact a2
  · rw [hm.2.1 40 (by omega)]; exact b1
  · rw [hm.2.1 41 (by omega)]; exact b2
  · rw [hm.2.1 42 (by omega)]; exact b3
  · rw [hm.2.1 43 (by omega)]; exact b4
  · rw [(hm.1 907 0 (by omega)).1]; exact e j hj
/-- the heap of the class with one step more -/
def wPut (w : nc_H) (m : Nat) (x y z : Int32) : nc_H := nc_si (nc_si (nc_si (nc_si w 676 1 m x) 677 1 m y) 678 1 m z) 9 1 3 (nI (m + 1))
def vCod (v : nc_H) (m : Nat) (x y z : Int32) : nc_H := nc_si (nc_si (nc_si (nc_si v 876 0 (3 * m) x) 876 0 (3 * m + 1) y) 876 0 (3 * m + 2) z) 12 0 40 (nI (m + 1))
theorem sa_put {x y z : Int32} (h : w.1 9 1 3 = nI m) (hm : m < 40) : nc_Call m_X9_put [.inr (.inr (9, 1)), .inl x, .inl y, .inl z] w = some (none, wPut w m x y z) := by
  have s1 : (nc_si w 676 1 m x).1 9 1 3 = nI m := by rw [si_t (by decide)]; exact h
  have s2 : (nc_si (nc_si w 676 1 m x) 677 1 m y).1 9 1 3 = nI m := by rw [si_t (by decide)]; exact s1
  have s3 : (nc_si (nc_si (nc_si w 676 1 m x) 677 1 m y) 678 1 m z).1 9 1 3 = nI m := by rw [si_t (by decide)]; exact s2
  rw [qc_X9_put, h, if_neg (show ¬ (40 : Int32) ≤ nI m from nI_ge hm (by decide)), bd8 m 40 hm (by decide), nc_lt_v, s1, bd8 m 40 hm (by decide), nc_lt_v, s2, bd8 m 40 hm (by decide), nc_lt_v, s3, nc_lt_v, nI_1]
  rfl
theorem sm_code {x y z : Int32} (h : v.1 12 0 40 = nI m) (hm : m < 40) : nc_Call m_X12_code [mO, .inl x, .inl y, .inl z] v = some (none, vCod v m x y z) := by
  have s1 : (nc_si v 876 0 (3 * m) x).1 12 0 40 = nI m := by rw [si_t (by decide)]; exact h
  have s2 : (nc_si (nc_si v 876 0 (3 * m) x) 876 0 (3 * m + 1) y).1 12 0 40 = nI m := by rw [si_t (by decide)]; exact s1
  have s3 : (nc_si (nc_si (nc_si v 876 0 (3 * m) x) 876 0 (3 * m + 1) y) 876 0 (3 * m + 2) z).1 12 0 40 = nI m := by rw [si_t (by decide)]; exact s2
  rw [qc_X12_code, h, x3m, bd8 (3 * m) 135 (by omega) (by decide), nc_lt_v, s1, x3m, i1_135 hm, nc_lt_v, s2, x3m, i2_135 hm, nc_lt_v, s3, nc_lt_v, nI_1]
  rfl
theorem wPut_S {x y z : Int32} : cS w (wPut w m x y z) := (((cS.rf.si (by omega)).si (by omega)).si (by omega)).si (by omega)
theorem vCod_S {x y z : Int32} : mS v (vCod v m x y z) := (((mS.rf.si (by omega)).si (by omega)).si (by omega)).sk (by omega)
theorem wPut_Z {x y z : Int32} : cZ w (wPut w m x y z) := (((cZ.rf.si ⟨by decide, by decide, by decide, by decide⟩).si ⟨by decide, by decide, by decide, by decide⟩).si ⟨by decide, by decide, by decide, by decide⟩).si ⟨by decide, by decide, by decide, by decide⟩
theorem vCod_Z {x y z : Int32} : mZ v (vCod v m x y z) := (((mZ.rf.si ⟨by decide, by decide⟩).si ⟨by decide, by decide⟩).si ⟨by decide, by decide⟩).sk (by decide)
theorem vCod_k {x y z : Int32} {k : Nat} (hk : k ≠ 40) : (vCod v m x y z).1 12 0 k = v.1 12 0 k := by
  unfold vCod
  rw [si_k hk, si_t (by decide), si_t (by decide), si_t (by decide)]
/-- a step more -/
theorem EX_cod {x y z a b' c : Int32} {dp' : Nat} (h : EX w v bs T D m o dp N) (hr : codeR x y z a b' c N) (hs : stp a dp dp') (h1 : dp' ≤ o) (h2 : m + 1 + dp' ≤ 2 * o) : EX (wPut w m x y z) (vCod v m a b' c) bs T D (m + 1) o dp' N := by
  obtain ⟨⟨a1, a2⟩, ⟨b1, b2, b3, b4⟩, cc, ⟨dep, d1, d2, d3, d4⟩, e⟩ := h
  refine ⟨⟨si_s, ?_⟩, ⟨si_s, ?_, ?_, ?_⟩, ⟨cc.1, h2, h1⟩, ⟨fun i => if i = m + 1 then dp' else dep i, ?_, if_pos rfl, fun i hi => ?_, fun i hi => ?_⟩, fun j hj => ?_⟩
  · unfold wPut
    rw [si_k (by decide), si_t (by decide), si_t (by decide), si_t (by decide)]; exact a2
  · rw [vCod_k (by decide)]; exact b2
  · rw [vCod_k (by decide)]; exact b3
  · rw [vCod_k (by decide)]; exact b4
  · exact (if_neg (show ¬ 0 = m + 1 by omega)).trans d1
  · by_cases q : i = m + 1
    · show (if i = m + 1 then dp' else dep i) ≤ 20
      rw [if_pos q]
      omega
    · show (if i = m + 1 then dp' else dep i) ≤ 20
      rw [if_neg q]
      exact d3 i (by omega)
  · have W6 : ∀ i, (wPut w m x y z).1 676 1 i = if i = m then x else w.1 676 1 i := fun i => by
      unfold wPut
      rw [si_t (by decide), si_t (by decide), si_t (by decide)]
      by_cases q : i = m
      · rw [if_pos q, q, si_s]
      · rw [if_neg q, si_k q]
    have W7 : ∀ i, (wPut w m x y z).1 677 1 i = if i = m then y else w.1 677 1 i := fun i => by
      unfold wPut
      rw [si_t (by decide), si_t (by decide)]
      by_cases q : i = m
      · rw [if_pos q, q, si_s]
      · rw [if_neg q, si_k q, si_t (by decide)]
    have W8 : ∀ i, (wPut w m x y z).1 678 1 i = if i = m then z else w.1 678 1 i := fun i => by
      unfold wPut
      rw [si_t (by decide)]
      by_cases q : i = m
      · rw [if_pos q, q, si_s]
      · rw [if_neg q, si_k q, si_t (by decide), si_t (by decide)]
    have V6 : (vCod v m a b' c).1 876 0 = upd (upd (upd (v.1 876 0) (3 * m) a) (3 * m + 1) b') (3 * m + 2) c := by
      unfold vCod
      rw [si_t (by decide), si_row, si_row, si_row]
    rw [W6, W7, W8, V6]
    by_cases q : i = m
    · subst q
      rw [if_pos rfl, if_pos rfl, if_pos rfl, upd_s, upd_n (show 3 * i ≠ 3 * i + 2 by omega), upd_n (show 3 * i ≠ 3 * i + 1 by omega), upd_s, upd_n (show 3 * i + 1 ≠ 3 * i + 2 by omega), upd_s]
      refine ⟨hr, ?_⟩
      show stp a (if i = i + 1 then dp' else dep i) (if i + 1 = i + 1 then dp' else dep (i + 1))
      rw [if_neg (by omega), if_pos rfl, d2]
      exact hs
    · rw [if_neg q, if_neg q, if_neg q, upd_n (by omega), upd_n (by omega), upd_n (by omega), upd_n (by omega), upd_n (by omega), upd_n (by omega), upd_n (by omega), upd_n (by omega), upd_n (by omega)]
      refine ⟨(d4 i (by omega)).1, ?_⟩
      show stp _ (if i = m + 1 then dp' else dep i) (if i + 1 = m + 1 then dp' else dep (i + 1))
      rw [if_neg (by omega), if_neg (by omega)]
      exact (d4 i (by omega)).2
  · unfold vCod
    rw [si_t (by decide), si_t (by decide), si_t (by decide), si_t (by decide)]
    exact e j hj
end SA
