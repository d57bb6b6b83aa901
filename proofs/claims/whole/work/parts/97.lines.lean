/-! The lines of a dairy, of both: what is kept; farms. -/
section LI
variable {w w' v v' : nc_H} {b : Nat → Nat} {sz lim n i : Nat} {t : Tok} {f C N h : Nat} {S S' : Nat → Int32}
/-- what the class's reading of a dairy leaves -/
def cR (w w' : nc_H) : Prop := ∀ t a, ¬ (a = 0 ∧ (t = 10 ∨ (743 ≤ t ∧ t ≤ 746) ∨ t = 3)) → ¬ (a = 1 ∧ (t = 2 ∨ (236 ≤ t ∧ t ≤ 246))) → w'.1 t a = w.1 t a ∧ w'.2 t a = w.2 t a
def mR (v v' : nc_H) : Prop := (∀ t a, ¬ (a = 0 ∧ (t = 12 ∨ t = 875 ∨ t = 877)) → v'.1 t a = v.1 t a ∧ v'.2 t a = v.2 t a) ∧ (∀ k, ¬ (k = 4 ∨ (11 ≤ k ∧ k ≤ 16) ∨ (18 ≤ k ∧ k ≤ 20)) → v'.1 12 0 k = v.1 12 0 k) ∧ (∀ k, k ≠ 17 → v'.2 12 0 k = v.2 12 0 k) ∧ (∀ k, k < 22 → v'.2 877 0 k = v.2 877 0 k)
theorem cR.rf : cR w w := fun _ _ _ _ => ⟨rfl, rfl⟩
theorem cR.tr {w'' : nc_H} (h : cR w w') (g : cR w' w'') : cR w w'' := fun t a q r => ⟨(g t a q r).1.trans (h t a q r).1, (g t a q r).2.trans (h t a q r).2⟩
theorem mR.rf : mR v v := ⟨fun _ _ _ => ⟨rfl, rfl⟩, fun _ _ => rfl, fun _ _ => rfl, fun _ _ => rfl⟩
theorem mR.tr {v'' : nc_H} (h : mR v v') (g : mR v' v'') : mR v v'' := ⟨fun t a q => ⟨(g.1 t a q).1.trans (h.1 t a q).1, (g.1 t a q).2.trans (h.1 t a q).2⟩, fun k q => (g.2.1 k q).trans (h.2.1 k q), fun k q => (g.2.2.1 k q).trans (h.2.2.1 k q), fun k q => (g.2.2.2 k q).trans (h.2.2.2 k q)⟩
theorem cF.cR (h : cF w w') : cR w w' := fun t a q _ => h.1 t a (by omega)
theorem cX.cR (h : cX w w') : cR w w' := h.cF.cR
theorem mF.mR (h : mF v v') : mR v v' := ⟨fun t a q => h.1 t a (by omega), fun k q => h.2.1 k (by omega), h.2.2, fun k _ => by rw [(h.1 877 0 (by omega)).2]⟩
theorem cR.si {t a k : Nat} {x : Int32} (hc : cR w w') (ht : (a = 0 ∧ t = 3) ∨ (a = 1 ∧ (t = 2 ∨ (236 ≤ t ∧ t ≤ 246)))) : cR w (nc_si w' t a k x) := by
  refine hc.tr (fun t' a' q r => ⟨?_, rfl⟩)
  by_cases e : t' = t
  · rw [si_a (fun e2 => by omega)]
  · rw [si_t e]
theorem cR.sL {k : Nat} {x : Int64} (hc : cR w w') : cR w (nc_sl w' 236 1 k x) := by
  refine hc.tr (fun t' a' q r => ⟨rfl, ?_⟩)
  by_cases e : t' = 236
  · rw [sl_a (fun e2 => by omega)]
  · rw [sl_t e]
theorem mR.si {k : Nat} {x : Int32} (hm : mR v v') : mR v (nc_si v' 875 0 k x) := by
  refine hm.tr ⟨fun t' a' q => ⟨?_, rfl⟩, fun k q => ?_, fun _ _ => rfl, fun _ _ => rfl⟩
  · by_cases e : t' = 875
    · rw [si_a (fun e2 => by omega)]
    · rw [si_t e]
  · rw [si_t (by decide)]
theorem mR.sk {k : Nat} {x : Int32} (hm : mR v v') (hk : 18 ≤ k ∧ k ≤ 20) : mR v (nc_si v' 12 0 k x) := by
  refine hm.tr ⟨fun t' a' q => ⟨?_, rfl⟩, fun j q => ?_, fun _ _ => rfl, fun _ _ => rfl⟩
  · by_cases e : t' = 12
    · rw [si_a (fun e2 => by omega)]
    · rw [si_t e]
  · rw [si_k (by omega)]
theorem mR.sL {k : Nat} {x : Int64} (hm : mR v v') (hk : 22 ≤ k) : mR v (nc_sl v' 877 0 k x) := by
  refine hm.tr ⟨fun t' a' q => ⟨rfl, ?_⟩, fun _ _ => rfl, fun j q => ?_, fun j hj => ?_⟩
  · by_cases e : t' = 877
    · rw [sl_a (fun e2 => by omega)]
    · rw [sl_t e]
  · rw [sl_t (by decide)]
  · rw [sl_k (by omega)]
/-- pairs of farms -/
def cd (a b : Nat) : Nat := if a + b = 1 then 0 else if a + b = 2 then 1 else if a + b = 5 then 5 else if a + b = 4 then 4 else if a = 0 ∨ b = 0 then 2 else 3
def pop6 (x : Nat) : Nat := x % 2 + x / 2 % 2 + x / 4 % 2 + x / 8 % 2 + x / 16 % 2 + x / 32 % 2
def PP (S : Nat → Int32) (h : Nat) : Prop := ∃ x, x < 64 ∧ pop6 x = h ∧ ∀ a, a < 4 → ∀ b, b < 4 → a ≠ b → x / 2 ^ cd a b % 2 = 1 → ∃ k, k < h ∧ ((S (58 + k) = nI a ∧ S (64 + k) = nI b) ∨ (S (58 + k) = nI b ∧ S (64 + k) = nI a))
def DD (w v : nc_H) (f C N h : Nat) : Prop := DR w 1 (v.1 875 0) f C N h ∧ DX w 1 (v.1 875 0) (fun k => v.2 877 0 (22 + k)) f C N ∧ dok (v.1 875 0) f C N h ∧ PP (v.1 875 0) h ∧ (w.1 3 0 2 = v.1 12 0 20 ∧ (v.1 12 0 20 = 0 ∨ v.1 12 0 20 = 1)) ∧ w.1 2 1 0 = v.1 12 0 19
theorem DD_F (hD : DD w v f C N h) (hc : cF w w') (hm : mF v v') : DD w' v' f C N h := by
  obtain ⟨d1, d2, d3, d4, d5, d6⟩ := hD
  have e8 : v'.1 875 0 = v.1 875 0 := (hm.1 875 0 (by omega)).1
  have e7 : v'.2 877 0 = v.2 877 0 := (hm.1 877 0 (by omega)).2
  unfold DD
  rw [e8, e7, hm.2.1 20 (by omega), hm.2.1 19 (by omega), (hc.1 3 0 (by omega)).1, (hc.1 2 1 (by omega)).1]
  exact ⟨DR_eq d1 (fun t ht => (hc.1 t 1 (by omega)).1) (fun _ _ => rfl), DX_eq d2 (hc.1 237 1 (by omega)).1 (hc.1 2 1 (by omega)).1 (hc.1 236 1 (by omega)).2, d3, d4, d5, d6⟩
/-- a line of the model, with its end -/
def LN (v : nc_H) (r : Int32) (v' : nc_H) : Prop := ∃ r1 v1, nc_Call m_X12_line [mO] v = some (some (.inl r1), v1) ∧ ((r1 = 0 ∧ r = 0 ∧ v' = v1) ∨ (r1 ≠ 0 ∧ nc_Call m_X12_sign [mO, .inl 59] v1 = some (some (.inl r), v')))
def LQ (w v : nc_H) (A : Option nc_R) (b : Nat → Nat) (sz lim n i : Nat) : Prop := ∃ r w' v', A = some (some (.inl r), w') ∧ LN v r v' ∧ cR w w' ∧ mR v v' ∧ ((r = 0 ∧ FQ w' v') ∨ (r = 1 ∧ ∃ i' f C N h, i + 2 ≤ i' ∧ Jt w' v' b sz lim n i' ∧ DD w' v' f C N h))
/-- at the first word of a line -/
def Pr (w v : nc_H) (b : Nat → Nat) (sz lim n i : Nat) (t : Tok) (f C N h : Nat) : Prop := CS w b sz lim n ∧ CP w b sz lim n (i + 1) ∧ CT w t ∧ TW w ∧ MS v b sz lim ∧ MT v t ∧ TW v ∧ DD w v f C N h ∧ t = Tk b sz lim i ∧ tkk sz lim t
theorem wl_0 : (1717662317 : Int64) = enc8 (wrd 0) := by decide +kernel
theorem wl_1 : (6516599 : Int64) = enc8 (wrd 1) := by decide +kernel
theorem wl_2 : (1852143475 : Int64) = enc8 (wrd 2) := by decide +kernel
theorem wl_8 : (448377677669 : Int64) = enc8 (wrd 8) := by decide +kernel
theorem wl_9 : (448377483891 : Int64) = enc8 (wrd 9) := by decide +kernel
theorem sm_wq {j : Nat} (hj : j < 24) (hT : MT v t) (hk : tkk sz lim t) : nc_Call m_X12_isWord [mO, .inr (.inl (enc8 (wrd j)))] v = some (some (.inl (tI (wq t = j))), v) := by
  rw [sm_word hj hT hk, tI_c (wq_lt hj).symm]
/-- the model's next, as a line begins -/
theorem Pr_next (P : Pr w v b sz lim n i t f C N h) : ∃ v1, nc_Call m_X12_next [mO] v = some (none, v1) ∧ mN v v1 ∧ Jt w v1 b sz lim n (i + 1) ∧ DD w v1 f C N h := by
  obtain ⟨p1, p2, p3, p4, p5, p6, p7, p8, p9, p10⟩ := P
  obtain ⟨v1, a1, a2, a3, a4, a5⟩ := jt_m (i := i) p5 (p9 ▸ p6) p7
  exact ⟨v1, a1, a2, ⟨p1, p2, a3, a4, p4, a5⟩, DD_F p8 cF.rf a2.mF⟩
theorem upd_o {g : Nat → Int32} {k j : Nat} {x : Int32} (h : j ≠ k) : upd g k x j = g j := if_neg h
/-- a farm more -/
theorem DD_farm {l : List Nat} {w1 v1 : nc_H} (hD : DD w1 v1 f C N h) (hf : f < 4) (hl : wl l) (hl0 : l ≠ []) (hn : ∀ k, usd f C N k → w1.2 236 1 k ≠ enc5 l) : DD (nc_si (nc_sl w1 236 1 f (enc5 l)) 2 1 1 (nI (f + 1))) (nc_si (nc_sl v1 877 0 (22 + f) (enc8 l)) 875 0 0 (nI (f + 1))) (f + 1) C N h := by
  obtain ⟨⟨s, h1, h2, h3, h4⟩, ⟨x1, x2, x3⟩, k, d4, d5, d6⟩ := hD
  have hC : C ≤ 8 := s.2.2.2.2.2.1
  have hN : N ≤ 10 := s.2.2.2.2.2.2.1
  have hh : h ≤ 6 := s.2.2.2.2.2.2.2
  have eS : (nc_si (nc_sl v1 877 0 (22 + f) (enc8 l)) 875 0 0 (nI (f + 1))).1 875 0 = upd (v1.1 875 0) 0 (nI (f + 1)) := si_row
  have e2 : ∀ j, (nc_si (nc_sl w1 236 1 f (enc5 l)) 2 1 1 (nI (f + 1))).1 2 1 j = if j = 1 then nI (f + 1) else w1.1 2 1 j := by
    intro j
    by_cases q : j = 1
    · rw [if_pos q, q, si_s]
    · rw [if_neg q, si_k q]
      rfl
  have er : ∀ t, t ≠ 2 → (nc_si (nc_sl w1 236 1 f (enc5 l)) 2 1 1 (nI (f + 1))).1 t = w1.1 t := by
    intro t ht
    rw [si_t ht]
    rfl
  have u : ∀ j, j ≠ 0 → upd (v1.1 875 0) 0 (nI (f + 1)) j = v1.1 875 0 j := fun j hj => upd_o hj
  unfold DD
  rw [eS]
  obtain ⟨k1, k2, k3, k4, k5, k6, k7, k8, k9⟩ := k
  have s' : shp (upd (v1.1 875 0) 0 (nI (f + 1))) (f + 1) C N h := ⟨upd_s, (u 1 (by decide)).trans s.2.1, (u 2 (by decide)).trans s.2.2.1, (u 3 (by decide)).trans s.2.2.2.1, by omega, hC, hN, hh⟩
  refine ⟨⟨s', ⟨?_, ?_, ?_, ?_, ?_, ?_⟩, fun c hc => ?_, fun m hm => ?_, fun m hm => ?_⟩, ⟨fun g hg => ?_, ?_, ?_⟩, ⟨s', fun m hm => ?_, fun c hc => ?_, fun c hc => ?_, fun m hm => ?_, fun c hc => ?_, fun m hm => ?_, ?_, ?_⟩, ?_, ?_, ?_⟩
  · rw [e2, if_pos rfl]
  · rw [e2, if_neg (by decide)]; exact h1.2.1
  · rw [e2, if_neg (by decide)]; exact h1.2.2.1
  · rw [e2, if_neg (by decide)]; exact h1.2.2.2.1
  · rw [e2, if_neg (by decide), u 4 (by decide)]; exact h1.2.2.2.2.1
  · rw [e2, if_neg (by decide), u 57 (by decide)]; exact h1.2.2.2.2.2
  · rw [er 238 (by decide), er 239 (by decide), er 240 (by decide), er 241 (by decide), u _ (by omega), u _ (by omega), u _ (by omega), u _ (by omega)]
    exact h2 c hc
  · rw [er 242 (by decide), er 243 (by decide), u _ (by omega), u _ (by omega)]
    exact h3 m hm
  · rw [er 244 (by decide), er 245 (by decide), er 246 (by decide), u _ (by omega), u _ (by omega), u _ (by omega)]
    exact h4 m hm
  · rw [er 237 (by decide), x1 g hg]
    unfold cof
    exact it_cong (n := C) (fun j z hj => by rw [u (5 + j) (by omega)]) C 0 0 (by omega)
  · rw [e2, if_neg (by decide), x2]
    unfold wbs
    exact it_cong (n := N) (fun j z hj => by rw [u (37 + j) (by omega)]) N 0 0 (by omega)
  · refine nm_add (s := f) x3 hl hl0 hn (fun j => ?_) (fun j => ?_) (fun j => ?_) (fun z => by unfold usd at z; omega)
    · unfold usd
      omega
    · rw [si_2]
      by_cases q : j = f
      · rw [if_pos q, q, sl_s]
      · rw [if_neg q, sl_k q]
    · show (nc_si (nc_sl v1 877 0 (22 + f) (enc8 l)) 875 0 0 (nI (f + 1))).2 877 0 (22 + j) = _
      rw [si_2]
      by_cases q : j = f
      · rw [if_pos q, q, sl_s]
      · rw [if_neg q, sl_k (by omega)]
  · rw [u _ (by omega)]; exact k2 m hm
  · obtain ⟨g, g1, g2⟩ := k3 c hc
    exact ⟨g, g1, by rw [u _ (by omega)]; exact g2⟩
  · obtain ⟨g, g1, g2⟩ := k4 c hc
    exact ⟨g, by omega, by rw [u _ (by omega)]; exact g2⟩
  · obtain ⟨x, y, e, g1, g2, g3, g4, g5, g6, g7, g8⟩ := k5 m hm
    exact ⟨x, y, e, by omega, by omega, g3, g4, g5, by rw [u _ (by omega)]; exact g6, by rw [u _ (by omega)]; exact g7, by rw [u _ (by omega)]; exact g8⟩
  · obtain ⟨g, g1, g2⟩ := k6 c hc
    exact ⟨g, g1, by rw [u _ (by omega)]; exact g2⟩
  · obtain ⟨g, g1, g2⟩ := k7 m hm
    exact ⟨g, g1, by rw [u _ (by omega)]; exact g2⟩
  · rw [u 57 (by decide)]; exact k8
  · rw [u 4 (by decide)]; exact k9
  · obtain ⟨x, y1, y2, y3⟩ := d4
    refine ⟨x, y1, y2, fun a ha b hb hab q => ?_⟩
    obtain ⟨j, j1, j2⟩ := y3 a ha b hb hab q
    refine ⟨j, j1, ?_⟩
    rw [u _ (by omega), u _ (by omega)]
    exact j2
  · rw [er 3 (by decide), si_t (show 12 ≠ 875 by decide)]
    exact d5
  · rw [e2, if_neg (by decide), si_t (show 12 ≠ 875 by decide)]
    exact d6
end LI
