/-! Lines: news. -/
section LE
variable {w w' v v' : nc_H} {b : Nat → Nat} {sz lim n i : Nat} {t : Tok} {f C N h : Nat} {S S' : Nat → Int32}
theorem si_same {t a k : Nat} {x : Int32} (hx : x = w.1 t a k) : nc_si w t a k x = w := by
  rw [si_rw, hx]
  have : upd (w.1 t a) k (w.1 t a k) = w.1 t a := by
    funext j
    by_cases q : j = k
    · rw [q, upd_s]
    · rw [upd_n q]
  rw [this, row_id]
abbrev newsW (w1 : nc_H) (N k x : Nat) (m6 : Int32) (l : List Nat) : nc_H := nc_si (nc_si (nc_si (nc_si (nc_si (nc_sl w1 236 1 (12 + N) (enc5 l)) 242 1 N (nI k)) 2 1 7 (w1.1 2 1 7 ||| (if k = 2 then bs N else 0))) 243 1 N (nI x)) 2 1 3 (nI (N + 1))) 2 1 6 m6
abbrev newsV (v1 : nc_H) (N k x : Nat) (m6 : Int32) (l : List Nat) : nc_H := nc_si (nc_si (nc_si (nc_si (nc_sl v1 877 0 (22 + (12 + N)) (enc8 l)) 875 0 (37 + N) (nI k)) 875 0 (47 + N) (nI x)) 875 0 57 m6) 875 0 2 (nI (N + 1))
theorem DD_news {k0 x e : Nat} {l : List Nat} {w1 v1 : nc_H} (hD : DD w1 v1 f C N h) (hN10 : N < 10) (hl : wl l) (hl0 : l ≠ []) (hn : ∀ k, usd f C N k → w1.2 236 1 k ≠ enc5 l) (hk : k0 < 4) (hx : x ≤ 20) (he : e < 2 ^ (N + 1)) : DD (newsW w1 N k0 x (nI e) l) (newsV v1 N k0 x (nI e) l) f C (N + 1) h := by
  obtain ⟨⟨s, h1, h2, h3, h4⟩, ⟨x1, x2, x3⟩, k, d4, d5, d6⟩ := hD
  have hf : f ≤ 4 := s.2.2.2.2.1
  have hC : C ≤ 8 := s.2.2.2.2.2.1
  have hN : N ≤ 10 := s.2.2.2.2.2.2.1
  have hh : h ≤ 6 := s.2.2.2.2.2.2.2
  have a2 : (newsV v1 N k0 x (nI e) l).1 875 0 2 = nI (N + 1) := si_s
  have a57 : (newsV v1 N k0 x (nI e) l).1 875 0 57 = nI e := by
    rw [si_k (by omega), si_s]
  have a47 : (newsV v1 N k0 x (nI e) l).1 875 0 (47 + N) = nI x := by
    rw [si_k (by omega), si_k (by omega), si_s]
  have a37 : (newsV v1 N k0 x (nI e) l).1 875 0 (37 + N) = nI k0 := by
    rw [si_k (by omega), si_k (by omega), si_k (by omega), si_s]
  have u : ∀ j, j ≠ 2 → j ≠ 37 + N → j ≠ 47 + N → j ≠ 57 → (newsV v1 N k0 x (nI e) l).1 875 0 j = v1.1 875 0 j := by
    intro j j1 j2 j3 j4
    rw [si_k j1, si_k j4, si_k j3, si_k j2]
    rfl
  have m12 : (newsV v1 N k0 x (nI e) l).1 12 0 = v1.1 12 0 := by
    rw [si_t (by decide), si_t (by decide), si_t (by decide), si_t (by decide)]
    rfl
  have mY : ∀ j, (newsV v1 N k0 x (nI e) l).2 877 0 (22 + j) = if j = 12 + N then enc8 l else v1.2 877 0 (22 + j) := by
    intro j
    show (nc_sl v1 877 0 (22 + (12 + N)) (enc8 l)).2 877 0 (22 + j) = _
    by_cases q : j = 12 + N
    · rw [if_pos q, q, sl_s]
    · rw [if_neg q, sl_k (by omega)]
  have cX' : ∀ j, (newsW w1 N k0 x (nI e) l).2 236 1 j = if j = 12 + N then enc5 l else w1.2 236 1 j := by
    intro j
    show (nc_sl w1 236 1 (12 + N) (enc5 l)).2 236 1 j = _
    by_cases q : j = 12 + N
    · rw [if_pos q, q, sl_s]
    · rw [if_neg q, sl_k q]
  have e2 : ∀ j, j ≠ 3 → j ≠ 6 → j ≠ 7 → (newsW w1 N k0 x (nI e) l).1 2 1 j = w1.1 2 1 j := by
    intro j j1 j2 j3
    rw [si_k j2, si_k j1, si_t (by decide), si_k j3, si_t (by decide)]
    rfl
  have e23 : (newsW w1 N k0 x (nI e) l).1 2 1 3 = nI (N + 1) := by
    rw [si_k (by decide), si_s]
  have e26 : (newsW w1 N k0 x (nI e) l).1 2 1 6 = nI e := si_s
  have e27 : (newsW w1 N k0 x (nI e) l).1 2 1 7 = w1.1 2 1 7 ||| (if k0 = 2 then bs N else 0) := by
    rw [si_k (by decide), si_k (by decide), si_t (by decide), si_s]
  have e242 : ∀ j, (newsW w1 N k0 x (nI e) l).1 242 1 j = if j = N then nI k0 else w1.1 242 1 j := by
    intro j
    rw [si_t (by decide), si_t (by decide), si_t (by decide), si_t (by decide)]
    by_cases q : j = N
    · rw [if_pos q, q, si_s]
    · rw [if_neg q, si_k q]
      rfl
  have e243 : ∀ j, (newsW w1 N k0 x (nI e) l).1 243 1 j = if j = N then nI x else w1.1 243 1 j := by
    intro j
    rw [si_t (by decide), si_t (by decide)]
    by_cases q : j = N
    · rw [if_pos q, q, si_s]
    · rw [if_neg q, si_k q, si_t (by decide), si_t (by decide)]
      rfl
  have er : ∀ t, t ≠ 2 → t ≠ 242 → t ≠ 243 → (newsW w1 N k0 x (nI e) l).1 t = w1.1 t := by
    intro t t1 t2 t3
    rw [si_t t1, si_t t1, si_t t3, si_t t1, si_t t2]
    rfl
  unfold DD
  generalize newsW w1 N k0 x (nI e) l = W at cX' e2 e23 e26 e27 e242 e243 er
  generalize newsV v1 N k0 x (nI e) l = V at a2 a57 a47 a37 u m12 mY
  generalize V.1 875 0 = H' at a2 a57 a47 a37 u
  obtain ⟨k1, k2, k3, k4, k5, k6, k7, k8, k9⟩ := k
  have uu : ∀ j, (j ≠ 2 ∧ j < 37) ∨ 58 ≤ j → H' j = v1.1 875 0 j := fun j hj => u j (by omega) (by omega) (by omega) (by omega)
  have un : ∀ m, m < N → H' (37 + m) = v1.1 875 0 (37 + m) ∧ H' (47 + m) = v1.1 875 0 (47 + m) := fun m hm => ⟨u _ (by omega) (by omega) (by omega) (by omega), u _ (by omega) (by omega) (by omega) (by omega)⟩
  have s' : shp H' f C (N + 1) h := ⟨(uu 0 (by omega)).trans s.1, (uu 1 (by omega)).trans s.2.1, a2, (uu 3 (by omega)).trans s.2.2.2.1, hf, hC, by omega, hh⟩
  have kk : nI k0 = 0 ∨ nI k0 = 1 ∨ nI k0 = 2 ∨ nI k0 = 3 := (by decide : ∀ k, k < 4 → (nI k = 0 ∨ nI k = 1 ∨ nI k = 2 ∨ nI k = 3)) k0 hk
  have kk2 : nI k0 = 2 ↔ k0 = 2 := nI_lit (by omega) 2 (by decide)
  refine ⟨⟨s', ⟨?_, ?_, ?_, ?_, ?_, ?_⟩, fun c hc => ?_, fun m hm => ?_, fun m hm => ?_⟩, ⟨fun g' hg' => ?_, ?_, ?_⟩, ⟨s', fun m hm => ?_, fun c hc => ?_, fun c hc => ?_, fun m hm => ?_, fun c hc => ?_, fun m hm => ?_, ?_, ?_⟩, ?_, ?_, ?_⟩
  · rw [e2 1 (by decide) (by decide) (by decide)]; exact h1.1
  · rw [e2 2 (by decide) (by decide) (by decide)]; exact h1.2.1
  · exact e23
  · rw [e2 4 (by decide) (by decide) (by decide)]; exact h1.2.2.2.1
  · rw [e2 5 (by decide) (by decide) (by decide), uu 4 (by omega)]; exact h1.2.2.2.2.1
  · rw [e26, a57]
  · rw [er 238 (by decide) (by decide) (by decide), er 239 (by decide) (by decide) (by decide), er 240 (by decide) (by decide) (by decide), er 241 (by decide) (by decide) (by decide), uu _ (by omega), uu _ (by omega), uu _ (by omega), uu _ (by omega)]
    exact h2 c hc
  · rw [e242, e243]
    by_cases q : m = N
    · rw [if_pos q, if_pos q, q]
      exact ⟨a37.symm, a47.symm⟩
    · have hm' : m < N := by omega
      rw [if_neg q, if_neg q, (un m hm').1, (un m hm').2]
      exact h3 m hm'
  · rw [er 244 (by decide) (by decide) (by decide), er 245 (by decide) (by decide) (by decide), er 246 (by decide) (by decide) (by decide), uu _ (by omega), uu _ (by omega), uu _ (by omega)]
    exact h4 m hm
  · rw [er 237 (by decide) (by decide) (by decide), x1 g' hg']
    unfold cof
    exact it_cong (n := C) (fun j z hj => by rw [uu (5 + j) (by omega)]) C 0 0 (by omega)
  · have c0 : wbs H' N = wbs (v1.1 875 0) N := by
      unfold wbs
      exact it_cong (n := N) (fun j z hj => by rw [(un j hj).1]) N 0 0 (by omega)
    rw [e27, wbs_s, c0, a37, x2]
    by_cases q : k0 = 2
    · rw [if_pos q, if_pos (kk2.mpr q)]
    · rw [if_neg q, if_neg (fun z => q (kk2.mp z))]
  · exact nm_add (s := 12 + N) x3 hl hl0 hn (fun j => by unfold usd; omega) cX' mY (fun z => by unfold usd at z; omega)
  · by_cases q : m = N
    · rw [q, a37]
      exact kk
    · have hm' : m < N := by omega
      rw [(un m hm').1]; exact k2 m hm'
  · obtain ⟨g', g1, g2⟩ := k3 c hc
    exact ⟨g', g1, by rw [uu _ (by omega)]; exact g2⟩
  · obtain ⟨g', g1, g2⟩ := k4 c hc
    exact ⟨g', g1, by rw [uu _ (by omega)]; exact g2⟩
  · obtain ⟨x, y, e, g1, g2, g3, g4, g5, g6, g7, g8⟩ := k5 m hm
    exact ⟨x, y, e, g1, g2, g3, g4, g5, by rw [uu _ (by omega)]; exact g6, by rw [uu _ (by omega)]; exact g7, by rw [uu _ (by omega)]; exact g8⟩
  · obtain ⟨g', g1, g2⟩ := k6 c hc
    exact ⟨g', g1, by rw [uu _ (by omega)]; exact g2⟩
  · by_cases q : m = N
    · exact ⟨x, hx, by rw [q]; exact a47⟩
    · have hm' : m < N := by omega
      obtain ⟨g', g1, g2⟩ := k7 m hm'
      exact ⟨g', g1, by rw [(un m hm').2]; exact g2⟩
  · exact ⟨e, he, a57⟩
  · rw [uu 4 (by omega)]; exact k9
  · obtain ⟨x, y1, y2, y3⟩ := d4
    refine ⟨x, y1, y2, fun a ha b hb hab q => ?_⟩
    obtain ⟨j, j1, j2⟩ := y3 a ha b hb hab q
    refine ⟨j, j1, ?_⟩
    rw [uu _ (by omega), uu _ (by omega)]
    exact j2
  · rw [er 3 (by decide) (by decide) (by decide), m12]
    exact d5
  · rw [e2 0 (by decide) (by decide) (by decide), m12]
    exact d6
theorem wl_4 : (482854660462 : Int64) = enc8 (wrd 4) := by decide +kernel
theorem wl_5 : (32478892436775276 : Int64) = enc8 (wrd 5) := by decide +kernel
theorem wl_6 : (7823730 : Int64) = enc8 (wrd 6) := by decide +kernel
theorem wl_7 : (33606991467799922 : Int64) = enc8 (wrd 7) := by decide +kernel
theorem wl_3 : (7104869 : Int64) = enc8 (wrd 3) := by decide +kernel
theorem sm_kind (hT : MT v t) (hk : tkk sz lim t) : nc_Call m_X12_kindOf [mO] v = some (some (.inl (if 4 ≤ wq t ∧ wq t ≤ 7 then nI (wq t - 4) else -1)), v) := by
  rw [qc_X12_kindOf, wl_4, sm_wq (by decide) hT hk, nc_bI_v]
  by_cases q4 : wq t = 4
  · rw [tI_t q4, if_neg (by decide), if_pos (by omega), q4]
    rfl
  rw [tI_f q4, if_pos rfl, wl_5, sm_wq (by decide) hT hk, nc_bI_v]
  by_cases q5 : wq t = 5
  · rw [tI_t q5, if_neg (by decide), if_pos (by omega), q5]
    rfl
  rw [tI_f q5, if_pos rfl, wl_6, sm_wq (by decide) hT hk, nc_bI_v]
  by_cases q6 : wq t = 6
  · rw [tI_t q6, if_neg (by decide), if_pos (by omega), q6]
    rfl
  rw [tI_f q6, if_pos rfl, wl_7, sm_wq (by decide) hT hk, nc_bI_v]
  by_cases q7 : wq t = 7
  · rw [tI_t q7, if_neg (by decide), if_pos (by omega), q7]
    rfl
  rw [tI_f q7, if_pos rfl, if_neg (by omega)]
theorem bs_nJ : ∀ k, k < 10 → bs k = nI (2 ^ k) := by decide +kernel
theorem or_bs {e : Nat} (hN : N < 10) (he : e < 2 ^ N) : ∃ e', e' < 2 ^ (N + 1) ∧ nI e ||| bs N = nI e' := by
  have p : 2 ^ N < 1024 := by
    have := Nat.pow_le_pow_right (show 0 < 2 by decide) (show N ≤ 9 by omega)
    omega
  refine ⟨e ||| 2 ^ N, Nat.or_lt_two_pow ?_ ?_, ?_⟩
  · rw [Nat.pow_succ]; omega
  · rw [Nat.pow_succ]; have := Nat.two_pow_pos N; omega
  · rw [bs_nJ N hN, nI_or (by omega) p]
end LE
