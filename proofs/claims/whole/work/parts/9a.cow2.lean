/-! Lines: cows. -/
section LW
variable {w w' v v' : nc_H} {b : Nat → Nat} {sz lim n i : Nat} {t : Tok} {f C N h : Nat} {S S' : Nat → Int32}
theorem cof_s {q : Int32} : cof S (C + 1) q = cof S C q ||| (if S (5 + C) = q then bs C else 0) := by
  unfold cof
  rw [it_succ, Nat.zero_add]
theorem wbs_s : wbs S (N + 1) = wbs S N ||| (if S (37 + N) = 2 then bs N else 0) := by
  unfold wbs
  rw [it_succ, Nat.zero_add]
abbrev cowW (w1 : nc_H) (C g x y z : Nat) (l : List Nat) : nc_H := nc_si (nc_si (nc_si (nc_si (nc_si (nc_si (nc_sl w1 236 1 (4 + C) (enc5 l)) 238 1 C (nI g)) 237 1 g (w1.1 237 1 g ||| bs C)) 239 1 C (nI x)) 240 1 C (nI y)) 241 1 C (nI z)) 2 1 2 (nI (C + 1))
abbrev cowV (v1 : nc_H) (C g x y z : Nat) (l : List Nat) : nc_H := nc_si (nc_si (nc_si (nc_si (nc_si (nc_sl v1 877 0 (22 + (4 + C)) (enc8 l)) 875 0 (5 + C) (nI g)) 875 0 (13 + C) (nI x)) 875 0 (21 + C) (nI y)) 875 0 (29 + C) (nI z)) 875 0 1 (nI (C + 1))
theorem DD_cow {g x y z : Nat} {l : List Nat} {w1 v1 : nc_H} (hD : DD w1 v1 f C N h) (hC8 : C < 8) (hl : wl l) (hl0 : l ≠ []) (hn : ∀ k, usd f C N k → w1.2 236 1 k ≠ enc5 l) (hg : g < f) (hx : x ≤ 40) (hz : z ≤ 30) : DD (cowW w1 C g x y z l) (cowV v1 C g x y z l) f (C + 1) N h := by
  obtain ⟨⟨s, h1, h2, h3, h4⟩, ⟨x1, x2, x3⟩, k, d4, d5, d6⟩ := hD
  have hf : f ≤ 4 := s.2.2.2.2.1
  have hC : C ≤ 8 := s.2.2.2.2.2.1
  have hN : N ≤ 10 := s.2.2.2.2.2.2.1
  have hh : h ≤ 6 := s.2.2.2.2.2.2.2
  have a1 : (cowV v1 C g x y z l).1 875 0 1 = nI (C + 1) := si_s
  have a5 : (cowV v1 C g x y z l).1 875 0 (5 + C) = nI g := by
    rw [si_k (by omega), si_k (by omega), si_k (by omega), si_k (by omega), si_s]
  have a13 : (cowV v1 C g x y z l).1 875 0 (13 + C) = nI x := by
    rw [si_k (by omega), si_k (by omega), si_k (by omega), si_s]
  have a21 : (cowV v1 C g x y z l).1 875 0 (21 + C) = nI y := by
    rw [si_k (by omega), si_k (by omega), si_s]
  have a29 : (cowV v1 C g x y z l).1 875 0 (29 + C) = nI z := by
    rw [si_k (by omega), si_s]
  have u : ∀ j, j ≠ 1 → j ≠ 5 + C → j ≠ 13 + C → j ≠ 21 + C → j ≠ 29 + C → (cowV v1 C g x y z l).1 875 0 j = v1.1 875 0 j := by
    intro j j1 j2 j3 j4 j5
    rw [si_k j1, si_k j5, si_k j4, si_k j3, si_k j2]
    rfl
  have m12 : (cowV v1 C g x y z l).1 12 0 = v1.1 12 0 := by
    rw [si_t (by decide), si_t (by decide), si_t (by decide), si_t (by decide), si_t (by decide)]
    rfl
  have mY : ∀ j, (cowV v1 C g x y z l).2 877 0 (22 + j) = if j = 4 + C then enc8 l else v1.2 877 0 (22 + j) := by
    intro j
    show (nc_sl v1 877 0 (22 + (4 + C)) (enc8 l)).2 877 0 (22 + j) = _
    by_cases q : j = 4 + C
    · rw [if_pos q, q, sl_s]
    · rw [if_neg q, sl_k (by omega)]
  have cX' : ∀ j, (cowW w1 C g x y z l).2 236 1 j = if j = 4 + C then enc5 l else w1.2 236 1 j := by
    intro j
    show (nc_sl w1 236 1 (4 + C) (enc5 l)).2 236 1 j = _
    by_cases q : j = 4 + C
    · rw [if_pos q, q, sl_s]
    · rw [if_neg q, sl_k q]
  have e2 : ∀ j, (cowW w1 C g x y z l).1 2 1 j = if j = 2 then nI (C + 1) else w1.1 2 1 j := by
    intro j
    by_cases q : j = 2
    · rw [if_pos q, q, si_s]
    · rw [if_neg q, si_k q, si_t (by decide), si_t (by decide), si_t (by decide), si_t (by decide), si_t (by decide)]
      rfl
  have e238 : ∀ j, (cowW w1 C g x y z l).1 238 1 j = if j = C then nI g else w1.1 238 1 j := by
    intro j
    rw [si_t (by decide), si_t (by decide), si_t (by decide), si_t (by decide), si_t (by decide)]
    by_cases q : j = C
    · rw [if_pos q, q, si_s]
    · rw [if_neg q, si_k q]
      rfl
  have e237 : ∀ j, (cowW w1 C g x y z l).1 237 1 j = if j = g then w1.1 237 1 g ||| bs C else w1.1 237 1 j := by
    intro j
    rw [si_t (by decide), si_t (by decide), si_t (by decide), si_t (by decide)]
    by_cases q : j = g
    · rw [if_pos q, q, si_s]
    · rw [if_neg q, si_k q, si_t (by decide)]
      rfl
  have e239 : ∀ j, (cowW w1 C g x y z l).1 239 1 j = if j = C then nI x else w1.1 239 1 j := by
    intro j
    rw [si_t (by decide), si_t (by decide), si_t (by decide)]
    by_cases q : j = C
    · rw [if_pos q, q, si_s]
    · rw [if_neg q, si_k q, si_t (by decide), si_t (by decide)]
      rfl
  have e240 : ∀ j, (cowW w1 C g x y z l).1 240 1 j = if j = C then nI y else w1.1 240 1 j := by
    intro j
    rw [si_t (by decide), si_t (by decide)]
    by_cases q : j = C
    · rw [if_pos q, q, si_s]
    · rw [if_neg q, si_k q, si_t (by decide), si_t (by decide), si_t (by decide)]
      rfl
  have e241 : ∀ j, (cowW w1 C g x y z l).1 241 1 j = if j = C then nI z else w1.1 241 1 j := by
    intro j
    rw [si_t (by decide)]
    by_cases q : j = C
    · rw [if_pos q, q, si_s]
    · rw [if_neg q, si_k q, si_t (by decide), si_t (by decide), si_t (by decide), si_t (by decide)]
      rfl
  have er : ∀ t, t ≠ 2 → ¬ (237 ≤ t ∧ t ≤ 241) → (cowW w1 C g x y z l).1 t = w1.1 t := by
    intro t t1 t2
    rw [si_t (by omega), si_t (by omega), si_t (by omega), si_t (by omega), si_t (by omega), si_t (by omega)]
    rfl
  unfold DD
  generalize cowW w1 C g x y z l = W at cX' e2 e238 e237 e239 e240 e241 er
  generalize cowV v1 C g x y z l = V at a1 a5 a13 a21 a29 u m12 mY
  generalize V.1 875 0 = H' at a1 a5 a13 a21 a29 u
  obtain ⟨k1, k2, k3, k4, k5, k6, k7, k8, k9⟩ := k
  have uu : ∀ j, (j = 0 ∨ (2 ≤ j ∧ j ≤ 4) ∨ 37 ≤ j) → H' j = v1.1 875 0 j := fun j hj => u j (by omega) (by omega) (by omega) (by omega) (by omega)
  have uc : ∀ c, c < C → H' (5 + c) = v1.1 875 0 (5 + c) ∧ H' (13 + c) = v1.1 875 0 (13 + c) ∧ H' (21 + c) = v1.1 875 0 (21 + c) ∧ H' (29 + c) = v1.1 875 0 (29 + c) := fun c hc => ⟨u _ (by omega) (by omega) (by omega) (by omega) (by omega), u _ (by omega) (by omega) (by omega) (by omega) (by omega), u _ (by omega) (by omega) (by omega) (by omega) (by omega), u _ (by omega) (by omega) (by omega) (by omega) (by omega)⟩
  have s' : shp H' f (C + 1) N h := ⟨(uu 0 (by omega)).trans s.1, a1, (uu 2 (by omega)).trans s.2.2.1, (uu 3 (by omega)).trans s.2.2.2.1, hf, by omega, hN, hh⟩
  refine ⟨⟨s', ⟨?_, ?_, ?_, ?_, ?_, ?_⟩, fun c hc => ?_, fun m hm => ?_, fun m hm => ?_⟩, ⟨fun g' hg' => ?_, ?_, ?_⟩, ⟨s', fun m hm => ?_, fun c hc => ?_, fun c hc => ?_, fun m hm => ?_, fun c hc => ?_, fun m hm => ?_, ?_, ?_⟩, ?_, ?_, ?_⟩
  · rw [e2, if_neg (by decide)]; exact h1.1
  · rw [e2, if_pos rfl]
  · rw [e2, if_neg (by decide)]; exact h1.2.2.1
  · rw [e2, if_neg (by decide)]; exact h1.2.2.2.1
  · rw [e2, if_neg (by decide), uu 4 (by omega)]; exact h1.2.2.2.2.1
  · rw [e2, if_neg (by decide), uu 57 (by omega)]; exact h1.2.2.2.2.2
  · rw [e238, e239, e240, e241]
    by_cases q : c = C
    · rw [if_pos q, if_pos q, if_pos q, if_pos q, q]
      exact ⟨a5.symm, a13.symm, a21.symm, a29.symm⟩
    · have hc' : c < C := by omega
      obtain ⟨v5, v13, v21, v29⟩ := uc c hc'
      rw [if_neg q, if_neg q, if_neg q, if_neg q, v5, v13, v21, v29]
      exact h2 c hc'
  · rw [er 242 (by decide) (by omega), er 243 (by decide) (by omega), uu _ (by omega), uu _ (by omega)]
    exact h3 m hm
  · rw [er 244 (by decide) (by omega), er 245 (by decide) (by omega), er 246 (by decide) (by omega), uu _ (by omega), uu _ (by omega), uu _ (by omega)]
    exact h4 m hm
  · rw [e237, cof_s, a5]
    have c0 : cof H' C (nI g') = cof (v1.1 875 0) C (nI g') := by
      unfold cof
      exact it_cong (n := C) (fun j z hj => by rw [(uc j hj).1]) C 0 0 (by omega)
    rw [c0]
    by_cases q : g' = g
    · rw [if_pos q, if_pos (by rw [q]), ← q, x1 g' hg']
    · rw [if_neg q, if_neg (fun e => q ((nI_eq (by omega) (by omega)).mp e).symm), Int32.or_zero]
      exact x1 g' hg'
  · rw [e2, if_neg (by decide), x2]
    unfold wbs
    exact it_cong (n := N) (fun j z hj => by rw [uu (37 + j) (by omega)]) N 0 0 (by omega)
  · exact nm_add (s := 4 + C) x3 hl hl0 hn (fun j => by unfold usd; omega) cX' mY (fun z => by unfold usd at z; omega)
  · rw [uu _ (by omega)]; exact k2 m hm
  · by_cases q : c = C
    · exact ⟨z, hz, by rw [q]; exact a29⟩
    · have hc' : c < C := by omega
      obtain ⟨g', g1, g2⟩ := k3 c hc'
      exact ⟨g', g1, by rw [(uc c hc').2.2.2]; exact g2⟩
  · by_cases q : c = C
    · exact ⟨g, hg, by rw [q]; exact a5⟩
    · have hc' : c < C := by omega
      obtain ⟨g', g1, g2⟩ := k4 c hc'
      exact ⟨g', g1, by rw [(uc c hc').1]; exact g2⟩
  · obtain ⟨x, y, e, g1, g2, g3, g4, g5, g6, g7, g8⟩ := k5 m hm
    exact ⟨x, y, e, g1, g2, g3, g4, g5, by rw [uu _ (by omega)]; exact g6, by rw [uu _ (by omega)]; exact g7, by rw [uu _ (by omega)]; exact g8⟩
  · by_cases q : c = C
    · exact ⟨x, hx, by rw [q]; exact a13⟩
    · have hc' : c < C := by omega
      obtain ⟨g', g1, g2⟩ := k6 c hc'
      exact ⟨g', g1, by rw [(uc c hc').2.1]; exact g2⟩
  · obtain ⟨g', g1, g2⟩ := k7 m hm
    exact ⟨g', g1, by rw [uu _ (by omega)]; exact g2⟩
  · rw [uu 57 (by omega)]; exact k8
  · rw [uu 4 (by omega)]; exact k9
  · obtain ⟨x, y1, y2, y3⟩ := d4
    refine ⟨x, y1, y2, fun a ha b hb hab q => ?_⟩
    obtain ⟨j, j1, j2⟩ := y3 a ha b hb hab q
    refine ⟨j, j1, ?_⟩
    rw [uu _ (by omega), uu _ (by omega)]
    exact j2
  · rw [er 3 (by decide) (by omega), m12]
    exact d5
  · rw [e2, if_neg (by decide), m12]
    exact d6
end LW
