/-! least. -/
section LE
variable {w w' v : nc_H} {f C N h d c k al so l : Nat} {S : Nat → Int32} {p : Int32}
theorem nI_and {x y : Nat} (hx : x < 1024) (hy : y < 1024) : nI x &&& nI y = nI (x &&& y) := by
  have hz : x &&& y < 2 ^ 10 := Nat.and_lt_two_pow _ hy
  refine Int32.toBitVec_inj.mp (BitVec.eq_of_toNat_eq ?_)
  rw [Int32.toBitVec_and, BitVec.toNat_and, toN_nI (by omega), toN_nI (by omega), toN_nI (by omega)]
def lsI (o : Option Nat) : Int32 := match o with
  | none => -1
  | some b => nI b
def less (l s b : Nat) : Prop := pc (s &&& l) < pc (b &&& l) ∨ (pc (s &&& l) = pc (b &&& l) ∧ pc s < pc b)
def lsO' (l s : Nat) (o : Option Nat) : Prop := match o with
  | none => True
  | some b => less l s b
noncomputable def stL (S : Nat → Int32) (C N c k al l : Nat) (p : Int32) (s : Nat) (o : Option Nat) : Option Nat := @ite (Option Nat) (s &&& al = s ∧ ¬ (S 4 - nI (pc k)) < nI (pc s) ∧ ¬ mwi S C N c (nI s) < p ∧ lsO' l s o) (Classical.propDecidable _) (some s) o
def oSub (al : Nat) (o : Option Nat) : Prop := ∀ b, o = some b → b &&& al = b
theorem stL_t {s : Nat} {o : Option Nat} (h : s &&& al = s ∧ ¬ (S 4 - nI (pc k)) < nI (pc s) ∧ ¬ mwi S C N c (nI s) < p ∧ lsO' l s o) : stL S C N c k al l p s o = some s := @if_pos _ (Classical.propDecidable _) h _ _ _
theorem stL_f {s : Nat} {o : Option Nat} (h : ¬ (s &&& al = s ∧ ¬ (S 4 - nI (pc k)) < nI (pc s) ∧ ¬ mwi S C N c (nI s) < p ∧ lsO' l s o)) : stL S C N c k al l p s o = o := @if_neg _ (Classical.propDecidable _) h _ _ _
theorem stL_sub {s : Nat} {o : Option Nat} (ho : oSub al o) : oSub al (stL S C N c k al l p s o) := by
  by_cases q : s &&& al = s ∧ ¬ (S 4 - nI (pc k)) < nI (pc s) ∧ ¬ mwi S C N c (nI s) < p ∧ lsO' l s o
  · rw [stL_t q]
    intro b e
    cases e
    exact q.1
  · rw [stL_f q]
    exact ho
def svq (al : Nat) : Nat → Int32
  | 0 => 0
  | i + 1 => (svq al i - nI al) &&& nI al
theorem svq_pd (ha : al < 1024) : ∀ i, i < 2 ^ pcb 10 al → svq al i = nI (pd al i)
  | 0, _ => by
    rw [show pd al 0 = 0 from pdp_0 10 al]
    rfl
  | i + 1, hi => by
    show (svq al i - nI al) &&& nI al = _
    rw [svq_pd ha i (by omega), set_next ha hi]
theorem sh_isLess {s : Nat} {o : Option Nat} (hl : w.1 2 0 6 = nI l) (hl2 : l < 1024) (hs : s < 1024) (ho : ∀ b, o = some b → b < 1024) : (lsO' l s o ∧ nc_Call m_X1_isLess [hO, .inl (nI s), .inl (lsI o)] w = some (some (.inl 1), w)) ∨ (¬ lsO' l s o ∧ nc_Call m_X1_isLess [hO, .inl (nI s), .inl (lsI o)] w = some (some (.inl 0), w)) := by
  rw [qc_X1_isLess]
  cases o with
  | none => exact Or.inl ⟨trivial, by rw [if_neg (fun q => q rfl)]⟩
  | some b =>
    have hb := ho b rfl
    have z1 : s &&& l < 2 ^ 10 := Nat.and_lt_two_pow _ hl2
    have z2 : b &&& l < 2 ^ 10 := Nat.and_lt_two_pow _ hl2
    have p1 := pc_le (s &&& l)
    have p2 := pc_le (b &&& l)
    have p3 := pc_le s
    have p4 := pc_le b
    have ne : lsI (some b) ≠ -1 := fun q => by
      have := nI_pos (n := b) (by omega)
      rw [show nI b = -1 from q] at this
      exact this (by decide)
    obtain ⟨n1, n2, n3⟩ := nn_sub (nI_pos' (n := pc (s &&& l)) (by omega)) (nI_pos' (n := pc (b &&& l)) (by omega))
    rw [if_pos ne, hl, nI_and hs hl2, s_bitCount w (by omega), nc_bI_v, hl]
    show (lsO' l s (some b) ∧ nc_bI (nc_Call m_J6_bitCount_0f7a4 [.inl (nI b &&& nI l)] w) _ = _) ∨ (_ ∧ nc_bI (nc_Call m_J6_bitCount_0f7a4 [.inl (nI b &&& nI l)] w) _ = _)
    rw [nI_and hb hl2, s_bitCount w (by omega), nc_bI_v, nc_li_v]
    by_cases q : pc (s &&& l) < pc (b &&& l)
    · rw [if_pos (n3.mpr (nI_lt q (by omega)))]
      exact Or.inl ⟨Or.inl q, rfl⟩
    · rw [if_neg (fun z => nI_nlt (Nat.le_of_not_lt q) (by omega) (n3.mp z))]
      by_cases r : pc (s &&& l) = pc (b &&& l)
      · rw [if_neg (fun z => z (n2.mpr (by rw [r]))), s_bitCount w hs, nc_bI_v]
        show (lsO' l s (some b) ∧ nc_bI (nc_Call m_J6_bitCount_0f7a4 [.inl (nI b)] w) _ = _) ∨ (_ ∧ nc_bI (nc_Call m_J6_bitCount_0f7a4 [.inl (nI b)] w) _ = _)
        rw [s_bitCount w hb, nc_bI_v]
        by_cases u : pc s < pc b
        · rw [if_neg (nI_ge u (by omega))]
          exact Or.inl ⟨Or.inr ⟨r, u⟩, rfl⟩
        · rw [if_pos (nI_le (by omega) (by omega))]
          exact Or.inr ⟨fun z => z.elim q (fun y => u y.2), rfl⟩
      · rw [if_pos (fun z => r ((nI_eq (by omega) (by omega)).mp (n2.mp z)))]
        exact Or.inr ⟨fun z => z.elim q (fun y => r y.1), rfl⟩
theorem lsI_ne {o : Option Nat} (ho : ∀ b, o = some b → b < 1024) : lsI o ≠ -1 ↔ o ≠ none := by
  cases o with
  | none => exact ⟨fun q => absurd rfl q, fun q => absurd rfl q⟩
  | some b =>
    refine ⟨fun _ => by simp, fun _ q => ?_⟩
    have := nI_pos (n := b) (by have := ho b rfl; omega)
    rw [show nI b = -1 from q] at this
    exact this (by decide)
theorem lsI_lt {o : Option Nat} (ho : ∀ b, o = some b → b < 1024) : lsI o < 0 ↔ o = none := by
  cases o with
  | none => exact ⟨fun _ => rfl, fun _ => by decide⟩
  | some b => exact ⟨fun q => absurd q (nI_pos (by have := ho b rfl; omega)), fun q => by cases q⟩
theorem sh_fewest (hX : CX S f C N h d c k) (hW : CW w S C N c k) (hl : S 57 = nI l) (hl2 : l < 2 ^ N) (hal : al < 2 ^ N) (hj : dj S c al) : nc_Run m_X1_fewestLies 37 [some hO, none, some (.inl p), some (.inl (nI al)), some (.inl (nI (2 ^ pcb 10 al))), some (.inl (-1)), some (.inl 0), some (.inl (nI 0))] [] w = nc_Run m_X1_fewestLies 37 [some hO, none, some (.inl p), some (.inl (nI al)), some (.inl (nI (2 ^ pcb 10 al))), some (.inl (lsI (it (fun k' o => stL S C N c k al l p (pd al k') o) 0 (2 ^ pcb 10 al) none))), some (.inl (svq al (2 ^ pcb 10 al))), some (.inl (nI (2 ^ pcb 10 al)))] [] w := by
  have hN : N ≤ 10 := hX.1.1.2.2.2.2.2.2.1
  have pN := pow_N hN
  have pl := pc_le al
  have pcl : 2 ^ pcb 10 al ≤ 2 ^ 10 := Nat.pow_le_pow_right (by decide) (by rw [← pc_b]; exact pl)
  have hjs : ∀ s, s &&& al = s → s < 2 ^ N ∧ dj S c s := fun s hs => by
    have := sub_le hs
    exact ⟨by omega, fun n hn q => hj n hn ((sub_bq (by omega) (by omega)).mp hs n hn q)⟩
  have key := it_loop (R := fun i (o : Option Nat) => nc_Run m_X1_fewestLies 37 [some hO, none, some (.inl p), some (.inl (nI al)), some (.inl (nI (2 ^ pcb 10 al))), some (.inl (lsI o)), some (.inl (svq al i)), some (.inl (nI i))] [] w) (st := fun k' o => stL S C N c k al l p (pd al k') o) (I := fun _ o => oSub al o) (n := 2 ^ pcb 10 al) (out := fun o => nc_Run m_X1_fewestLies 37 [some hO, none, some (.inl p), some (.inl (nI al)), some (.inl (nI (2 ^ pcb 10 al))), some (.inl (lsI o)), some (.inl (svq al (2 ^ pcb 10 al))), some (.inl (nI (2 ^ pcb 10 al)))] [] w) ?_ (fun _ _ => rfl) (2 ^ pcb 10 al) 0 none (by omega) (fun b e => by cases e)
  · exact key
  · intro i o hi ho
    refine ⟨?_, stL_sub ho⟩
    have hs : pd al i &&& al = pd al i := pdp_sub 10 al i
    have ls := sub_le hs
    have ps := pc_le (pd al i)
    have nx : (svq al i - nI al) &&& nI al = svq al (i + 1) := rfl
    show nc_Run m_X1_fewestLies 37 _ _ w = nc_Run m_X1_fewestLies 37 _ _ w
    rw [qr_X1_fewestLies_37, if_neg (nI_ge hi (by omega))]
    simp only [qc_X1_setAfter, nc_bI_v, nx]
    rw [svq_pd (by omega) i hi, s_bitCount w (by omega), nc_bI_v, hW.1.2.1]
    by_cases q : (S 4 - nI (pc k)) < nI (pc (pd al i))
    · rw [if_pos q, nc_li_v, nI_1, stL_f (fun z => z.2.1 q)]
    · rw [if_neg q, sh_milkBy hX hW (hjs _ hs).1 (hjs _ hs).2, nc_bI_v]
      by_cases r : mwi S C N c (nI (pd al i)) < p
      · rw [if_pos r, nc_li_v, nI_1, stL_f (fun z => z.2.2.1 r)]
      · rw [if_neg r]
        rcases sh_isLess (w := w) (l := l) (s := pd al i) (o := o) (by rw [hW.2.2.1]; exact hl) (by omega) (by omega) (fun b e => by have := sub_le (ho b e); omega) with ⟨u1, u2⟩ | ⟨u1, u2⟩
        · rw [u2, nc_bI_v, if_neg (by decide), nc_li_v, nI_1, stL_t ⟨hs, q, r, u1⟩]
          rfl
        · rw [u2, nc_bI_v, if_pos rfl, nc_li_v, nI_1, stL_f (fun z => u1 z.2.2.2)]
theorem sm_least (hX : CX S f C N h d c k) (hS : w.1 874 0 = S) (hl : S 57 = nI l) (hl2 : l < 2 ^ N) (hso : so < 2 ^ N) (hal : al < 2 ^ N) (ha : ∀ s, s < 1024 → (s &&& al = s ↔ s &&& so = s ∧ dj S c s)) : nc_Run m_X12_least 45 [some mO, some (.inl (nI c)), some (.inl p), some (.inl (nI so)), some (.inl (-1)), some (.inl (nI 0)), none] [] w = nc_Run m_X12_least 45 [some mO, some (.inl (nI c)), some (.inl p), some (.inl (nI so)), some (.inl (lsI (it (stL S C N c k al l p) 0 (so + 1) none))), some (.inl (nI (so + 1))), none] [] w := by
  have hX0 := hX
  obtain ⟨x1, x2, x3, x4, x5, x6, x7⟩ := hX
  have hC : C ≤ 8 := x1.1.2.2.2.2.2.1
  have hN : N ≤ 10 := x1.1.2.2.2.2.2.2.1
  have pN := pow_N hN
  have hs0 : shp (w.1 874 0) f C N h := by rw [hS]; exact x1.1
  have key := it_loop (R := fun i (o : Option Nat) => nc_Run m_X12_least 45 [some mO, some (.inl (nI c)), some (.inl p), some (.inl (nI so)), some (.inl (lsI o)), some (.inl (nI i)), none] [] w) (st := stL S C N c k al l p) (I := fun _ o => oSub al o) (n := so + 1) (out := fun o => nc_Run m_X12_least 45 [some mO, some (.inl (nI c)), some (.inl p), some (.inl (nI so)), some (.inl (lsI o)), some (.inl (nI (so + 1))), none] [] w) ?_ (fun _ _ => rfl) (so + 1) 0 none (by omega) (fun b e => by cases e)
  · exact key
  · intro s o hs' ho
    refine ⟨?_, stL_sub ho⟩
    have ho2 : ∀ b, o = some b → b < 1024 := fun b e => by have := sub_le (ho b e); omega
    have ps := pc_le s
    show nc_Run m_X12_least 45 _ _ w = nc_Run m_X12_least 45 _ _ w
    rw [qr_X12_least_45, if_neg (nI_nlt (by omega) (by omega))]
    by_cases q : s &&& so = s
    · rw [if_neg (fun z => (not_sub (by omega) (by omega)).mp z q)]
      by_cases y : dj S c s ∧ ¬ (S 4 - nI (pc k)) < nI (pc s)
      · have hs : s &&& al = s := (ha s (by omega)).mpr ⟨q, y.1⟩
        rw [sm_mayHear_t hX0 hS (by omega) y.1 y.2, nc_bI_v, if_neg (by decide), sm_milkWith w hs0 (by omega), nc_bI_v, hS]
        by_cases r : mwi S C N c (nI s) < p
        · rw [if_neg (Int32.not_le.mpr r), nc_li_v, nI_1, stL_f (fun z => z.2.2.1 r)]
        · have z1 : s &&& l < 2 ^ 10 := Nat.and_lt_two_pow _ (by omega)
          have p1 := pc_le (s &&& l)
          rw [if_pos (Int32.not_lt.mp r), hl, nI_and (by omega) (by omega), sm_bits w (by omega), nc_bI_v]
          cases o with
          | none =>
            rw [if_pos ((lsI_lt ho2).mpr rfl), nc_li_v, nI_1, stL_t ⟨hs, y.2, r, show lsO' l s none from trivial⟩]
            rfl
          | some b =>
            have hb := ho2 b rfl
            have z2 : b &&& l < 2 ^ 10 := Nat.and_lt_two_pow _ (by omega)
            have p2 := pc_le (b &&& l)
            have p4 := pc_le b
            rw [if_neg (fun z => by cases (lsI_lt ho2).mp z)]
            show nc_bI (nc_Call m_X12_bits [.inl (nI b &&& w.1 874 0 57)] w) _ = _
            rw [hS, hl, nI_and hb (by omega), sm_bits w (by omega), nc_bI_v]
            by_cases u : pc (s &&& l) < pc (b &&& l)
            · rw [if_pos (nI_lt u (by omega)), nc_li_v, nI_1, stL_t ⟨hs, y.2, r, show lsO' l s (some b) from Or.inl u⟩]
              rfl
            · rw [if_neg (nI_nlt (by omega) (by omega))]
              show nc_bI (nc_Call m_X12_bits [.inl (nI b &&& w.1 874 0 57)] w) _ = _
              rw [hS, hl, nI_and hb (by omega), sm_bits w (by omega), nc_bI_v]
              by_cases u2 : pc (s &&& l) = pc (b &&& l)
              · rw [if_neg (fun z => z (by rw [u2])), sm_bits w (by omega), nc_bI_v]
                show nc_bI (nc_Call m_X12_bits [.inl (nI b)] w) _ = _
                rw [sm_bits w hb, nc_bI_v]
                by_cases u3 : pc s < pc b
                · rw [if_neg (nI_ge u3 (by omega)), nc_li_v, nI_1, stL_t ⟨hs, y.2, r, show lsO' l s (some b) from Or.inr ⟨u2, u3⟩⟩]
                  rfl
                · rw [if_pos (nI_le (by omega) (by omega)), nc_li_v, nI_1, stL_f (s := s) (l := l) (o := some b) (fun z => (show less l s b from z.2.2.2).elim u (fun y => u3 y.2))]
              · rw [if_pos (fun z => u2 ((nI_eq (by omega) (by omega)).mp z)), nc_li_v, nI_1, stL_f (s := s) (l := l) (o := some b) (fun z => (show less l s b from z.2.2.2).elim u (fun y => u2 y.1))]
      · rw [sm_mayHear_f hX0 hS (by omega) y, nc_bI_v, if_pos rfl, nc_li_v, nI_1, stL_f (fun z => y ⟨((ha s (by omega)).mp z.1).2, z.2.1⟩)]
    · rw [if_pos ((not_sub (by omega) (by omega)).mpr q), nc_li_v, nI_1, stL_f (fun z => q ((ha s (by omega)).mp z.1).1)]
theorem in999 {x : Int32} : (0 ≤ x ∧ x ≤ 999) ↔ (¬ x < 0 ∧ ¬ (999 : Int32) < x) := ⟨fun q => ⟨Int32.not_lt.mpr q.1, Int32.not_lt.mpr q.2⟩, fun q => ⟨Int32.not_lt.mp q.1, Int32.not_lt.mp q.2⟩⟩
theorem op_least (hI : Inv w) (x p : Int32) : Op w (nc_Call m_X11_least [cO, .inl x, .inl p]) (nc_Call m_X12_least [mO, .inl x, .inl p]) := by
  have hI0 := hI
  obtain ⟨⟨f, C, N, h, d, hW⟩, hM, c3, c4, c5, c6, c7, c8⟩ := hI
  have hW' := hW
  obtain ⟨⟨x1, x2, x3, x4, x5, x6⟩, x7⟩ := hW'
  have hC : C ≤ 8 := x3.1.2.2.2.2.2.1
  have hN : N ≤ 10 := x3.1.2.2.2.2.2.2.1
  have pN := pow_N hN
  have e2 : w.1 2 0 2 = nI C := x3.2.1.2.1
  have e77 : w.1 7 0 3 = w.1 874 0 77 := x5.1.1.1.2.1
  have m2 : ∀ v : nc_H, v.1 874 0 = w.1 874 0 → v.1 874 0 1 = nI C := fun v hv => by rw [hv]; exact x3.1.2.1
  by_cases b : rng x C ∧ ¬ bq (w.1 7 0 3) x
  · have b1 := b.1
    have b2 := b.2
    obtain ⟨c, hc, rfl⟩ := b1
    rw [e77] at b2
    by_cases bp : 0 ≤ p ∧ p ≤ 999
    · have bp2 := in999.mp bp
      obtain ⟨k, w1, CX1, a1, a2, a3, CW1⟩ := look hW hc b2
      have s1 : w1.1 874 0 = w.1 874 0 := a2.2 874 0 (by unfold cQ; omega)
      obtain ⟨l, hl2, hl⟩ := x1.2.2.2.2.2.2.2.1
      obtain ⟨so, so1, so2⟩ := toSet (x := pea (w.1 874 0) N) hN (fun n hn q => ((bq_pea hN hn).mp q).1)
      have hXY : ∀ n, n < 32 → (bq (w1.1 1 0 4 &&& (w1.1 2 0 7 ^^^ (-1))) (nI n) ↔ bq (pea (w.1 874 0) N) (nI n) ∧ ¬ bq (w.1 874 0 (100 + c)) (nI n)) := fun n hn => by
        rw [CW1.1.1, CW1.2.1]
        exact bq_fw hN hn
      obtain ⟨al, al1, al2⟩ := toSet (x := w1.1 1 0 4 &&& (w1.1 2 0 7 ^^^ (-1))) hN (fun n hn q => ((bq_pea hN hn).mp ((hXY n hn).mp q).1).1)
      have ha : ∀ s, s < 1024 → (s &&& al = s ↔ s &&& so = s ∧ dj (w.1 874 0) c s) := by
        intro s hs
        rw [sub_bq hs (by omega), sub_bq hs (by omega), ← al2, ← so2]
        constructor
        · intro q
          exact ⟨fun n hn y => ((hXY n hn).mp (q n hn y)).1, fun n hn y => ((hXY n hn).mp (q n hn y)).2⟩
        · rintro ⟨q1, q2⟩ n hn y
          exact (hXY n hn).mpr ⟨q1 n hn y, q2 n hn y⟩
      have hj : dj (w.1 874 0) c al := ((ha al (by omega)).mp (Nat.and_self al)).2
      have hle : al ≤ so := sub_le ((ha al (by omega)).mp (Nat.and_self al)).1
      have A := sh_fewest (p := p) CX1 CW1 hl hl2 al1 hj
      have e := it_sub (st := stL (w.1 874 0) C N c k al l p) (n := so + 1) (show al < 1024 by omega) (fun s hs b => stL_f (fun z => hs z.1)) (by omega) none
      have osub : oSub al (it (fun k' o => stL (w.1 874 0) C N c k al l p (pd al k') o) 0 (2 ^ pcb 10 al) none) := it_inv (st := fun k' o => stL (w.1 874 0) C N c k al l p (pd al k') o) (I := fun _ o => oSub al o) (n := 2 ^ pcb 10 al) (fun i a _ ha => stL_sub ha) (2 ^ pcb 10 al) 0 none (by omega) (fun b e => by cases e)
      rw [← e] at A osub
      have pl := pc_le al
      have cl : nc_Call m_X11_least [cO, .inl (nI c), .inl p] w = nc_bI (nc_Run m_X1_fewestLies 37 [some hO, none, some (.inl p), some (.inl (nI al)), some (.inl (nI (2 ^ pcb 10 al))), some (.inl (lsI (it (stL (w.1 874 0) C N c k al l p) 0 (so + 1) none))), some (.inl (svq al (2 ^ pcb 10 al))), some (.inl (nI (2 ^ pcb 10 al)))] [] w1) (fun r4 w3 => some (some (.inl r4), w3)) := by
        rw [qc_X11_least, sc_can_t e2 hC b.1 b.2, nc_bI_v, if_neg (by decide), if_neg bp2.1, if_neg bp2.2, qc_X1_fewestLies, a1, nc_bV_v, nc_li_v, al2, s_bitCount w1 (by omega), nc_bI_v, nc_li_v, show (1 <<< (nI (pc al) &&& 31) : Int32) = nI (2 ^ pcb 10 al) from by rw [← pc_b]; exact bs_nI2 _ (by omega), ← A]
        rfl
      have ml : ∀ v : nc_H, (thr v 0).1 874 0 = w.1 874 0 → nc_Call m_X12_least [mO, .inl (nI c), .inl p] v = nc_Run m_X12_least 45 [some mO, some (.inl (nI c)), some (.inl p), some (.inl (nI so)), some (.inl (lsI (it (stL (w.1 874 0) C N c k al l p) 0 (so + 1) none))), some (.inl (nI (so + 1))), none] [] (thr v 0) := by
        intro v hv
        rw [qc_X12_least, nc_lt_v, thr_si, mm_isCow_t (m2 _ hv) (by omega) b.1, nc_bI_v, if_neg (by decide), sm_isDry, nc_bI_v, hv, if_neg (fun q => q (tI_eq0.mpr b2)), sm_isIn, nc_bI_v, tI_t bp, if_pos (by decide), sm_peace (by rw [hv]; exact x3.1), nc_bI_v, hv, so2]
        exact sm_least CX1 hv hl hl2 so1 al1 ha
      generalize it (stL (w.1 874 0) C N c k al l p) 0 (so + 1) none = o at cl ml osub
      have ho2 : ∀ b, o = some b → b < 1024 := fun b e => by have := sub_le (osub b e); omega
      have pcl : 2 ^ pcb 10 al ≤ 2 ^ 10 := Nat.pow_le_pow_right (by decide) (by rw [← pc_b]; exact pl)
      cases o with
      | none =>
        have g12 : ∀ j, j ≠ 0 → (thr w1 0).1 12 0 j = w.1 12 0 j := fun j j0 => by rw [thr_k j0, a2.2 12 0 (by unfold cQ; omega)]
        have E : eqO (fun t a => a = 0 ∧ (t = 1 ∨ t = 10 ∨ t = 12 ∨ t = 166 ∨ t = 167 ∨ t = 902)) w (thr w1 0) := (a2.mono (fun t a q => ⟨q.1, by have := q.2; omega⟩)).row ⟨rfl, by omega⟩
        refine ⟨-1, w1, thr w1 0, ?_, ?_, ?_⟩
        · rw [cl, qr_X1_fewestLies_37, if_pos (nI_le (Nat.le_refl _) (by omega)), if_neg (fun q => q rfl), nc_bI_v]
        · rw [ml w1 (by rw [thr_874, s1]), qr_X12_least_45, if_pos (nI_lt (by omega) (by omega)), if_neg (show ¬ (0 : Int32) ≤ lsI none by decide)]
        · refine Inv_ch hI0 E ?_ (TP_eq c6 (fun j hj => g12 j (by omega)) ?_ (E.2 740 0 (by omega)) (E.2 869 0 (by omega))) (fun j hj => g12 j (by omega))
          · unfold CH
            rw [g12 25 (by decide), g12 26 (by decide), g12 31 (by decide), g12 32 (by decide), g12 33 (by decide), thr_t (show (1 : Nat) ≠ 12 by decide), a3 8 (by omega), a3 9 (by omega), a3 10 (by omega)]
            exact c3
          · rw [thr_t (by decide), a2.2 10 0 (by unfold cQ; omega)]
      | some r =>
        have r1 := ho2 r rfl
        have z1 : r &&& l < 2 ^ 10 := Nat.and_lt_two_pow _ (by omega)
        let w2 : nc_H := row w1 1 0 (upd (w1.1 1 0) 8 (nI r))
        have s2 : (thr w2 0).1 874 0 = w.1 874 0 := by
          rw [thr_874]
          show (row _ 1 0 _).1 874 0 = _
          rw [row_t (by decide), s1]
        let w3 : nc_H := row (thr w2 0) 12 0 (upd (upd ((thr w2 0).1 12 0) 26 1) 25 (nI r))
        have s3 : w3.1 874 0 = w.1 874 0 := by
          show (row _ 12 0 _).1 874 0 = _
          rw [row_t (by decide), s2]
        have g12 : ∀ j, j ≠ 0 → j ≠ 25 → j ≠ 26 → w3.1 12 0 j = w.1 12 0 j := fun j j0 j1 j2 => by
          show (row _ 12 0 _).1 12 0 j = _
          rw [row_s, upd_n j1, upd_n j2, thr_k j0]
          show (row _ 1 0 _).1 12 0 j = _
          rw [row_t (by decide), a2.2 12 0 (by unfold cQ; omega)]
        have g1 : ∀ j, w3.1 1 0 j = upd (w1.1 1 0) 8 (nI r) j := fun j => by
          show (row _ 12 0 _).1 1 0 j = _
          rw [row_t (by decide), thr_t (by decide)]
          show (row _ 1 0 _).1 1 0 j = _
          rw [row_s]
        have E : eqO (fun t a => a = 0 ∧ (t = 1 ∨ t = 10 ∨ t = 12 ∨ t = 166 ∨ t = 167 ∨ t = 902)) w w3 := (((a2.mono (fun t a q => ⟨q.1, by have := q.2; omega⟩)).row ⟨rfl, by omega⟩).row ⟨rfl, by omega⟩).row ⟨rfl, by omega⟩
        refine ⟨nI (pc (r &&& l)), w2, w3, ?_, ?_, ?_⟩
        · rw [cl, qr_X1_fewestLies_37, if_pos (nI_le (Nat.le_refl _) (by omega)), if_pos ((lsI_ne ho2).mpr (by simp)), nc_lt_v, si_rw]
          show nc_bI (nc_bI (nc_Call m_J6_bitCount_0f7a4 [.inl (nI r &&& (row w1 1 0 (upd (w1.1 1 0) 8 (nI r))).1 2 0 6)] (row w1 1 0 (upd (w1.1 1 0) 8 (nI r)))) _) _ = _
          rw [row_t (show (2 : Nat) ≠ 1 by decide), CW1.2.2.1, hl, nI_and r1 (by omega), s_bitCount _ (by omega), nc_bI_v, nc_bI_v]
        · rw [ml w2 s2, qr_X12_least_45, if_pos (nI_lt (by omega) (by omega)), if_pos (show (0 : Int32) ≤ lsI (some r) from nI_pos' (by omega)), qc_X12_tellsSet, nc_lt_v, nc_lt_v, nc_bV_v, si_rw, si_rw, row_s, row_r]
          show nc_bI (nc_Call m_X12_bits [.inl (nI r &&& w3.1 874 0 57)] w3) _ = _
          rw [s3, hl, nI_and r1 (by omega), sm_bits _ (by omega), nc_bI_v]
        · refine Inv_ch hI0 E ⟨Or.inr ⟨?_, ?_⟩, ?_⟩ (TP_eq c6 (fun j hj => g12 j (by omega) (by omega) (by omega)) ?_ (E.2 740 0 (by omega)) (E.2 869 0 (by omega))) (fun j hj => g12 j (by omega) (by omega) (by omega))
          · show (row _ 12 0 _).1 12 0 26 = _
            rw [row_s, upd_n (by decide), upd_s]
          · rw [g1, upd_s]
            show _ = (row _ 12 0 _).1 12 0 25
            rw [row_s, upd_s]
          · rw [g1, g1, upd_n (by decide), upd_n (by decide), a3 9 (by omega), a3 10 (by omega), g12 31 (by decide) (by decide) (by decide), g12 32 (by decide) (by decide) (by decide), g12 33 (by decide) (by decide) (by decide)]
            exact c3.2
          · show (row _ 12 0 _).1 10 0 = _
            rw [row_t (by decide), thr_t (by decide)]
            show (row _ 1 0 _).1 10 0 = _
            rw [row_t (by decide), a2.2 10 0 (by unfold cQ; omega)]
    · refine rd hI0 ⟨-1, ?_, ?_⟩
      · rw [qc_X11_least, sc_can_t e2 hC b.1 b.2, nc_bI_v, if_neg (by decide)]
        by_cases q : p < 0
        · rw [if_pos q]
        · rw [if_neg q, if_pos (Classical.byContradiction (fun z => bp (in999.mpr ⟨q, z⟩)))]
      · rw [qc_X12_least, nc_lt_v, thr_si, mm_isCow_t (m2 _ (by rw [thr_874])) (by omega) b.1, nc_bI_v, if_neg (by decide), sm_isDry, nc_bI_v, thr_874, if_neg (fun q => q (tI_eq0.mpr b2)), sm_isIn, nc_bI_v, tI_f bp, if_neg (fun q => q rfl)]
  · refine rd hI0 ⟨-1, ?_, ?_⟩
    · rw [qc_X11_least, sc_can_f e2 hC b, nc_bI_v, if_pos rfl]
    · rw [qc_X12_least, nc_lt_v, thr_si]
      by_cases q : rng x C
      · rw [mm_isCow_t (m2 _ (by rw [thr_874])) (by omega) q, nc_bI_v, if_neg (by decide), sm_isDry, nc_bI_v, thr_874, if_pos (tI_ne.mpr (Classical.byContradiction (fun z => b ⟨q, by rw [e77]; exact z⟩)))]
      · rw [mm_isCow_f (m2 _ (by rw [thr_874])) (by omega) q, nc_bI_v, if_pos rfl]
end LE
