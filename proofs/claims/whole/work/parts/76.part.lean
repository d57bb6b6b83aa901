/-! part. -/
def xs (S : Nat → Int32) (k : Nat) : Nat := (S (58 + k)).toBitVec.toNat
def ys (S : Nat → Int32) (k : Nat) : Nat := (S (64 + k)).toBitVec.toNat
/-- talk over hedge k, if it isn't gone -/
def hop (S : Nat → Int32) (gone : Int32) (k m : Nat) : Nat := if bq gone (nI k) then m else if bq (nI m) (nI (xs S k)) ∨ bq (nI m) (nI (ys S k)) then m ||| (2 ^ xs S k ||| 2 ^ ys S k) else m
def hops (S : Nat → Int32) (gone : Int32) (h m : Nat) : Nat := it (hop S gone) 0 h m
def rch (S : Nat → Int32) (gone : Int32) (h n m : Nat) : Nat := it (fun _ m => hops S gone h m) 0 n m
section PP
variable {w : nc_H} {f C N h d : Nat} {S : Nat → Int32} {gone : Int32}
theorem xs_eq (hh : hdg S f h) (hf : f ≤ 4) {k : Nat} (hk : k < h) : S (58 + k) = nI (xs S k) ∧ S (64 + k) = nI (ys S k) ∧ xs S k < f ∧ ys S k < f := by
  obtain ⟨x, y, e, h1, h2, h3, h4, h5, h6, h7, h8⟩ := hh k hk
  unfold xs ys
  rw [h6, h7, pk_tn (by omega), pk_tn (by omega)]
  exact ⟨rfl, rfl, h1, h2⟩
theorem pw_lt {x : Nat} (hx : x < f) : 2 ^ x < 2 ^ f := Nat.pow_lt_pow_right (by decide) hx
theorem hop_lt (hh : hdg S f h) (hf : f ≤ 4) {k m : Nat} (hk : k < h) (hm : m < 2 ^ f) : hop S gone k m < 2 ^ f ∧ m &&& hop S gone k m = m := by
  obtain ⟨-, -, h3, h4⟩ := xs_eq hh hf hk
  unfold hop
  by_cases b : bq gone (nI k)
  · rw [if_pos b]
    exact ⟨hm, Nat.and_self m⟩
  · rw [if_neg b]
    by_cases b2 : bq (nI m) (nI (xs S k)) ∨ bq (nI m) (nI (ys S k))
    · rw [if_pos b2]
      exact ⟨or_lt hm (or_lt (pw_lt h3) (pw_lt h4)), by
        apply Nat.eq_of_testBit_eq
        intro i
        rw [Nat.testBit_and, Nat.testBit_or]
        cases m.testBit i <;> rfl⟩
    · rw [if_neg b2]
      exact ⟨hm, Nat.and_self m⟩
theorem sub_tr {a b c : Nat} (h1 : a &&& b = a) (h2 : b &&& c = b) : a &&& c = a := by
  rw [← h1, Nat.and_assoc, h2]
theorem hops_lt (hh : hdg S f h) (hf : f ≤ 4) : ∀ (k i m : Nat), i + k ≤ h → m < 2 ^ f → it (hop S gone) i k m < 2 ^ f ∧ m &&& it (hop S gone) i k m = m
  | 0, i, m, _, hm => ⟨hm, Nat.and_self m⟩
  | k + 1, i, m, hi, hm => by
    have a := hop_lt (gone := gone) hh hf (show i < h by omega) hm
    have b := hops_lt hh hf k (i + 1) (hop S gone i m) (by omega) a.1
    exact ⟨b.1, sub_tr a.2 b.2⟩
theorem pc_sub : ∀ m, m < 16 → ∀ m', m' < 16 → m &&& m' = m → m ≠ m' → pc m < pc m' := by decide +kernel
theorem pc_top : ∀ f, f ≤ 4 → ∀ m, m < 2 ^ f → pc m ≤ f ∧ (f ≤ pc m → m = 2 ^ f - 1) := by decide +kernel
theorem pc_bit : ∀ a, a < 4 → pc (2 ^ a) = 1 := by decide +kernel
theorem all_sub : ∀ f, f ≤ 4 → ∀ m, m < 2 ^ f → (2 ^ f - 1) &&& m = 2 ^ f - 1 → m = 2 ^ f - 1 := by decide +kernel
/-- an inflating step on sets of f farms ends within f - 1 rounds -/
theorem grow {F : Nat → Nat} (hf : f ≤ 4) (hF : ∀ m, m < 2 ^ f → F m < 2 ^ f ∧ m &&& F m = m) {m : Nat} (hm : m < 2 ^ f) (h1 : 1 ≤ pc m) : ∀ n, it (fun _ m => F m) 0 n m < 2 ^ f ∧ (F (it (fun _ m => F m) 0 n m) = it (fun _ m => F m) 0 n m ∨ n + 1 ≤ pc (it (fun _ m => F m) 0 n m))
  | 0 => ⟨hm, Or.inr h1⟩
  | n + 1 => by
    obtain ⟨i1, i2⟩ := grow hf hF hm h1 n
    have p16 : 2 ^ f ≤ 2 ^ 4 := Nat.pow_le_pow_right (by decide) hf
    rw [it_succ]
    refine ⟨(hF _ i1).1, ?_⟩
    rcases i2 with e | e
    · rw [e, e]
      exact Or.inl rfl
    · by_cases z : F (it (fun _ m => F m) 0 n m) = it (fun _ m => F m) 0 n m
      · rw [z, z]
        exact Or.inl rfl
      · right
        have := pc_sub _ (Nat.lt_of_lt_of_le i1 p16) _ (Nat.lt_of_lt_of_le (hF _ i1).1 p16) (hF _ i1).2 (fun q => z q.symm)
        omega
theorem grow_fix {F : Nat → Nat} (hf : f ≤ 4) (hF : ∀ m, m < 2 ^ f → F m < 2 ^ f ∧ m &&& F m = m) {m : Nat} (hm : m < 2 ^ f) (h1 : 1 ≤ pc m) (h0 : 1 ≤ f) : F (it (fun _ m => F m) 0 (f - 1) m) = it (fun _ m => F m) 0 (f - 1) m := by
  obtain ⟨i1, i2⟩ := grow hf hF hm h1 (f - 1)
  rcases i2 with e | e
  · exact e
  · have := (pc_top f hf _ i1).2 (by omega)
    have q := hF _ i1
    rw [this] at q ⊢
    exact all_sub f hf _ q.1 q.2
theorem it_fix {F : Nat → Nat} {n m : Nat} (h : F (it (fun _ m => F m) 0 n m) = it (fun _ m => F m) 0 n m) : ∀ k, it (fun _ m => F m) 0 (n + k) m = it (fun _ m => F m) 0 n m
  | 0 => rfl
  | k + 1 => by
    rw [← Nat.add_assoc, it_succ, it_fix h k, h]
theorem rch_4 (hh : hdg S f h) (hf : f ≤ 4) (h0 : 1 ≤ f) {a : Nat} (ha : a < f) : rch S gone h 4 (2 ^ a) = rch S gone h (f - 1) (2 ^ a) := by
  have hF : ∀ m, m < 2 ^ f → hops S gone h m < 2 ^ f ∧ m &&& hops S gone h m = m := fun m hm => hops_lt hh hf h 0 m (by omega) hm
  have := it_fix (grow_fix (F := hops S gone h) hf hF (pw_lt ha) (by rw [pc_bit a (by omega)]; exact Nat.le_refl 1) h0) (4 - (f - 1))
  unfold rch
  rw [show 4 = f - 1 + (4 - (f - 1)) by omega]
  exact this
theorem rch_lt (hh : hdg S f h) (hf : f ≤ 4) {a : Nat} (ha : a < f) : ∀ n, rch S gone h n (2 ^ a) < 2 ^ f
  | 0 => pw_lt ha
  | n + 1 => by
    unfold rch
    rw [it_succ]
    exact (hops_lt hh hf h 0 _ (by omega) (rch_lt hh hf ha n)).1
theorem p16 (hf : f ≤ 4) : 2 ^ f ≤ 2 ^ 4 := Nat.pow_le_pow_right (by decide) hf
theorem sides_or {x y m : Nat} (hx : x < 4) (hy : y < 4) (hm : m < 16) : nI m ||| (bs x ||| bs y) = nI (m ||| (2 ^ x ||| 2 ^ y)) := by
  have px := pw_lt (f := 4) hx
  have py := pw_lt (f := 4) hy
  rw [bs_nI x (by omega), bs_nI y (by omega), nI_or (by omega) (by omega), nI_or (by omega) (by have := or_lt (n := 4) px py; omega)]
theorem sides_and {x y : Nat} {e : Int32} (hx : x < 4) (hy : y < 4) : e &&& (bs x ||| bs y) = 0 ↔ ¬ (bq e (nI x) ∨ bq e (nI y)) := by
  constructor
  · intro q z
    rcases z with z | z
    · have : bq (e &&& (bs x ||| bs y)) (nI x) := (bq_and (by omega)).mpr ⟨z, (bq_or (by omega)).mpr (Or.inl ((bq_bs (by omega) (by omega)).mpr rfl))⟩
      rw [q] at this
      exact bq_z (by omega) this
    · have : bq (e &&& (bs x ||| bs y)) (nI y) := (bq_and (by omega)).mpr ⟨z, (bq_or (by omega)).mpr (Or.inr ((bq_bs (by omega) (by omega)).mpr rfl))⟩
      rw [q] at this
      exact bq_z (by omega) this
  · intro q
    refine bq_ext (fun n hn => ?_)
    rw [bq_and hn, bq_or hn, bq_bs (by omega) hn, bq_bs (by omega) hn]
    constructor
    · rintro ⟨z1, z2 | z2⟩
      · subst z2
        exact absurd (Or.inl z1) q
      · subst z2
        exact absurd (Or.inr z1) q
    · intro z
      exact absurd z (bq_z hn)
theorem sd_comesTo {dn a b : Nat} (hD : DR w dn S f C N h) (hh : hdg S f h) (ha : a < f) : nc_Call m_X2_comesTo [.inr (.inr (2, dn)), .inl (nI a), .inl (nI b), .inl gone] w = some (some (.inl (tI (bq (nI (rch S gone h (f - 1) (2 ^ a))) (nI b)))), w) := by
  have hf : f ≤ 4 := hD.1.2.2.2.2.1
  have h6 : h ≤ 6 := hD.1.2.2.2.2.2.2.2
  have e1 : w.1 2 dn 1 = nI f := hD.2.1.1
  have e4 : w.1 2 dn 4 = nI h := hD.2.1.2.2.2.1
  rw [qc_X2_comesTo, nc_li_v, show (1 <<< (nI a &&& 31) : Int32) = nI (2 ^ a) from bs_nI a (by omega)]
  have key := it_loop (R := fun i (m : Nat) => nc_Run m_X2_comesTo 8 [some (.inr (.inr (2, dn))), none, some (.inl (nI b)), some (.inl gone), some (.inl (nI m)), some (.inl (nI (i + 1))), none, none] [] w) (st := fun _ m => hops S gone h m) (I := fun _ m => m < 2 ^ f) (n := f - 1) (out := fun m => some (some (.inl (tI (bq (nI m) (nI b)))), w)) ?_ ?_ (f - 1) 0 (2 ^ a) (by omega) (pw_lt ha)
  · exact key
  · intro i m hi hm
    refine ⟨?_, (hops_lt hh hf h 0 m (by omega) hm).1⟩
    show nc_Run m_X2_comesTo 8 _ _ w = nc_Run m_X2_comesTo 8 _ _ w
    rw [qr_X2_comesTo_8, e1, if_neg (nI_ge (by omega) (by omega))]
    have k2 := it_loop (R := fun k (m : Nat) => nc_Run m_X2_comesTo 20 [some (.inr (.inr (2, dn))), none, some (.inl (nI b)), some (.inl gone), some (.inl (nI m)), some (.inl (nI (i + 1))), some (.inl (nI k)), none] [] w) (st := hop S gone) (I := fun _ m => m < 2 ^ f) (n := h) (out := fun m => nc_Run m_X2_comesTo 8 [some (.inr (.inr (2, dn))), none, some (.inl (nI b)), some (.inl gone), some (.inl (nI m)), some (.inl (nI (i + 1 + 1))), none, none] [] w) ?_ ?_ h 0 m (by omega) hm
    · exact k2
    · intro k m hk hm
      refine ⟨?_, (hop_lt hh hf hk hm).1⟩
      have q := hD.2.2.2.2 k hk
      obtain ⟨z1, z2, z3, z4⟩ := xs_eq hh hf hk
      have q16 := p16 hf
      show nc_Run m_X2_comesTo 20 _ _ w = nc_Run m_X2_comesTo 20 _ _ w
      rw [qr_X2_comesTo_20, e4, if_neg (nI_ge hk (by omega)), bd8 k 6 (by omega) (by decide), bd8 k 6 (by omega) (by decide), nc_li_v, q.1, q.2.1, z1, z2]
      show (if ((gone >>> (nI k &&& 31)) &&& 1) ≠ 0 then _ else if (nI m &&& (bs (xs S k) ||| bs (ys S k))) = 0 then _ else _) = _
      unfold hop
      by_cases b1 : bq gone (nI k)
      · rw [if_pos (by rw [show (gone >>> (nI k &&& 31)) &&& 1 = 1 from b1]; decide), nc_li_v, nI_1, if_pos b1]
      · rw [if_neg (fun y => y ((bq_0 gone (nI k)).mp b1)), if_neg b1]
        by_cases b2 : bq (nI m) (nI (xs S k)) ∨ bq (nI m) (nI (ys S k))
        · rw [if_neg (fun y => (sides_and (by omega) (by omega)).mp y b2), nc_li_v, nc_li_v, nI_1, if_pos b2]
          show nc_Run m_X2_comesTo 20 [_, _, _, _, some (.inl (nI m ||| (bs (xs S k) ||| bs (ys S k)))), _, _, _] _ w = _
          rw [sides_or (by omega) (by omega) (by omega)]
        · rw [if_pos ((sides_and (by omega) (by omega)).mpr b2), nc_li_v, nI_1, if_neg b2]
    · intro m _
      show nc_Run m_X2_comesTo 20 _ _ w = _
      rw [qr_X2_comesTo_20, e4, if_pos (nI_le (Nat.le_refl _) (by omega)), nc_li_v, nI_1]
  · intro m _
    show nc_Run m_X2_comesTo 8 _ _ w = _
    rw [qr_X2_comesTo_8, e1, if_pos (nI_le (by omega) (by omega))]
    by_cases q : bq (nI m) (nI b)
    · rw [if_neg (fun y => y q), tI_t q]
    · rw [if_pos q, tI_f q]
theorem sm_comes {a b : Nat} {D : Int32} (hs : shp (w.1 874 0) f C N h) (hS : w.1 874 0 = S) (hh : hdg S f h) (ha : a < f) (hD : ∀ k, k < h → (bq D (nI k) ↔ ¬ bq gone (nI k))) : nc_Call m_X12_comes [mO, .inl (nI a), .inl (nI b), .inl D] w = some (some (.inl (tI (bq (nI (rch S gone h 4 (2 ^ a))) (nI b)))), w) := by
  have hf : f ≤ 4 := hs.2.2.2.2.1
  have h6 : h ≤ 6 := hs.2.2.2.2.2.2.2
  have e4 : w.1 874 0 3 = nI h := hs.2.2.2.1
  rw [qc_X12_comes, nc_li_v, show (1 <<< (nI a &&& 31) : Int32) = nI (2 ^ a) from bs_nI a (by omega)]
  have key := it_loop (R := fun i (m : Nat) => nc_Run m_X12_comes 8 [some mO, none, some (.inl (nI b)), some (.inl D), some (.inl (nI m)), some (.inl (nI i)), none] [] w) (st := fun _ m => hops S gone h m) (I := fun _ m => m < 2 ^ f) (n := 4) (out := fun m => some (some (.inl (tI (bq (nI m) (nI b)))), w)) ?_ ?_ 4 0 (2 ^ a) (by omega) (pw_lt ha)
  · exact key
  · intro i m hi hm
    refine ⟨?_, (hops_lt hh hf h 0 m (by omega) hm).1⟩
    show nc_Run m_X12_comes 8 _ _ w = nc_Run m_X12_comes 8 _ _ w
    rw [qr_X12_comes_8, if_neg (show ¬ (4 : Int32) ≤ nI i from nI_ge hi (by decide))]
    have k2 := it_loop (R := fun k (m : Nat) => nc_Run m_X12_comes 17 [some mO, none, some (.inl (nI b)), some (.inl D), some (.inl (nI m)), some (.inl (nI i)), some (.inl (nI k))] [] w) (st := hop S gone) (I := fun _ m => m < 2 ^ f) (n := h) (out := fun m => nc_Run m_X12_comes 8 [some mO, none, some (.inl (nI b)), some (.inl D), some (.inl (nI m)), some (.inl (nI (i + 1))), none] [] w) ?_ ?_ h 0 m (by omega) hm
    · exact k2
    · intro k m hk hm
      refine ⟨?_, (hop_lt hh hf hk hm).1⟩
      obtain ⟨z1, z2, z3, z4⟩ := xs_eq hh hf hk
      have q16 := p16 hf
      have so : nI m ||| ((1 <<< (nI (xs S k) &&& 31)) ||| (1 <<< (nI (ys S k) &&& 31))) = nI (m ||| (2 ^ xs S k ||| 2 ^ ys S k)) := sides_or (by omega) (by omega) (by omega)
      show nc_Run m_X12_comes 17 _ _ w = nc_Run m_X12_comes 17 _ _ w
      rw [qr_X12_comes_17, e4, if_neg (nI_ge hk (by omega)), sm_bitOf, nc_bI_v]
      unfold hop
      by_cases b1 : bq gone (nI k)
      · rw [if_neg (fun y => y (tI_eq0.mpr (fun y2 => (hD k hk).mp y2 b1))), nc_li_v, nI_1, if_pos b1]
      · rw [if_pos (tI_ne.mpr ((hD k hk).mpr b1)), if_neg b1, pl_58 (by omega), hS, z1, sm_bitOf, nc_bI_v]
        by_cases b2 : bq (nI m) (nI (xs S k))
        · rw [if_pos (tI_ne.mpr b2), pl_58 (by omega), pl_64 (by omega), hS, z1, z2, so, nc_li_v, nc_li_v, nI_1, if_pos (Or.inl b2)]
        · rw [if_neg (fun y => y (tI_eq0.mpr b2)), pl_64 (by omega), hS, z2, sm_bitOf, nc_bI_v]
          by_cases b3 : bq (nI m) (nI (ys S k))
          · rw [if_neg (tI_ne.mpr b3), pl_58 (by omega), pl_64 (by omega), hS, z1, z2, so, nc_li_v, nc_li_v, nI_1, if_pos (Or.inr b3)]
          · rw [if_pos (tI_eq0.mpr b3), nc_li_v, nI_1, if_neg (fun y => y.elim b2 b3)]
    · intro m _
      show nc_Run m_X12_comes 17 _ _ w = _
      rw [qr_X12_comes_17, e4, if_pos (nI_le (Nat.le_refl _) (by omega)), nc_li_v, nI_1]
  · intro m _
    show nc_Run m_X12_comes 8 _ _ w = _
    rw [qr_X12_comes_8, if_pos (by decide +kernel), sm_bitOf, nc_bI_v, nc_z_tI]
/-! the fewest, of like ones the least -/
theorem pc_full : ∀ h, h ≤ 6 → ∀ i, i < 2 ^ h - 1 → pc i < pc (2 ^ h - 1) := by decide +kernel
def lsm (n : Nat) (Q : Nat → Prop) (x : Nat) : Prop := x < n ∧ Q x ∧ ∀ g, g < n → Q g → pc x < pc g ∨ (pc x = pc g ∧ x ≤ g)
theorem lsm_eq {n x y : Nat} {Q : Nat → Prop} (hx : lsm n Q x) (hy : lsm n Q y) : x = y := by
  have a := hx.2.2 y hy.1 hy.2.1
  have b := hy.2.2 x hx.1 hx.2.1
  omega
end PP
