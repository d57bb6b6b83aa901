/-! ALL HOLDS AT FIRST. -/
def tpB : List Int32 := [102, 97, 114, 109, 32, 99, 111, 119, 32, 110, 101, 119, 115, 32, 108, 105, 101, 32, 112, 108, 97, 105, 110, 32, 115, 99, 97, 110, 100, 97, 108, 32, 119, 97, 114, 32, 119, 101, 97, 116, 104, 101, 114, 32, 104, 101, 100, 103, 101, 32, 104, 101, 97, 114, 115, 32, 102, 111, 117, 110, 100, 32, 100, 97, 121, 32, 111, 114, 32, 97, 110, 100, 32, 110, 111, 116, 32, 100, 114, 121, 32, 99, 117, 114, 100, 108, 101, 100, 32, 97, 116, 32, 107, 110, 111, 119, 115, 32, 104, 101, 97, 114, 100, 32, 109, 105, 108, 107, 32, 103, 105, 118, 101, 110, 32, 100, 111, 117, 98, 116, 115, 32, 110, 117, 109, 98, 101, 114]
def tpJ : List (List Nat) → List Int32
  | [] => []
  | [l] => l.map Int32.ofNat
  | l :: ls => l.map Int32.ofNat ++ 32 :: tpJ ls
theorem tp_wlt : ∀ b, b < 128 → (Int32.ofNat b &&& 31).toInt64 = Int64.ofNat (b % 32) := by decide +kernel
theorem tp_32 : ∀ b, b < 128 → b ≠ 32 → ¬ Int32.ofNat b = 32 := by decide +kernel
theorem tp_sh : ((5 : Int32).toInt64 &&& 63) = (5 : Int64) := by decide +kernel
def tpF (y : Int64) (l : List Nat) : Int64 := l.foldl (fun x b => (x <<< 5) ||| Int64.ofNat (b % 32)) y
theorem tpE_w (cs : List Int32) (wd : Nat) : ∀ (l : List Nat) (f : Nat → Int64), (∀ b ∈ l, b < 128 ∧ b ≠ 32) → tpE (l.map Int32.ofNat ++ cs) wd f = tpE cs wd (fun k => if k = wd then tpF (f wd) l else f k)
  | [], f, _ => by
    show tpE cs wd f = _
    congr 1
    funext k
    by_cases h : k = wd
    · rw [if_pos h, h]; rfl
    · rw [if_neg h]
  | b :: l, f, h => by
    have hb := h b List.mem_cons_self
    show (if Int32.ofNat b = 32 then tpE (l.map Int32.ofNat ++ cs) (wd + 1) f else tpE (l.map Int32.ofNat ++ cs) wd (vp_updL f wd (wlt (f wd) (Int32.ofNat b)))) = _
    rw [if_neg (tp_32 b hb.1 hb.2), tpE_w cs wd l _ (fun x hx => h x (List.mem_cons_of_mem _ hx))]
    have e : wlt (f wd) (Int32.ofNat b) = (f wd <<< 5) ||| Int64.ofNat (b % 32) := by
      unfold wlt
      rw [tp_sh, tp_wlt b hb.1]
    congr 1
    funext k
    by_cases hk : k = wd
    · rw [if_pos hk, if_pos hk]
      have e2 : vp_updL f wd (wlt (f wd) (Int32.ofNat b)) wd = wlt (f wd) (Int32.ofNat b) := if_pos rfl
      rw [e2, e]
      rfl
    · rw [if_neg hk, if_neg hk]
      exact if_neg hk
theorem tpJ_e : ∀ (ls : List (List Nat)) (wd : Nat) (f : Nat → Int64), (∀ l ∈ ls, ∀ b ∈ l, b < 128 ∧ b ≠ 32) → ∀ k, tpE (tpJ ls) wd f k = if wd ≤ k ∧ k < wd + ls.length then tpF (f k) (ls.getD (k - wd) []) else f k
  | [], wd, f, _, k => by
    rw [if_neg (by simp)]
    rfl
  | [l], wd, f, h, k => by
    have e := tpE_w [] wd l f (h l List.mem_cons_self)
    rw [List.append_nil] at e
    show tpE (l.map Int32.ofNat) wd f k = _
    rw [e]
    show (if k = wd then tpF (f wd) l else f k) = _
    by_cases hk : k = wd
    · subst hk
      rw [if_pos rfl, if_pos (by simp)]
      simp
    · rw [if_neg hk, if_neg (by simp; omega)]
  | l :: l2 :: ls, wd, f, h, k => by
    show tpE (l.map Int32.ofNat ++ 32 :: tpJ (l2 :: ls)) wd f k = _
    rw [tpE_w _ wd l f (h l List.mem_cons_self)]
    have e : ∀ g : Nat → Int64, tpE (32 :: tpJ (l2 :: ls)) wd g = tpE (tpJ (l2 :: ls)) (wd + 1) g := fun g => by
      show (if (32 : Int32) = 32 then _ else _) = _
      rw [if_pos rfl]
    rw [e, tpJ_e (l2 :: ls) (wd + 1) _ (fun x hx => h x (List.mem_cons_of_mem _ hx))]
    have hlen : (l :: l2 :: ls).length = (l2 :: ls).length + 1 := rfl
    rw [hlen]
    generalize (l2 :: ls) = L
    by_cases hk : k = wd
    · subst hk
      rw [if_neg (by omega), if_pos rfl, if_pos (by omega)]
      simp
    · rw [if_neg hk]
      by_cases hin : wd + 1 ≤ k ∧ k < wd + 1 + L.length
      · rw [if_pos hin, if_pos (by omega)]
        have : k - wd = (k - (wd + 1)) + 1 := by omega
        rw [this]
        simp
      · rw [if_neg hin, if_neg (by omega)]
theorem tpB_J : tpB = tpJ ((List.range 24).map wrd) := by decide +kernel
theorem wrd_ok : ∀ l ∈ (List.range 24).map wrd, ∀ b ∈ l, b < 128 ∧ b ≠ 32 := by decide +kernel
theorem w0_T1 (k : Nat) (hk : k < 24) : tpE tpB 0 (fun _ => 0) k = enc5 (wrd k) := by
  rw [tpB_J, tpJ_e _ 0 _ wrd_ok k, if_pos ⟨Nat.zero_le _, by simpa using hk⟩]
  have e : ((List.range 24).map wrd).getD (k - 0) [] = wrd k := by simp [List.getD, hk]
  rw [e]
  rfl
theorem md0_n : ∀ k, k < 24 → md0 k = Int64.ofNat (n8 (wrd (prm k))) := by decide +kernel
theorem w0_T2 (k : Nat) (hk : k < 24) : md0 k = enc8 (wrd (prm k)) := by
  have h := wrd_wl (prm k) (prm_lt k hk)
  rw [enc8_n _ h.1 h.2, md0_n k hk]
theorem w0_a (byt : List Int32) : (w0 byt).2 742 0 = tpE byt 0 (fun _ => 0) := rfl
theorem w0_b (byt : List Int32) : (w0 byt).2 878 0 = md0 := rfl
theorem w0_TW : TW (w0 tpB) := ⟨fun k hk => (congrFun (w0_a tpB) k).trans (w0_T1 k hk), fun k hk => (congrFun (w0_b tpB) k).trans (w0_T2 k hk)⟩
def S00 : Nat → Int32 := upd (fun _ => 0) 4 3
theorem S00_0 {k : Nat} (h : k ≠ 4) : S00 k = 0 := if_neg h
theorem w0_NW : NW (w0 tpB) 0 0 0 0 0 := by
  have hs : shp S00 0 0 0 0 := ⟨by decide, by decide, by decide, by decide, by decide, by decide, by decide, by decide⟩
  refine ⟨⟨?_, ?_, ?_, ?_, ?_, ?_⟩, ?_⟩
  · exact ⟨hs, fun n hn => absurd hn (Nat.not_lt_zero _), fun n hn => absurd hn (Nat.not_lt_zero _), fun n hn => absurd hn (Nat.not_lt_zero _), fun n hn => absurd hn (Nat.not_lt_zero _), fun n hn => absurd hn (Nat.not_lt_zero _), fun n hn => absurd hn (Nat.not_lt_zero _), ⟨0, by decide, by decide⟩, ⟨3, by decide, by decide, by decide⟩⟩
  · refine ⟨by decide, by decide, ?_, fun n hn => absurd hn (Nat.not_lt_zero _)⟩
    exact fun c n hc => absurd hc (Nat.not_lt_zero _)
  · exact ⟨hs, ⟨by decide, by decide, by decide, by decide, by decide, by decide⟩, fun n hn => absurd hn (Nat.not_lt_zero _), fun n hn => absurd hn (Nat.not_lt_zero _), fun n hn => absurd hn (Nat.not_lt_zero _)⟩
  · refine ⟨by decide, by decide, fun k hk => ?_, fun k hk hn => rfl, fun j k hj => ?_⟩
    · unfold usd at hk; omega
    · unfold usd at hj; omega
  · refine ⟨⟨⟨⟨by decide, by decide, by decide⟩, by decide⟩, by decide, by decide, fun n hn => absurd hn (Nat.not_lt_zero _), fun c n hn => absurd hn (Nat.not_lt_zero _)⟩, by decide, by decide, fun d h1 h2 g t hg => absurd hg (Nat.not_lt_zero _)⟩
  · exact ⟨0, 0, fun _ => 0, by decide, by decide, by decide, by decide, by decide, by decide, rfl, fun h => absurd rfl h, fun _ _ => Nat.zero_le _, fun i hi => absurd hi (Nat.not_lt_zero _)⟩
  · exact ⟨0, 0, by decide, by decide, by decide, by decide, by decide, fun j hj => absurd hj (Nat.not_lt_zero _)⟩
theorem w0_inv : Inv (w0 tpB) := by
  refine ⟨⟨0, 0, 0, 0, 0, w0_NW⟩, fun k hk => Or.inl ⟨rfl, rfl⟩, ⟨Or.inl ⟨rfl, rfl⟩, Or.inl ⟨rfl, rfl, rfl⟩⟩, Or.inl ⟨rfl, rfl⟩, Or.inl ⟨rfl, rfl⟩, ⟨⟨0, by decide, rfl, rfl⟩, fun k hk => rfl, rfl⟩, Or.inl ⟨rfl, rfl⟩, w0_TW⟩

theorem tpB_b : ∀ k, k < tpB.length → narrow .char (.int (tpB.getD k 0)) = .int (tpB.getD k 0) ∧ ((tpB.getD k 0 &&& 255).toUInt32 % 65536).toInt32 = tpB.getD k 0 := by
  have h : ∀ x ∈ tpB, narrow .char (.int x) = .int x ∧ ((x &&& 255).toUInt32 % 65536).toInt32 = x := by
    have h1 : ∀ x ∈ tpB, x ∈ (List.range 128).map (fun n => Int32.ofNat n) := by decide +kernel
    have h2 : ∀ n, n < 128 → narrow .char (.int (Int32.ofNat n)) = .int (Int32.ofNat n) ∧ ((Int32.ofNat n &&& 255).toUInt32 % 65536).toInt32 = Int32.ofNat n := by decide +kernel
    intro x hx
    obtain ⟨n, hn, rfl⟩ := List.mem_map.mp (h1 x hx)
    exact h2 n (List.mem_range.mp hn)
  intro k hk
  have e : tpB.getD k 0 = tpB[k] := by simp [List.getD, hk]
  rw [e]
  exact h _ (List.getElem_mem hk)
theorem tpB_c : tpB.count 32 ≤ 23 := by decide +kernel
theorem tpB_n : tpB.length < 2 ^ 30 := by decide +kernel
