/-! ALL HOLDS AT FIRST. -/
def tpB : List Int32 := [102, 97, 114, 109, 32, 99, 111, 119, 32, 110, 101, 119, 115, 32, 108, 105, 101, 32, 112, 108, 97, 105, 110, 32, 115, 99, 97, 110, 100, 97, 108, 32, 119, 97, 114, 32, 119, 101, 97, 116, 104, 101, 114, 32, 104, 101, 100, 103, 101, 32, 104, 101, 97, 114, 115, 32, 102, 111, 117, 110, 100, 32, 100, 97, 121, 32, 111, 114, 32, 97, 110, 100, 32, 110, 111, 116, 32, 100, 114, 121, 32, 99, 117, 114, 100, 108, 101, 100, 32, 97, 116, 32, 107, 110, 111, 119, 115, 32, 104, 101, 97, 114, 100, 32, 109, 105, 108, 107, 32, 103, 105, 118, 101, 110, 32, 100, 111, 117, 98, 116, 115, 32, 110, 117, 109, 98, 101, 114]
set_option maxRecDepth 100000 in
theorem w0_TW : TW (w0 tpB) := by
  refine ⟨?_, ?_⟩
  · show ∀ k, k < 24 → tpE tpB 0 (fun _ => 0) k = enc5 (wrd k)
    decide +kernel
  · show ∀ k, k < 24 → md0 k = enc8 (wrd (prm k))
    decide +kernel
def S00 : Nat → Int32 := upd (fun _ => 0) 4 3
theorem S00_0 {k : Nat} (h : k ≠ 4) : S00 k = 0 := if_neg h
theorem w0_NW : NW (w0 tpB) 0 0 0 0 0 := by
  have hs : shp S00 0 0 0 0 := ⟨by decide, by decide, by decide, by decide, by decide, by decide, by decide, by decide⟩
  refine ⟨⟨?_, ?_, ?_, ?_, ?_, ?_⟩, ?_⟩
  · exact ⟨hs, fun n hn => absurd hn (Nat.not_lt_zero _), fun n hn => absurd hn (Nat.not_lt_zero _), fun n hn => absurd hn (Nat.not_lt_zero _), fun n hn => absurd hn (Nat.not_lt_zero _), fun n hn => absurd hn (Nat.not_lt_zero _), fun n hn => absurd hn (Nat.not_lt_zero _), ⟨0, by decide, by decide⟩, ⟨3, by decide, by decide, by decide⟩⟩
  · refine ⟨by decide, by decide, ?_, fun n hn => absurd hn (Nat.not_lt_zero _)⟩
    exact fun c n hc => absurd hc (Nat.not_lt_zero _)
  · exact ⟨hs, ⟨by decide, by decide, by decide, by decide, by decide, by decide⟩, fun n hn => absurd hn (Nat.not_lt_zero _), fun n hn => absurd hn (Nat.not_lt_zero _), fun n hn => absurd hn (Nat.not_lt_zero _)⟩
  · refine ⟨by decide, by decide, fun k hk => ?_, fun k hk hn => rfl, fun j k hj => ?_⟩
    · unfold usd at hk; omega
    · unfold usd at hj; omega
  · refine ⟨⟨⟨⟨by decide, by decide, by decide⟩, by decide⟩, by decide, by decide, fun n hn => absurd hn (Nat.not_lt_zero _), fun c n hn => absurd hn (Nat.not_lt_zero _)⟩, by decide, by decide, fun d h1 h2 g t hg => absurd hg (Nat.not_lt_zero _)⟩
  · exact ⟨0, 0, fun _ => 0, by decide, by decide, by decide, by decide, by decide, by decide, rfl, fun h => absurd rfl h, fun _ _ => Nat.zero_le _, fun i hi => absurd hi (Nat.not_lt_zero _)⟩
  · exact ⟨0, 0, by decide, by decide, by decide, by decide, by decide, fun j hj => absurd hj (Nat.not_lt_zero _)⟩
theorem w0_inv : Inv (w0 tpB) := by
  refine ⟨⟨0, 0, 0, 0, 0, w0_NW⟩, fun k hk => Or.inl ⟨rfl, rfl⟩, ⟨Or.inl ⟨rfl, rfl⟩, Or.inl ⟨rfl, rfl, rfl⟩⟩, Or.inl ⟨rfl, rfl⟩, Or.inl ⟨rfl, rfl⟩, ⟨⟨0, by decide, rfl, rfl⟩, fun k hk => rfl, rfl⟩, Or.inl ⟨rfl, rfl⟩, w0_TW⟩

theorem tpB_b : ∀ k, k < tpB.length → narrow .char (.int (tpB.getD k 0)) = .int (tpB.getD k 0) ∧ ((tpB.getD k 0 &&& 255).toUInt32 % 65536).toInt32 = tpB.getD k 0 := by
  have h : ∀ x ∈ tpB, narrow .char (.int x) = .int x ∧ ((x &&& 255).toUInt32 % 65536).toInt32 = x := by
    have h1 : ∀ x ∈ tpB, x ∈ (List.range 128).map (fun n => Int32.ofNat n) := by decide +kernel
    have h2 : ∀ n, n < 128 → narrow .char (.int (Int32.ofNat n)) = .int (Int32.ofNat n) ∧ ((Int32.ofNat n &&& 255).toUInt32 % 65536).toInt32 = Int32.ofNat n := by decide +kernel
    intro x hx
    obtain ⟨n, hn, rfl⟩ := List.mem_map.mp (h1 x hx)
    exact h2 n (List.mem_range.mp hn)
  intro k hk
  have e : tpB.getD k 0 = tpB[k] := by simp [List.getD, hk]
  rw [e]
  exact h _ (List.getElem_mem hk)
theorem tpB_c : tpB.count 32 ≤ 23 := by decide +kernel
theorem tpB_n : tpB.length < 2 ^ 30 := by decide +kernel
