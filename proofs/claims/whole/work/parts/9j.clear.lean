/-! What is cleared ahead of a dairy. -/
section CL
variable {w : nc_H} {a : Nat}
theorem s_fillL {t n : Nat} (hk : nc_ak t = 3) (hl : nc_al t = n) (hn : n < 2 ^ 31) (y : Int64) : ∃ w', nc_Call m_J7_fill_d0a16 [.inr (.inr (t, a)), .inr (.inl y)] w = some (none, w') ∧ w'.1 = w.1 ∧ (∀ t' a', ¬ (t' = t ∧ a' = a) → w'.2 t' a' = w.2 t' a') ∧ (∀ k, w'.2 t a k = if k < n then y else w.2 t a k) := by
  rw [qc_J7_fill_d0a16, hk, hl, show Nat.ble 3 4 = true from rfl, cond_true, nc_li_v]
  have key : ∀ m i u, i + m = n → u.1 = w.1 → (∀ t' a', ¬ (t' = t ∧ a' = a) → u.2 t' a' = w.2 t' a') → (∀ k, u.2 t a k = if k < i then y else w.2 t a k) → ∃ w', nc_Run m_J7_fill_d0a16 6 [some (.inr (.inr (t, a))), some (.inr (.inl y)), none, some (.inl (nI i)), some (.inl (nI n))] [] u = some (none, w') ∧ w'.1 = w.1 ∧ (∀ t' a', ¬ (t' = t ∧ a' = a) → w'.2 t' a' = w.2 t' a') ∧ (∀ k, w'.2 t a k = if k < n then y else w.2 t a k) := by
    intro m
    induction m with
    | zero =>
      intro i u hi h1 h2 h3
      have e : i = n := by omega
      subst e
      refine ⟨u, ?_, h1, h2, h3⟩
      rw [qr_J7_fill_d0a16_6, if_pos (Int32.le_refl _)]
    | succ m ih =>
      intro i u hi h1 h2 h3
      obtain ⟨w', b1, b2⟩ := ih (i + 1) (nc_sl u t a i y) (by omega) h1 (fun t' a' q => by
        by_cases e : t' = t
        · rw [sl_a (fun e2 => q ⟨e, e2⟩)]
          exact h2 t' a' q
        · rw [sl_t e]
          exact h2 t' a' q) (fun k => by
        by_cases e : k = i
        · rw [e, sl_s, if_pos (by omega)]
        · rw [sl_k e, h3 k]
          by_cases q : k < i
          · rw [if_pos q, if_pos (by omega)]
          · rw [if_neg q, if_neg (by omega)])
      refine ⟨w', Eq.trans ?_ b1, b2⟩
      rw [qr_J7_fill_d0a16_6, if_neg (nI_ge (by omega) (by omega)), hk, show Nat.beq 3 3 = true from rfl, cond_true, hl, bd8 i n (by omega) hn, nc_lt_v, nc_li_v, nI_1]
  exact key n 0 w (by omega) rfl (fun _ _ _ => rfl) (fun k => (if_neg (Nat.not_lt_zero k)).symm)
end CL
