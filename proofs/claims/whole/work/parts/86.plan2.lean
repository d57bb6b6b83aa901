/-! PLANS of the class. -/
def dg (N n : Nat) : Int32 := if n = N then -1 else nI n
abbrev pO : nc_V := .inr (.inr (8, 0))
/-- the path so far is the number p -/
def Pth (v : nc_H) (N k p : Nat) : Prop := ∀ j, j < k → v.1 615 0 j = dg N (p / (N + 1) ^ (k - 1 - j) % (N + 1))
/-- the best so far -/
def stR (v : nc_H) (N days : Nat) (st : PS) : Prop := v.1 8 0 6 = st.1 ∧ ∀ code, st.2 = some code → ∀ j, j < days → v.1 616 0 j = dg N (code / (N + 1) ^ (days - 1 - j) % (N + 1))
def gP (lo t a : Nat) : Prop := (a = 0 ∧ (t = 8 ∨ t = 615 ∨ t = 616)) ∨ ((t = 7 ∨ (553 ≤ t ∧ t ≤ 564)) ∧ lo ≤ a ∧ a ≤ 11)
section PC
variable {w w' v v' : nc_H} {f C N h d c n k p days a : Nat} {S : Nat → Int32} {st : PS} {sum : Int32}
theorem Pth_s (hp : Pth v N k p) (h1 : ∀ j, j < k → v'.1 615 0 j = v.1 615 0 j) (h2 : v'.1 615 0 k = dg N n) (hn : n ≤ N) : Pth v' N (k + 1) (p * (N + 1) + n) := by
  intro j hj
  have eB : (p * (N + 1) + n) / (N + 1) = p := by
    rw [Nat.mul_comm p, Nat.mul_add_div (by omega), Nat.div_eq_of_lt (by omega)]
    rfl
  by_cases e : j = k
  · subst e
    rw [h2, show j + 1 - 1 - j = 0 by omega, Nat.pow_zero, Nat.div_one, Nat.mul_comm p, Nat.mul_add_mod, Nat.mod_eq_of_lt (by omega)]
  · rw [h1 j (by omega), hp j (by omega), show k + 1 - 1 - j = (k - 1 - j) + 1 by omega, Nat.pow_succ, Nat.mul_comm ((N + 1) ^ (k - 1 - j)), ← Nat.div_div_eq_div_mul, eB]
theorem cpi_rw2 : nc_cpi w 615 0 0 616 0 0 3 = row w 616 0 (fun k => if k < 3 then w.1 615 0 k else w.1 616 0 k) := by
  unfold nc_cpi row
  congr 1
  funext t' a' k
  by_cases e : t' = 616 ∧ a' = 0
  · obtain ⟨rfl, rfl⟩ := e
    by_cases e2 : k < 3
    · simp [e2]
    · simp [e2]
  · rw [if_neg e, if_neg (fun q => e ⟨q.1, q.2.1⟩)]
theorem sp_weigh (hd : days ≤ 3) (hP : Pth v N days p) (hR : stR v N days st) : ∃ v', nc_Call m_X8_weigh [pO, .inl sum] v = some (none, v') ∧ eqO (gP 12) v v' ∧ (∀ j, v'.1 615 0 j = v.1 615 0 j) ∧ v'.1 8 0 5 = v.1 8 0 5 ∧ stR v' N days (wgh sum p st) := by
  rw [qc_X8_weigh, hR.1]
  unfold wgh
  by_cases q : st.1 < sum
  · rw [if_neg (Int32.not_le.mpr q), nc_lt_v, nc_lt_v, si_rw, cpi_rw2, if_pos q]
    refine ⟨_, rfl, (eqO.rf.row (Or.inl ⟨rfl, by omega⟩)).row (Or.inl ⟨rfl, by omega⟩), fun j => by rw [row_t (by decide), row_t (by decide)], by rw [row_t (by decide), row_s, upd_n (by decide)], by rw [row_t (by decide), row_s, upd_s], fun code e j hj => ?_⟩
    have e' : p = code := Option.some.inj e
    rw [row_s, if_pos (by omega), row_t (by decide), ← e']
    exact hP j hj
  · rw [if_pos (Int32.not_lt.mp q), if_neg q]
    exact ⟨v, rfl, eqO.rf, fun _ => rfl, rfl, hR⟩
theorem stR_eq (hR : stR v N days st) (h8 : v'.1 8 0 6 = v.1 8 0 6) (h6 : v'.1 616 0 = v.1 616 0) : stR v' N days st := by
  unfold stR
  rw [h8, h6]
  exact hR
theorem Pth_eq (hP : Pth v N k p) (h6 : ∀ j, j < k → v'.1 615 0 j = v.1 615 0 j) : Pth v' N k p := fun j hj => by rw [h6 j hj]; exact hP j hj
/-- a step of the last day -/
def lsD (S : Nat → Int32) (C N c : Nat) (sum : Int32) (p n : Nat) (st : PS) : PS := if n = N then wgh (sum + mwi S C N c 0) (p * (N + 1) + n) st else if wyt S c n = 0 then wgh (sum + mwi (tellS S c n) C N c 0) (p * (N + 1) + n) st else st
theorem sp_goLast (ha : a < 12) (hk : k + 1 = days) (hdy : days ≤ 3) (hc : c < C) (hD : DR v 0 S f C N h) (hL : LK v a S C N) (hkk : dok S f C N h) (hl : lok S C N d) (hP : Pth v N k p) (hR : stR v N days st) : ∃ v', nc_Call m_X8_goLast [pO, lO a, .inl (nI c), .inl (nI k), .inl sum] v = some (none, v') ∧ eqO (gP 12) v v' ∧ (∀ j, j < k → v'.1 615 0 j = v.1 615 0 j) ∧ v'.1 8 0 5 = v.1 8 0 5 ∧ stR v' N days (gR f C N h c 1 S d sum p st) := by
  have ld : nc_ld a = 0 := by
    unfold nc_ld
    rw [if_pos ha]
  have hC : C ≤ 8 := hD.1.2.2.2.2.2.1
  have hN : N ≤ 10 := hD.1.2.2.2.2.2.2.1
  have pN := pow_N hN
  have h8 : c < 8 := by omega
  obtain ⟨kk, ⟨kk1, kk3⟩, kk2⟩ := hl.2.2.2 c hc
  have DA : ∀ u : nc_H, eqO (gP 12) v u → DR u (nc_ld a) S f C N h := fun u E => by
    rw [ld]
    exact DR_eq hD (fun t ht => E.2 t 0 (by unfold gP; omega)) (fun _ _ => rfl)
  have LA : ∀ u : nc_H, eqO (gP 12) v u → LK u a S C N := fun u E => LK_eq hL (fun t ht => E.2 t a (by unfold gP; omega))
  have z1 := sl_sumOf (a := a) (w := v) (c := c) (DA v eqO.rf) hL.1 hkk.2.1 hc
  have z3 := sl_heardByOthers (a := a) (c := c) v (DA v eqO.rf) hL.1 hc
  have z2 := sl_isCurdled (a := a) (c := c) v hL.1 (dOK_of hl) h8
  have eg : gR f C N h c 1 S d sum p st = it (lsD S C N c sum p) 0 (N + 1) st := rfl
  rw [eg]
  have key : ∀ xf : Int32, (xf = 0 ∨ xf = 1) → (xf ≠ 0 ↔ bq (S 77) (nI c) ∨ cu S c) → ∃ v', nc_Run m_X8_goLast 40 [some pO, some (lO a), some (.inl (nI c)), some (.inl (nI k)), some (.inl sum), some (.inl xf), some (.inl (smo S C N c)), some (.inl (hbo S C c)), some (.inl (nI 0)), none, none] [] v = some (none, v') ∧ eqO (gP 12) v v' ∧ (∀ j, j < k → v'.1 615 0 j = v.1 615 0 j) ∧ v'.1 8 0 5 = v.1 8 0 5 ∧ stR v' N days (it (lsD S C N c sum p) 0 (N + 1) st) := by
    intro xf hx hx2
    refine lp (R := fun i (u : nc_H) => nc_Run m_X8_goLast 40 [some pO, some (lO a), some (.inl (nI c)), some (.inl (nI k)), some (.inl sum), some (.inl xf), some (.inl (smo S C N c)), some (.inl (hbo S C c)), some (.inl (nI i)), none, none] [] u) (I := fun i u => eqO (gP 12) v u ∧ (∀ j, j < k → u.1 615 0 j = v.1 615 0 j) ∧ u.1 8 0 5 = v.1 8 0 5 ∧ stR u N days (it (lsD S C N c sum p) 0 i st)) (n := N) (Q := fun r => ∃ v', r = some (none, v') ∧ eqO (gP 12) v v' ∧ (∀ j, j < k → v'.1 615 0 j = v.1 615 0 j) ∧ v'.1 8 0 5 = v.1 8 0 5 ∧ stR v' N days (it (lsD S C N c sum p) 0 (N + 1) st)) ?_ ?_ N 0 v (by omega) ⟨eqO.rf, fun _ _ => rfl, rfl, hR⟩
    · rintro i u hi ⟨q1, q2, q3, q4⟩
      right
      rw [it_succ, Nat.zero_add]
      generalize it (lsD S C N c sum p) 0 i st = s0 at q4 ⊢
      have D := DA u q1
      have L := LA u q1
      have e3 : u.1 2 0 3 = nI N := by
        have := D.2.1.2.2.1
        rw [ld] at this
        exact this
      show ∃ b, nc_Run m_X8_goLast 40 _ _ u = nc_Run m_X8_goLast 40 _ _ b ∧ _
      rw [qr_X8_goLast_40, e3, if_neg (nI_ge hi (by omega)), sl_whyNotTold u D L.1 h8 (show kk < 1024 by omega) kk2, nc_bI_v, wyt_eq (by omega) kk2]
      unfold lsD
      rw [if_neg (show ¬ i = N by omega)]
      by_cases y : wyt S c i = 0
      · have nd : ¬ bq (S 77) (nI c) := fun z => by
          unfold wyt wyT at y
          rw [if_pos z] at y
          exact absurd y (by decide)
        have nh : ¬ bq (S (100 + c)) (nI i) := fun z => by
          unfold wyt wyT at y
          rw [if_neg nd, if_pos z] at y
          exact absurd y (by decide)
        let u1 : nc_H := row u 615 0 (upd (u.1 615 0) k (nI i))
        have E1 : eqO (gP 12) v u1 := q1.row (Or.inl ⟨rfl, by omega⟩)
        have P1 : Pth u1 N days (p * (N + 1) + i) := by
          rw [← hk]
          refine Pth_s (Pth_eq hP q2) (fun j hj => ?_) ?_ (by omega)
          · show (row _ 615 0 _).1 615 0 j = _
            rw [row_s, upd_n (by omega)]
          · show (row _ 615 0 _).1 615 0 k = _
            rw [row_s, upd_s]
            unfold dg
            rw [if_neg (by omega)]
        have R1 : stR u1 N days s0 := stR_eq q4 (by show (row _ 615 0 _).1 8 0 6 = _; rw [row_t (by decide)]) (by show (row _ 615 0 _).1 616 0 = _; rw [row_t (by decide)])
        have wv : ∀ t : Int32, ∃ u2, nc_Call m_X8_weigh [pO, .inl t] u1 = some (none, u2) ∧ eqO (gP 12) v u2 ∧ (∀ j, j < k → u2.1 615 0 j = v.1 615 0 j) ∧ u2.1 8 0 5 = v.1 8 0 5 ∧ stR u2 N days (wgh t (p * (N + 1) + i) s0) := fun t => by
          obtain ⟨u2, a1, a2, a3, a4, a5⟩ := sp_weigh (sum := t) hdy P1 R1
          refine ⟨u2, a1, E1.tr a2, fun j hj => ?_, ?_, a5⟩
          · rw [a3 j]
            show (row _ 615 0 _).1 615 0 j = _
            rw [row_s, upd_n (by omega), q2 j hj]
          · rw [a4]
            show (row _ 615 0 _).1 8 0 5 = _
            rw [row_t (by decide), q3]
        have D1 := DA u1 E1
        have L1 := LA u1 E1
        have k42 : u1.1 242 0 i = S (37 + i) := by
          have := (D1.2.2.2.1 i hi).1
          rw [ld] at this
          exact this
        have mm : mwi (tellS S c i) C N c 0 = if cu S c ∨ S (37 + i) = 2 then 0 else mx 0 (smo S C N c + advc S C N c i) := by
          have p2 : 2 ^ i < 2 ^ N := Nat.pow_lt_pow_right (by decide) hi
          have bi : ∀ n', n' < 32 → (bq (nI (2 ^ i)) (nI n') ↔ n' = i) := fun n' hn' => by rw [← bs_nI i (by omega)]; exact bq_bs (by omega) hn'
          rw [mwi_tell (dOK_of hl) hC hc hi hN, bs_nI i (by omega), mwi_m hkk.2.1 hN (by omega) (fun n' hn' z => by
            rw [(bi n' hn').mp z]
            exact nh) kk3 nd]
          have ew : war S N (nI (2 ^ i)) ↔ S (37 + i) = 2 := by
            constructor
            · rintro ⟨j, j1, j2, j3⟩
              rw [bi j (by omega)] at j2
              subst j2
              exact j3
            · intro z
              exact ⟨i, hi, (bi i (by omega)).mpr rfl, z⟩
          have ea : adN (advc S C N c) N (2 ^ i) = advc S C N c i := by
            have ge : ∀ n', n' ≤ N → adN (advc S C N c) n' (2 ^ i) = if i < n' then advc S C N c i else 0 := by
              intro n'
              induction n' with
              | zero => intro _; rw [if_neg (by omega)]; rfl
              | succ n' ih =>
                intro hn'
                rw [adN_s, ih (by omega)]
                unfold ads
                by_cases e : n' = i
                · subst e
                  rw [if_pos ((bi n' (by omega)).mpr rfl), if_neg (by omega), if_pos (by omega), Int32.zero_add]
                · rw [if_neg (fun z => e ((bi n' (by omega)).mp z))]
                  by_cases e2 : i < n'
                  · rw [if_pos e2, if_pos (by omega)]
                  · rw [if_neg e2, if_neg (by omega)]
            rw [ge N (Nat.le_refl _), if_pos hi]
          rw [ea]
          by_cases z : cu S c ∨ S (37 + i) = 2
          · rw [if_pos (z.elim Or.inl (fun z => Or.inr (ew.mpr z))), if_pos z]
          · rw [if_neg (fun z2 => z (z2.elim Or.inl (fun z => Or.inr (ew.mp z)))), if_neg z]
        rw [if_neg (fun z => z y), bd8 k 3 (by omega) (by decide), nc_lt_v, si_rw, bd8 i 10 (by omega) (by decide), if_pos y]
        show ∃ b, (if u1.1 242 0 i ≠ 2 then _ else _) = _ ∧ _
        rw [k42]
        by_cases y2 : S (37 + i) = 2
        · obtain ⟨u2, a1, a2, a3, a4, a5⟩ := wv (sum + 0)
          rw [if_neg (fun z => z y2), bd8 c 8 h8 (by decide)]
          show ∃ b, nc_bI (nc_Call m_X7_addedBy [lO a, .inl (nI i), .inl (hbo S C c), .inl (u1.1 554 a c)] u1) _ = _ ∧ _
          rw [sl_addedBy u1 D1 L1.1 hi, nc_bI_v, mm, if_pos (Or.inr y2)]
          refine ⟨u2, ?_, a2, a3, a4, a5⟩
          by_cases y3 : xf ≠ 0
          · rw [if_pos y3]
            show nc_bV (nc_Call m_X8_weigh [pO, .inl (sum + 0)] u1) _ = _
            rw [a1, nc_bV_v, nc_li_v, nI_1]
          · rw [if_neg y3]
            show nc_bV (nc_Call m_X8_weigh [pO, .inl (sum + 0)] u1) _ = _
            rw [a1, nc_bV_v, nc_li_v, nI_1]
        · rw [if_pos y2, bd8 c 8 h8 (by decide)]
          show ∃ b, nc_bI (nc_Call m_X7_addedBy [lO a, .inl (nI i), .inl (hbo S C c), .inl (u1.1 554 a c)] u1) _ = _ ∧ _
          rw [sl_addedBy u1 D1 L1.1 hi, nc_bI_v, mm]
          by_cases y3 : cu S c
          · obtain ⟨u2, a1, a2, a3, a4, a5⟩ := wv (sum + 0)
            rw [if_pos (hx2.mpr (Or.inr y3)), if_pos (Or.inl y3)]
            refine ⟨u2, ?_, a2, a3, a4, a5⟩
            show nc_bV (nc_Call m_X8_weigh [pO, .inl (sum + 0)] u1) _ = _
            rw [a1, nc_bV_v, nc_li_v, nI_1]
          · obtain ⟨u2, a1, a2, a3, a4, a5⟩ := wv (sum + mx 0 (smo S C N c + advc S C N c i))
            rw [if_neg (fun z => (hx2.mp z).elim nd y3), mx_max, if_neg (show ¬ (cu S c ∨ S (37 + i) = 2) from fun z => z.elim y3 y2)]
            refine ⟨u2, ?_, a2, a3, a4, a5⟩
            have e5 : adv S (hbo S C c) (u1.1 554 a c) i = advc S C N c i := by
              unfold advc
              rw [L1.2.2.2.1 c hc]
            rw [e5]
            show nc_bV (nc_Call m_X8_weigh [pO, .inl (sum + mx 0 (smo S C N c + advc S C N c i))] u1) _ = _
            rw [a1, nc_bV_v, nc_li_v, nI_1]
      · rw [if_pos y, nc_li_v, nI_1, if_neg y]
        exact ⟨u, rfl, q1, q2, q3, q4⟩
    · rintro u ⟨q1, q2, q3, q4⟩
      rw [it_succ, Nat.zero_add]
      generalize it (lsD S C N c sum p) 0 N st = s0 at q4 ⊢
      have D := DA u q1
      have e3 : u.1 2 0 3 = nI N := by
        have := D.2.1.2.2.1
        rw [ld] at this
        exact this
      let u1 : nc_H := row u 615 0 (upd (u.1 615 0) k (-1))
      have E1 : eqO (gP 12) v u1 := q1.row (Or.inl ⟨rfl, by omega⟩)
      have P1 : Pth u1 N days (p * (N + 1) + N) := by
        rw [← hk]
        refine Pth_s (Pth_eq hP q2) (fun j hj => ?_) ?_ (Nat.le_refl _)
        · show (row _ 615 0 _).1 615 0 j = _
          rw [row_s, upd_n (by omega)]
        · show (row _ 615 0 _).1 615 0 k = _
          rw [row_s, upd_s]
          unfold dg
          rw [if_pos rfl]
      have R1 : stR u1 N days s0 := stR_eq q4 (by show (row _ 615 0 _).1 8 0 6 = _; rw [row_t (by decide)]) (by show (row _ 615 0 _).1 616 0 = _; rw [row_t (by decide)])
      obtain ⟨u2, a1, a2, a3, a4, a5⟩ := sp_weigh (sum := sum + mwi S C N c 0) hdy P1 R1
      have ml := sl_milk (a := a) (w := u1) (c := c) (DA u1 E1) (LA u1 E1).1 hkk.2.1 (dOK_of hl) hc
      refine ⟨u2, ?_, E1.tr a2, fun j hj => ?_, ?_, ?_⟩
      · show nc_Run m_X8_goLast 40 _ _ u = _
        rw [qr_X8_goLast_40, e3, if_pos (nI_le (Nat.le_refl _) (by omega)), bd8 k 3 (by omega) (by decide), nc_lt_v, si_rw]
        show nc_bI (nc_Call m_X7_milk [lO a, .inl (nI c)] u1) _ = _
        rw [ml, nc_bI_v]
        show nc_bV (nc_Call m_X8_weigh [pO, .inl (sum + mwi S C N c 0)] u1) _ = _
        rw [a1, nc_bV_v]
      · rw [a3 j]
        show (row _ 615 0 _).1 615 0 j = _
        rw [row_s, upd_n (by omega), q2 j hj]
      · rw [a4]
        show (row _ 615 0 _).1 8 0 5 = _
        rw [row_t (by decide), q3]
      · unfold lsD
        rw [if_pos rfl]
        exact a5
  rw [qc_X8_goLast, sl_isDry, nc_bI_v, hL.1.1.2.1]
  by_cases q : bq (S 77) (nI c)
  · rw [if_pos (tI_ne.mpr q), z1, nc_bI_v, z3, nc_bI_v]
    exact key 1 (Or.inr rfl) ⟨fun _ => Or.inl q, fun _ => by decide⟩
  · rw [if_neg (fun z => z (tI_eq0.mpr q)), z2, nc_bI_v]
    by_cases r : cu S c
    · rw [if_neg (tI_ne.mpr r), z1, nc_bI_v, z3, nc_bI_v]
      exact key 1 (Or.inr rfl) ⟨fun _ => Or.inr r, fun _ => by decide⟩
    · rw [if_pos (tI_eq0.mpr r), z1, nc_bI_v, z3, nc_bI_v]
      exact key 0 (Or.inl rfl) ⟨fun z => absurd rfl z, fun z => z.elim (fun y => absurd y q) (fun y => absurd y r)⟩
/-- what a level of the tree does -/
def GOC (M a k r lo f C N h c days : Nat) : Prop := ∀ (v : nc_H) (S : Nat → Int32) (d : Nat) (sum : Int32) (p : Nat) (st : PS), DR v 0 S f C N h → LK v a S C N → dok S f C N h → lok S C N d → d + r ≤ 400 → v.1 8 0 5 = nI days → Pth v N k p → stR v N days st → ∃ v', nc_Call M [pO, lO a, .inl (nI c), .inl (nI k), .inl sum] v = some (none, v') ∧ eqO (gP lo) v v' ∧ (∀ j, j < k → v'.1 615 0 j = v.1 615 0 j) ∧ v'.1 8 0 5 = v.1 8 0 5 ∧ stR v' N days (gR f C N h c r S d sum p st)
theorem gP_mono {lo lo' t a : Nat} (h : lo' ≤ lo) (q : gP lo t a) : gP lo' t a := by
  unfold gP at q ⊢
  omega
theorem sp_go_2_last (hc : c < C) (hd : days = 2 + 1) : GOC m_X8_go_2 11 2 1 12 f C N h c days := by
  intro v S d sum p st hD hL hk hl hd4 h5 hP hR
  obtain ⟨v', a1, a2, a3, a4, a5⟩ := sp_goLast (a := 11) (k := 2) (sum := sum) (by omega) (by omega) (by omega) hc hD hL hk hl hP hR
  refine ⟨v', ?_, a2.mono (fun t a q => gP_mono (by omega) q), a3, a4, a5⟩
  have e : nI 2 = nI days - 1 := by
    rw [hd, nI_pred]
  rw [qc_X8_go_2, if_pos (by decide), h5, if_neg (fun q => q e)]
  show nc_bV (nc_Call m_X8_goLast [pO, lO 11, .inl (nI c), .inl (nI 2), .inl sum] v) _ = _
  rw [a1, nc_bV_v]
theorem sp_go_1_last (hc : c < C) (hd : days = 1 + 1) : GOC m_X8_go_1 10 1 1 11 f C N h c days := by
  intro v S d sum p st hD hL hk hl hd4 h5 hP hR
  obtain ⟨v', a1, a2, a3, a4, a5⟩ := sp_goLast (a := 10) (k := 1) (sum := sum) (by omega) (by omega) (by omega) hc hD hL hk hl hP hR
  refine ⟨v', ?_, a2.mono (fun t a q => gP_mono (by omega) q), a3, a4, a5⟩
  have e : nI 1 = nI days - 1 := by
    rw [hd, nI_pred]
  rw [qc_X8_go_1, if_pos (by decide), h5, if_neg (fun q => q e)]
  show nc_bV (nc_Call m_X8_goLast [pO, lO 10, .inl (nI c), .inl (nI 1), .inl sum] v) _ = _
  rw [a1, nc_bV_v]
theorem sp_go_0_last (hc : c < C) (hd : days = 0 + 1) : GOC m_X8_go_0 0 0 1 10 f C N h c days := by
  intro v S d sum p st hD hL hk hl hd4 h5 hP hR
  obtain ⟨v', a1, a2, a3, a4, a5⟩ := sp_goLast (a := 0) (k := 0) (sum := sum) (by omega) (by omega) (by omega) hc hD hL hk hl hP hR
  refine ⟨v', ?_, a2.mono (fun t a q => gP_mono (by omega) q), a3, a4, a5⟩
  have e : nI 0 = nI days - 1 := by
    rw [hd, nI_pred]
  rw [qc_X8_go_0, if_pos (by decide), h5, if_neg (fun q => q e)]
  show nc_bV (nc_Call m_X8_goLast [pO, lO 0, .inl (nI c), .inl (nI 0), .inl sum] v) _ = _
  rw [a1, nc_bV_v]
theorem sp_go_1 {r : Nat} (hc : c < C) (hd : days = 1 + 1 + r) (hr : 1 ≤ r) (hd3 : days ≤ 3) (nx : GOC m_X8_go_2 11 (1 + 1) r 12 f C N h c days) : GOC m_X8_go_1 10 1 (r + 1) 11 f C N h c days := by
  intro v S d sum p st hD hL hk hl hd4 h5 hP hR
  have hC : C ≤ 8 := hD.1.2.2.2.2.2.1
  have hN : N ≤ 10 := hD.1.2.2.2.2.2.2.1
  have pN := pow_N hN
  have h8 : c < 8 := by omega
  obtain ⟨kk, ⟨kk1, kk3⟩, kk2⟩ := hl.2.2.2 c hc
  have ne : nI 1 ≠ nI days - 1 := by
    rw [hd, show 1 + 1 + r = (1 + r) + 1 by omega, nI_pred]
    exact fun q => by
      have := (nI_eq (by omega) (by omega)).mp q
      omega
  have e : nc_Call m_X8_go_1 [pO, lO 10, .inl (nI c), .inl (nI 1), .inl sum] v = nc_Run m_X8_go_1 46 [some pO, some (lO 10), some (.inl (nI c)), some (.inl (nI 1)), some (.inl sum), some (lO 11), some (.inl (nI 0)), none, none] [] v := by
    rw [qc_X8_go_1, if_pos (by decide), h5, if_pos ne, if_pos (show nI 1 ≠ 0 by decide)]
    rfl
  rw [e]
  have eg : gR f C N h c (r + 1) S d sum p st = it (fun n st => if n = N then gR f C N h c r (dayS S d f C N h) (d + 1) (sum + mwi S C N c 0) (p * (N + 1) + n) st else if wyt S c n = 0 then gR f C N h c r (dayS (tellS S c n) d f C N h) (d + 1) (sum + mwi (tellS S c n) C N c 0) (p * (N + 1) + n) st else st) 0 (N + 1) st := rfl
  rw [eg]
  -- a day with the state T: told or not
  have day : ∀ (u : nc_H) (g : Int32) (i : Nat) (T : Nat → Int32) (s0 : PS), eqO (gP 11) v u → (∀ j, j < 1 → u.1 615 0 j = v.1 615 0 j) → u.1 8 0 5 = v.1 8 0 5 → stR u N days s0 → g = dg N i → i ≤ N → (∀ j, j < 76 → T j = S j) → lok T C N d → ∀ u3, eqO (lQ 11) (row u 615 0 (upd (u.1 615 0) 1 g)) u3 ∨ eqO (fun t a => lC 11 t a ∨ lQ 11 t a) (row u 615 0 (upd (u.1 615 0) 1 g)) u3 → LK u3 11 T C N → ∃ u4 u5 u6, nc_Call m_X7_milk [lO 11, .inl (nI c)] u3 = some (some (.inl (mwi T C N c 0)), u3) ∧ nc_Call m_X7_talk [lO 11] u3 = some (none, u4) ∧ nc_Call m_X7_turn [lO 11] u4 = some (none, u5) ∧ nc_Call m_X8_go_2 [pO, lO 11, .inl (nI c), .inl (nI 1 + 1), .inl (sum + mwi T C N c 0)] u5 = some (none, u6) ∧ eqO (gP 11) v u6 ∧ (∀ j, j < 1 → u6.1 615 0 j = v.1 615 0 j) ∧ u6.1 8 0 5 = v.1 8 0 5 ∧ stR u6 N days (gR f C N h c r (dayS T d f C N h) (d + 1) (sum + mwi T C N c 0) (p * (N + 1) + i) s0) := by
    intro u g i T s0 q1 q2 q3 q4 hg hi hT hlT u3 E3 L3
    have E3' : eqO (fun t a => lC 11 t a ∨ lQ 11 t a) (row u 615 0 (upd (u.1 615 0) 1 g)) u3 := E3.elim (fun z => z.mono (fun t a q => Or.inr q)) id
    have kT : dok T f C N h := dok_c hk hT
    have v3 : ∀ t, ¬ (t = 7 ∨ (553 ≤ t ∧ t ≤ 564)) → t ≠ 615 → u3.1 t 0 = u.1 t 0 := fun t ht h6 => by
      rw [E3'.2 t 0 (fun q => by unfold lC lQ at q; omega), row_t h6]
    have D3 : DR u3 (nc_ld 11) T f C N h := DR_eq hD (fun t ht => by show u3.1 t 0 = v.1 t 0; rw [v3 t (by omega) (by omega), q1.2 t 0 (by unfold gP; omega)]) hT
    obtain ⟨u4, u5, b1, b2, b3, b4⟩ := sl_tt D3 L3 kT hlT
    have f6 : ∀ j, u5.1 615 0 j = upd (u.1 615 0) 1 g j := fun j => by
      rw [b3.2 615 0 (fun q => by unfold lQ at q; omega), E3'.2 615 0 (fun q => by unfold lC lQ at q; omega), row_s]
    have f8 : ∀ t, t = 8 ∨ t = 616 → u5.1 t 0 = u.1 t 0 := fun t ht => by rw [b3.2 t 0 (fun q => by unfold lQ at q; omega), v3 t (by omega) (by omega)]
    have D5 : DR u5 0 (dayS T d f C N h) f C N h := DR_eq D3 (fun t ht => b3.2 t 0 (fun q => by unfold lQ at q; omega)) (fun j hj => dayS_o kT.1.2.2.2.2.1 hC (by omega))
    obtain ⟨u6, c1, c2, c3, c4, c5⟩ := nx u5 (dayS T d f C N h) (d + 1) (sum + mwi T C N c 0) (p * (N + 1) + i) s0 D5 b4 (dok_c kT (fun j hj => dayS_o kT.1.2.2.2.2.1 hC (by omega))) (lok_day hlT kT.1.2.2.2.2.1 hC hN (by omega)) (by omega) (by rw [f8 8 (by omega), q3, h5]) (Pth_s (Pth_eq hP q2) (fun j hj => by rw [f6, upd_n (by omega)]) (by rw [f6, upd_s, hg]) hi) (stR_eq q4 (by rw [f8 8 (by omega)]) (f8 616 (by omega)))
    refine ⟨u4, u5, u6, sl_milk D3 L3.1 kT.2.1 (dOK_of hlT) hc, b1, b2, ?_, ?_, fun j hj => ?_, ?_, c5⟩
    · rw [nI_1]
      exact c1
    · refine (((q1.row (Or.inl ⟨rfl, by omega⟩)).tr (E3'.mono (fun t a q => ?_))).tr (b3.mono (fun t a q => ?_))).tr (c2.mono (fun t a q => gP_mono (by omega) q))
      · unfold gP
        unfold lC lQ at q
        omega
      · unfold gP
        unfold lQ at q
        omega
    · rw [c3 j (by omega), f6, upd_n (by omega), q2 j hj]
    · rw [c4, f8 8 (by omega), q3]
  refine lp (R := fun i (u : nc_H) => nc_Run m_X8_go_1 46 [some pO, some (lO 10), some (.inl (nI c)), some (.inl (nI 1)), some (.inl sum), some (lO 11), some (.inl (nI i)), none, none] [] u) (I := fun i u => eqO (gP 11) v u ∧ (∀ j, j < 1 → u.1 615 0 j = v.1 615 0 j) ∧ u.1 8 0 5 = v.1 8 0 5 ∧ stR u N days (it (fun n st => if n = N then gR f C N h c r (dayS S d f C N h) (d + 1) (sum + mwi S C N c 0) (p * (N + 1) + n) st else if wyt S c n = 0 then gR f C N h c r (dayS (tellS S c n) d f C N h) (d + 1) (sum + mwi (tellS S c n) C N c 0) (p * (N + 1) + n) st else st) 0 i st)) (n := N + 1) (Q := fun q => ∃ v', q = some (none, v') ∧ eqO (gP 11) v v' ∧ (∀ j, j < 1 → v'.1 615 0 j = v.1 615 0 j) ∧ v'.1 8 0 5 = v.1 8 0 5 ∧ stR v' N days (it (fun n st => if n = N then gR f C N h c r (dayS S d f C N h) (d + 1) (sum + mwi S C N c 0) (p * (N + 1) + n) st else if wyt S c n = 0 then gR f C N h c r (dayS (tellS S c n) d f C N h) (d + 1) (sum + mwi (tellS S c n) C N c 0) (p * (N + 1) + n) st else st) 0 (N + 1) st)) ?_ ?_ (N + 1) 0 v (by omega) ⟨eqO.rf, fun _ _ => rfl, rfl, hR⟩
  · rintro i u hi ⟨q1, q2, q3, q4⟩
    right
    rw [it_succ, Nat.zero_add]
    generalize it (fun n st => if n = N then gR f C N h c r (dayS S d f C N h) (d + 1) (sum + mwi S C N c 0) (p * (N + 1) + n) st else if wyt S c n = 0 then gR f C N h c r (dayS (tellS S c n) d f C N h) (d + 1) (sum + mwi (tellS S c n) C N c 0) (p * (N + 1) + n) st else st) 0 i st = s0 at q4 ⊢
    have D : DR u (nc_ld 10) S f C N h := DR_eq hD (fun t ht => q1.2 t 0 (by unfold gP; omega)) (fun _ _ => rfl)
    have L : LK u 10 S C N := LK_eq hL (fun t ht => q1.2 t 10 (by unfold gP; omega))
    have e3 : u.1 2 0 3 = nI N := D.2.1.2.2.1
    show ∃ b, nc_Run m_X8_go_1 46 _ _ u = nc_Run m_X8_go_1 46 _ _ b ∧ _
    rw [qr_X8_go_1_46, e3, if_neg (nI_nlt (by omega) (by omega))]
    by_cases y : i = N
    · subst y
      rw [if_neg (fun z => z rfl), qr_X8_go_1_75, if_pos (by decide), if_neg (by decide), bd8 1 3 (by omega) (by decide), nc_lt_v, si_rw, if_pos rfl]
      obtain ⟨u3, b1, b2, b3⟩ := sl_copyFrom (w := row u 615 0 (upd (u.1 615 0) 1 (-1))) (a := 11) (b := 10) (by omega)
      have L3 : LK u3 11 S C i := LK_cp hC hN b3 (LK_eq L (fun t ht => by rw [row_t (by omega)]))
      obtain ⟨u4, u5, u6, g1, g2, g3, g4, g5, g6, g7, g8⟩ := day u (-1) i S s0 q1 q2 q3 q4 (by unfold dg; rw [if_pos rfl]) (Nat.le_refl _) (fun _ _ => rfl) hl u3 (Or.inr (b2.mono (fun t a q => Or.inl q))) L3
      rw [b1, nc_bV_v, if_pos (by decide), g1, nc_bI_v, g2, nc_bV_v, g3, nc_bV_v, g4, nc_bV_v, nc_li_v, nI_1]
      exact ⟨u6, rfl, g5, g6, g7, g8⟩
    · rw [if_pos (fun z => y ((nI_eq (by omega) (by omega)).mp z)), qr_X8_go_1_75, if_neg (fun z => z rfl), sl_whyNotTold (a := 10) u D L.1 h8 (show kk < 1024 by omega) kk2, nc_bI_v, wyt_eq (by omega) kk2, if_neg y]
      by_cases z : wyt S c i = 0
      · rw [if_neg (fun q => q z), if_pos rfl, bd8 1 3 (by omega) (by decide), nc_lt_v, si_rw, if_pos z]
        obtain ⟨u2, b1, b2, b3⟩ := sl_copyFrom (w := row u 615 0 (upd (u.1 615 0) 1 (nI i))) (a := 11) (b := 10) (by omega)
        have L2 : LK u2 11 S C N := LK_cp hC hN b3 (LK_eq L (fun t ht => by rw [row_t (by omega)]))
        have D2 : DR u2 (nc_ld 11) S f C N h := DR_eq D (fun t ht => by show u2.1 t 0 = u.1 t 0; rw [b2.2 t 0 (fun q => by unfold lC at q; omega), row_t (by omega)]) (fun _ _ => rfl)
        obtain ⟨u3, h1, h2, h3⟩ := sl_hearK D2 L2 (dOK_of hl) hk.2.2.1 hc (show i < N by omega)
        obtain ⟨u4, u5, u6, g1, g2, g3, g4, g5, g6, g7, g8⟩ := day u (nI i) i (tellS S c i) s0 q1 q2 q3 q4 (by unfold dg; rw [if_neg y]) (by omega) (fun j hj => tellS_o h8 (by omega) (by omega)) (lok_tell hl hC hN hc (by omega)) u3 (Or.inr ((b2.mono (fun t a q => Or.inl q)).tr (h2.mono (fun t a q => Or.inr q)))) h3
        rw [b1, nc_bV_v, if_neg (fun q => q rfl), h1, nc_bV_v, g1, nc_bI_v, g2, nc_bV_v, g3, nc_bV_v, g4, nc_bV_v, nc_li_v, nI_1]
        exact ⟨u6, rfl, g5, g6, g7, g8⟩
      · rw [if_pos z, nc_li_v, nI_1, if_neg z]
        exact ⟨u, rfl, q1, q2, q3, q4⟩
  · rintro u ⟨q1, q2, q3, q4⟩
    refine ⟨u, ?_, q1, q2, q3, q4⟩
    have e3 : u.1 2 0 3 = nI N := by
      rw [q1.2 2 0 (by unfold gP; omega)]
      exact hD.2.1.2.2.1
    show nc_Run m_X8_go_1 46 _ _ u = _
    rw [qr_X8_go_1_46, e3, if_pos (nI_lt (by omega) (by omega))]
theorem sp_go_0 {r : Nat} (hc : c < C) (hd : days = 0 + 1 + r) (hr : 1 ≤ r) (hd3 : days ≤ 3) (nx : GOC m_X8_go_1 10 (0 + 1) r 11 f C N h c days) : GOC m_X8_go_0 0 0 (r + 1) 10 f C N h c days := by
  intro v S d sum p st hD hL hk hl hd4 h5 hP hR
  have hC : C ≤ 8 := hD.1.2.2.2.2.2.1
  have hN : N ≤ 10 := hD.1.2.2.2.2.2.2.1
  have pN := pow_N hN
  have h8 : c < 8 := by omega
  obtain ⟨kk, ⟨kk1, kk3⟩, kk2⟩ := hl.2.2.2 c hc
  have ne : nI 0 ≠ nI days - 1 := by
    rw [hd, show 0 + 1 + r = (0 + r) + 1 by omega, nI_pred]
    exact fun q => by
      have := (nI_eq (by omega) (by omega)).mp q
      omega
  have e : nc_Call m_X8_go_0 [pO, lO 0, .inl (nI c), .inl (nI 0), .inl sum] v = nc_Run m_X8_go_0 46 [some pO, some (lO 0), some (.inl (nI c)), some (.inl (nI 0)), some (.inl sum), some (lO 10), some (.inl (nI 0)), none, none] [] v := by
    rw [qc_X8_go_0, if_pos (by decide), h5, if_pos ne, if_neg (show ¬ nI 0 ≠ 0 from fun q => q rfl)]
    rfl
  rw [e]
  have eg : gR f C N h c (r + 1) S d sum p st = it (fun n st => if n = N then gR f C N h c r (dayS S d f C N h) (d + 1) (sum + mwi S C N c 0) (p * (N + 1) + n) st else if wyt S c n = 0 then gR f C N h c r (dayS (tellS S c n) d f C N h) (d + 1) (sum + mwi (tellS S c n) C N c 0) (p * (N + 1) + n) st else st) 0 (N + 1) st := rfl
  rw [eg]
  -- a day with the state T: told or not
  have day : ∀ (u : nc_H) (g : Int32) (i : Nat) (T : Nat → Int32) (s0 : PS), eqO (gP 10) v u → (∀ j, j < 0 → u.1 615 0 j = v.1 615 0 j) → u.1 8 0 5 = v.1 8 0 5 → stR u N days s0 → g = dg N i → i ≤ N → (∀ j, j < 76 → T j = S j) → lok T C N d → ∀ u3, eqO (lQ 10) (row u 615 0 (upd (u.1 615 0) 0 g)) u3 ∨ eqO (fun t a => lC 10 t a ∨ lQ 10 t a) (row u 615 0 (upd (u.1 615 0) 0 g)) u3 → LK u3 10 T C N → ∃ u4 u5 u6, nc_Call m_X7_milk [lO 10, .inl (nI c)] u3 = some (some (.inl (mwi T C N c 0)), u3) ∧ nc_Call m_X7_talk [lO 10] u3 = some (none, u4) ∧ nc_Call m_X7_turn [lO 10] u4 = some (none, u5) ∧ nc_Call m_X8_go_1 [pO, lO 10, .inl (nI c), .inl (nI 0 + 1), .inl (sum + mwi T C N c 0)] u5 = some (none, u6) ∧ eqO (gP 10) v u6 ∧ (∀ j, j < 0 → u6.1 615 0 j = v.1 615 0 j) ∧ u6.1 8 0 5 = v.1 8 0 5 ∧ stR u6 N days (gR f C N h c r (dayS T d f C N h) (d + 1) (sum + mwi T C N c 0) (p * (N + 1) + i) s0) := by
    intro u g i T s0 q1 q2 q3 q4 hg hi hT hlT u3 E3 L3
    have E3' : eqO (fun t a => lC 10 t a ∨ lQ 10 t a) (row u 615 0 (upd (u.1 615 0) 0 g)) u3 := E3.elim (fun z => z.mono (fun t a q => Or.inr q)) id
    have kT : dok T f C N h := dok_c hk hT
    have v3 : ∀ t, ¬ (t = 7 ∨ (553 ≤ t ∧ t ≤ 564)) → t ≠ 615 → u3.1 t 0 = u.1 t 0 := fun t ht h6 => by
      rw [E3'.2 t 0 (fun q => by unfold lC lQ at q; omega), row_t h6]
    have D3 : DR u3 (nc_ld 10) T f C N h := DR_eq hD (fun t ht => by show u3.1 t 0 = v.1 t 0; rw [v3 t (by omega) (by omega), q1.2 t 0 (by unfold gP; omega)]) hT
    obtain ⟨u4, u5, b1, b2, b3, b4⟩ := sl_tt D3 L3 kT hlT
    have f6 : ∀ j, u5.1 615 0 j = upd (u.1 615 0) 0 g j := fun j => by
      rw [b3.2 615 0 (fun q => by unfold lQ at q; omega), E3'.2 615 0 (fun q => by unfold lC lQ at q; omega), row_s]
    have f8 : ∀ t, t = 8 ∨ t = 616 → u5.1 t 0 = u.1 t 0 := fun t ht => by rw [b3.2 t 0 (fun q => by unfold lQ at q; omega), v3 t (by omega) (by omega)]
    have D5 : DR u5 0 (dayS T d f C N h) f C N h := DR_eq D3 (fun t ht => b3.2 t 0 (fun q => by unfold lQ at q; omega)) (fun j hj => dayS_o kT.1.2.2.2.2.1 hC (by omega))
    obtain ⟨u6, c1, c2, c3, c4, c5⟩ := nx u5 (dayS T d f C N h) (d + 1) (sum + mwi T C N c 0) (p * (N + 1) + i) s0 D5 b4 (dok_c kT (fun j hj => dayS_o kT.1.2.2.2.2.1 hC (by omega))) (lok_day hlT kT.1.2.2.2.2.1 hC hN (by omega)) (by omega) (by rw [f8 8 (by omega), q3, h5]) (Pth_s (Pth_eq hP q2) (fun j hj => by rw [f6, upd_n (by omega)]) (by rw [f6, upd_s, hg]) hi) (stR_eq q4 (by rw [f8 8 (by omega)]) (f8 616 (by omega)))
    refine ⟨u4, u5, u6, sl_milk D3 L3.1 kT.2.1 (dOK_of hlT) hc, b1, b2, ?_, ?_, fun j hj => ?_, ?_, c5⟩
    · rw [nI_1]
      exact c1
    · refine (((q1.row (Or.inl ⟨rfl, by omega⟩)).tr (E3'.mono (fun t a q => ?_))).tr (b3.mono (fun t a q => ?_))).tr (c2.mono (fun t a q => gP_mono (by omega) q))
      · unfold gP
        unfold lC lQ at q
        omega
      · unfold gP
        unfold lQ at q
        omega
    · rw [c3 j (by omega), f6, upd_n (by omega), q2 j hj]
    · rw [c4, f8 8 (by omega), q3]
  refine lp (R := fun i (u : nc_H) => nc_Run m_X8_go_0 46 [some pO, some (lO 0), some (.inl (nI c)), some (.inl (nI 0)), some (.inl sum), some (lO 10), some (.inl (nI i)), none, none] [] u) (I := fun i u => eqO (gP 10) v u ∧ (∀ j, j < 0 → u.1 615 0 j = v.1 615 0 j) ∧ u.1 8 0 5 = v.1 8 0 5 ∧ stR u N days (it (fun n st => if n = N then gR f C N h c r (dayS S d f C N h) (d + 1) (sum + mwi S C N c 0) (p * (N + 1) + n) st else if wyt S c n = 0 then gR f C N h c r (dayS (tellS S c n) d f C N h) (d + 1) (sum + mwi (tellS S c n) C N c 0) (p * (N + 1) + n) st else st) 0 i st)) (n := N + 1) (Q := fun q => ∃ v', q = some (none, v') ∧ eqO (gP 10) v v' ∧ (∀ j, j < 0 → v'.1 615 0 j = v.1 615 0 j) ∧ v'.1 8 0 5 = v.1 8 0 5 ∧ stR v' N days (it (fun n st => if n = N then gR f C N h c r (dayS S d f C N h) (d + 1) (sum + mwi S C N c 0) (p * (N + 1) + n) st else if wyt S c n = 0 then gR f C N h c r (dayS (tellS S c n) d f C N h) (d + 1) (sum + mwi (tellS S c n) C N c 0) (p * (N + 1) + n) st else st) 0 (N + 1) st)) ?_ ?_ (N + 1) 0 v (by omega) ⟨eqO.rf, fun _ _ => rfl, rfl, hR⟩
  · rintro i u hi ⟨q1, q2, q3, q4⟩
    right
    rw [it_succ, Nat.zero_add]
    generalize it (fun n st => if n = N then gR f C N h c r (dayS S d f C N h) (d + 1) (sum + mwi S C N c 0) (p * (N + 1) + n) st else if wyt S c n = 0 then gR f C N h c r (dayS (tellS S c n) d f C N h) (d + 1) (sum + mwi (tellS S c n) C N c 0) (p * (N + 1) + n) st else st) 0 i st = s0 at q4 ⊢
    have D : DR u (nc_ld 0) S f C N h := DR_eq hD (fun t ht => q1.2 t 0 (by unfold gP; omega)) (fun _ _ => rfl)
    have L : LK u 0 S C N := LK_eq hL (fun t ht => q1.2 t 0 (by unfold gP; omega))
    have e3 : u.1 2 0 3 = nI N := D.2.1.2.2.1
    show ∃ b, nc_Run m_X8_go_0 46 _ _ u = nc_Run m_X8_go_0 46 _ _ b ∧ _
    rw [qr_X8_go_0_46, e3, if_neg (nI_nlt (by omega) (by omega))]
    by_cases y : i = N
    · subst y
      rw [if_neg (fun z => z rfl), qr_X8_go_0_75, if_pos (by decide), if_neg (by decide), bd8 0 3 (by omega) (by decide), nc_lt_v, si_rw, if_pos rfl]
      obtain ⟨u3, b1, b2, b3⟩ := sl_copyFrom (w := row u 615 0 (upd (u.1 615 0) 0 (-1))) (a := 10) (b := 0) (by omega)
      have L3 : LK u3 10 S C i := LK_cp hC hN b3 (LK_eq L (fun t ht => by rw [row_t (by omega)]))
      obtain ⟨u4, u5, u6, g1, g2, g3, g4, g5, g6, g7, g8⟩ := day u (-1) i S s0 q1 q2 q3 q4 (by unfold dg; rw [if_pos rfl]) (Nat.le_refl _) (fun _ _ => rfl) hl u3 (Or.inr (b2.mono (fun t a q => Or.inl q))) L3
      rw [b1, nc_bV_v, if_pos (by decide), g1, nc_bI_v, g2, nc_bV_v, g3, nc_bV_v, g4, nc_bV_v, nc_li_v, nI_1]
      exact ⟨u6, rfl, g5, g6, g7, g8⟩
    · rw [if_pos (fun z => y ((nI_eq (by omega) (by omega)).mp z)), qr_X8_go_0_75, if_neg (fun z => z rfl), sl_whyNotTold (a := 0) u D L.1 h8 (show kk < 1024 by omega) kk2, nc_bI_v, wyt_eq (by omega) kk2, if_neg y]
      by_cases z : wyt S c i = 0
      · rw [if_neg (fun q => q z), if_pos rfl, bd8 0 3 (by omega) (by decide), nc_lt_v, si_rw, if_pos z]
        obtain ⟨u2, b1, b2, b3⟩ := sl_copyFrom (w := row u 615 0 (upd (u.1 615 0) 0 (nI i))) (a := 10) (b := 0) (by omega)
        have L2 : LK u2 10 S C N := LK_cp hC hN b3 (LK_eq L (fun t ht => by rw [row_t (by omega)]))
        have D2 : DR u2 (nc_ld 10) S f C N h := DR_eq D (fun t ht => by show u2.1 t 0 = u.1 t 0; rw [b2.2 t 0 (fun q => by unfold lC at q; omega), row_t (by omega)]) (fun _ _ => rfl)
        obtain ⟨u3, h1, h2, h3⟩ := sl_hearK D2 L2 (dOK_of hl) hk.2.2.1 hc (show i < N by omega)
        obtain ⟨u4, u5, u6, g1, g2, g3, g4, g5, g6, g7, g8⟩ := day u (nI i) i (tellS S c i) s0 q1 q2 q3 q4 (by unfold dg; rw [if_neg y]) (by omega) (fun j hj => tellS_o h8 (by omega) (by omega)) (lok_tell hl hC hN hc (by omega)) u3 (Or.inr ((b2.mono (fun t a q => Or.inl q)).tr (h2.mono (fun t a q => Or.inr q)))) h3
        rw [b1, nc_bV_v, if_neg (fun q => q rfl), h1, nc_bV_v, g1, nc_bI_v, g2, nc_bV_v, g3, nc_bV_v, g4, nc_bV_v, nc_li_v, nI_1]
        exact ⟨u6, rfl, g5, g6, g7, g8⟩
      · rw [if_pos z, nc_li_v, nI_1, if_neg z]
        exact ⟨u, rfl, q1, q2, q3, q4⟩
  · rintro u ⟨q1, q2, q3, q4⟩
    refine ⟨u, ?_, q1, q2, q3, q4⟩
    have e3 : u.1 2 0 3 = nI N := by
      rw [q1.2 2 0 (by unfold gP; omega)]
      exact hD.2.1.2.2.1
    show nc_Run m_X8_go_0 46 _ _ u = _
    rw [qr_X8_go_0_46, e3, if_pos (nI_lt (by omega) (by omega))]
end PC
