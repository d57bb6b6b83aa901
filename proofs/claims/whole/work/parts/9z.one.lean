/-! A sentence: one, all, any: what they promise. -/
/-- the class's one, over what it calls -/
noncomputable def ONE (xd : Int32) (A1 A3 : nc_H → Option nc_R) (w : nc_H) : Option nc_R :=
  nc_bI (nc_Call m_X10_isSign [tO, .inl 40] w) fun r2 w1 =>
  nc_bI (nc_Call m_X10_word [tO] w1) fun r4 w3 =>
  if r2 ≠ 0 then
    if (20 : Int32) ≤ (w3.1 9 1 4) then
      nc_bI (nc_Call m_X10_fail [tO, .inl 4] w3) fun r6 w5 =>
      nc_z r6 <| some (some (.inl r6), w5)
    else
      if xd ≤ 8 then
        nc_lt (nc_si w3 9 1 4 ((w3.1 9 1 4) + 1)) fun w7 =>
        if r2 = 0 then
          if r4 ≠ 14 then
            nc_bI (nc_Call m_X9_readPlainOne [sO, tO, .inr (.inr (2, 0)), .inl r4] w7) fun r9 w8 =>
            if r9 ≠ 0 then
              nc_bV (nc_Call m_X10_next [tO] w8) fun w10 =>
              some (some (.inl 1), w10)
            else
              some (some (.inl 0), w8)
          else
            nc_bV (nc_Call m_X10_next [tO] w7) fun w11 =>
            nc_bI (A1 w11) fun r13 w12 =>
            if r13 ≠ 0 then
              nc_bV (nc_Call m_X9_put [sO, .inl 14, .inl 0, .inl 0] w12) fun w14 =>
              some (some (.inl 1), w14)
            else
              some (some (.inl 0), w12)
        else
          nc_bV (nc_Call m_X10_next [tO] w7) fun w15 =>
          nc_bI (A3 w15) fun r17 w16 =>
          if r17 = 0 then
            some (some (.inl 0), w16)
          else
            nc_bI (nc_Call m_X10_mustBeSign [tO, .inl 41] w16) fun r19 w18 =>
            if r19 ≠ 0 then
              nc_bV (nc_Call m_X10_next [tO] w18) fun w20 =>
              some (some (.inl 1), w20)
            else
              some (some (.inl 0), w18)
      else
        nc_bI (nc_Call m_X10_fail [tO, .inl 4] w3) fun r22 w21 =>
        nc_z r22 <| some (some (.inl r22), w21)
  else
    if (14 : Int32) ≤ r4 then
      if (20 : Int32) ≤ (w3.1 9 1 4) then
        nc_bI (nc_Call m_X10_fail [tO, .inl 4] w3) fun r24 w23 =>
        nc_z r24 <| some (some (.inl r24), w23)
      else
        if xd ≤ 8 then
          nc_lt (nc_si w3 9 1 4 ((w3.1 9 1 4) + 1)) fun w25 =>
          if r2 = 0 then
            if r4 ≠ 14 then
              nc_bI (nc_Call m_X9_readPlainOne [sO, tO, .inr (.inr (2, 0)), .inl r4] w25) fun r27 w26 =>
              if r27 ≠ 0 then
                nc_bV (nc_Call m_X10_next [tO] w26) fun w28 =>
                some (some (.inl 1), w28)
              else
                some (some (.inl 0), w26)
            else
              nc_bV (nc_Call m_X10_next [tO] w25) fun w29 =>
              nc_bI (A1 w29) fun r31 w30 =>
              if r31 ≠ 0 then
                nc_bV (nc_Call m_X9_put [sO, .inl 14, .inl 0, .inl 0] w30) fun w32 =>
                some (some (.inl 1), w32)
              else
                some (some (.inl 0), w30)
          else
            nc_bV (nc_Call m_X10_next [tO] w25) fun w33 =>
            nc_bI (A3 w33) fun r35 w34 =>
            if r35 = 0 then
              some (some (.inl 0), w34)
            else
              nc_bI (nc_Call m_X10_mustBeSign [tO, .inl 41] w34) fun r37 w36 =>
              if r37 ≠ 0 then
                nc_bV (nc_Call m_X10_next [tO] w36) fun w38 =>
                some (some (.inl 1), w38)
              else
                some (some (.inl 0), w36)
        else
          nc_bI (nc_Call m_X10_fail [tO, .inl 4] w3) fun r40 w39 =>
          nc_z r40 <| some (some (.inl r40), w39)
    else
      nc_bI (nc_Call m_X10_fail [tO, .inl 1] w3) fun r42 w41 =>
      nc_z r42 <| some (some (.inl r42), w41)
section SE
variable {w w' v v' : nc_H} {b : Nat → Nat} {sz lim n i : Nat} {t : Tok} {f C N T D m o dp : Nat} {bs : Nat → Int32} {A1 A3 : nc_H → Option nc_R}
abbrev isO (t : Tok) : Prop := t.1 = 5 ∧ t.2.2.2.1 = 40
theorem isO_w (h : isO t) : wq t = 24 := if_neg (by omega)
theorem le14 {k : Nat} (hk : k < 24) : ((14 : Int32) ≤ nI k) ↔ 14 ≤ k := nI_le_iff (a := 14) (by omega) (by omega)
theorem ge20 {o : Nat} (ho : o ≤ 20) : ((20 : Int32) ≤ nI o) ↔ o = 20 := by
  rw [show (20 : Int32) = nI 20 from rfl, nI_leI (by omega) (by omega)]
  omega
theorem le8 {D : Nat} (hD : D ≤ 9) : (nI D ≤ (8 : Int32)) ↔ D ≤ 8 := nI_le_iff (b := 8) (by omega) (by omega)
theorem one_bad (hT : CT w t) (hk : tkk sz lim t) (hq : ¬ isO t) (h2 : ¬ (14 ≤ wq t ∧ wq t < 24)) {xd : Int32} : ONE xd A1 A3 w = nc_bI (nc_Call m_X10_fail [tO, .inl 1] w) fun r42 w41 => nc_z r42 <| some (some (.inl r42), w41) := by
  have e : ¬ (14 : Int32) ≤ (if wq t < 24 then nI (wq t) else -1) := by
    by_cases q : wq t < 24
    · rw [if_pos q, le14 q]
      omega
    · rw [if_neg q]
      decide
  unfold ONE
  rw [show (40 : Int32) = nI 40 from rfl, sa_isSign hT hk (by decide), nc_bI_v, sa_word hT hk, nc_bI_v, tI_f hq, if_neg (fun z => z rfl), if_neg e]
theorem one_full (hT : CT w t) (hk : tkk sz lim t) (hq : isO t ∨ (14 ≤ wq t ∧ wq t < 24)) (ho : w.1 9 1 4 = nI o) (ho2 : o ≤ 20) (hD : D ≤ 9) (hf : o = 20 ∨ D = 9) : ONE (nI D) A1 A3 w = nc_bI (nc_Call m_X10_fail [tO, .inl 4] w) fun r42 w41 => nc_z r42 <| some (some (.inl r42), w41) := by
  unfold ONE
  rw [show (40 : Int32) = nI 40 from rfl, sa_isSign hT hk (by decide), nc_bI_v, sa_word hT hk, nc_bI_v, ho]
  by_cases q : isO t
  · rw [tI_t q, if_pos (by decide)]
    by_cases q2 : o = 20
    · rw [if_pos ((ge20 ho2).mpr q2)]
    · rw [if_neg (fun z => q2 ((ge20 ho2).mp z)), if_neg (fun z => by have := (le8 hD).mp z; omega)]
  · have q3 := hq.resolve_left q
    rw [tI_f q, if_neg (fun z => z rfl), if_pos (by rw [if_pos q3.2, le14 q3.2]; exact q3.1)]
    by_cases q2 : o = 20
    · rw [if_pos ((ge20 ho2).mpr q2)]
    · rw [if_neg (fun z => q2 ((ge20 ho2).mp z)), if_neg (fun z => by have := (le8 hD).mp z; omega)]
theorem one_open (hT : CT w t) (hk : tkk sz lim t) (hq : isO t) (ho : w.1 9 1 4 = nI o) (ho2 : o < 20) (hD : D ≤ 8) : ONE (nI D) A1 A3 w = nc_bV (nc_Call m_X10_next [tO] (nc_si w 9 1 4 (nI (o + 1)))) fun w33 =>
            nc_bI (A3 w33) fun r35 w34 =>
            if r35 = 0 then
              some (some (.inl 0), w34)
            else
              nc_bI (nc_Call m_X10_mustBeSign [tO, .inl 41] w34) fun r37 w36 =>
              if r37 ≠ 0 then
                nc_bV (nc_Call m_X10_next [tO] w36) fun w38 =>
                some (some (.inl 1), w38)
              else
                some (some (.inl 0), w36) := by
  unfold ONE
  rw [show (40 : Int32) = nI 40 from rfl, sa_isSign hT hk (by decide), nc_bI_v, sa_word hT hk, nc_bI_v, ho, tI_t hq, if_pos (by decide), if_neg (fun z => by have := (ge20 (by omega)).mp z; omega), if_pos ((le8 (by omega)).mpr hD), nc_lt_v, if_neg (by decide), nI_1]
theorem one_not (hT : CT w t) (hk : tkk sz lim t) (hq : wq t = 14) (ho : w.1 9 1 4 = nI o) (ho2 : o < 20) (hD : D ≤ 8) : ONE (nI D) A1 A3 w = nc_bV (nc_Call m_X10_next [tO] (nc_si w 9 1 4 (nI (o + 1)))) fun w29 =>
              nc_bI (A1 w29) fun r31 w30 =>
              if r31 ≠ 0 then
                nc_bV (nc_Call m_X9_put [sO, .inl 14, .inl 0, .inl 0] w30) fun w32 =>
                some (some (.inl 1), w32)
              else
                some (some (.inl 0), w30) := by
  have q : ¬ isO t := fun z => by have := isO_w z; omega
  unfold ONE
  rw [show (40 : Int32) = nI 40 from rfl, sa_isSign hT hk (by decide), nc_bI_v, sa_word hT hk, nc_bI_v, ho, tI_f q, if_neg (fun z => z rfl), wqy t (j := 14) (by decide) hq, if_pos (by decide), if_neg (fun z => by have := (ge20 (by omega)).mp z; omega), if_pos ((le8 (by omega)).mpr hD), nc_lt_v, if_pos rfl, if_neg (fun z => z rfl), nI_1]
theorem one_leaf {k : Nat} (hT : CT w t) (hk : tkk sz lim t) (hk9 : k < 9) (hq : wq t = 15 + k) (ho : w.1 9 1 4 = nI o) (ho2 : o < 20) (hD : D ≤ 8) : ONE (nI D) A1 A3 w = PLN (nI (15 + k)) (nc_si w 9 1 4 (nI (o + 1))) := by
  have q : ¬ isO t := fun z => by have := isO_w z; omega
  have n14 : nI (15 + k) ≠ 14 := fun e => by have := (nI_lit (k := 15 + k) (by omega) 14 (by decide)).mp e; omega
  unfold ONE PLN
  rw [show (40 : Int32) = nI 40 from rfl, sa_isSign hT hk (by decide), nc_bI_v, sa_word hT hk, nc_bI_v, ho, tI_f q, if_neg (fun z => z rfl), wqy t (j := 15 + k) (by omega) hq, if_pos ((le14 (by omega)).mpr (by omega)), if_neg (fun z => by have := (ge20 (by omega)).mp z; omega), if_pos ((le8 (by omega)).mpr hD), nc_lt_v, if_pos rfl, if_pos n14, nI_1]
/-- the model's operand -/
theorem opd_bad (hT : MT v t) (hk : tkk sz lim t) (hq : ¬ isO t) (h2 : ¬ (14 ≤ wq t ∧ wq t < 24)) : nc_Call m_X12_operand [mO] v = nc_bI (nc_Call m_X12_bad [mO, .inl 1] v) fun r8 w7 => nc_z r8 <| some (some (.inl r8), w7) := by
  rw [qc_X12_operand, wl_14, sm_wq (by decide) hT hk, nc_bI_v, show (40 : Int32) = nI 40 from rfl, sm_isSign hT hk (by decide), nc_bI_v, sm_leafOf hT hk, nc_bI_v, tI_f (by omega), if_neg (fun z => z rfl), tI_f hq, if_neg (fun z => z rfl), if_neg (show ¬ (0 : Int32) ≤ lf t by unfold lf; rw [if_neg (by omega)]; decide)]
theorem opd_38 (hT : MT v t) (hk : tkk sz lim t) (hq : isO t ∨ (14 ≤ wq t ∧ wq t < 24)) : nc_Call m_X12_operand [mO] v = nc_Run m_X12_operand 38 [some mO, some (.inl (tI (wq t = 14))), some (.inl (tI (isO t))), some (.inl (lf t)), none] [] v := by
  rw [qc_X12_operand, wl_14, sm_wq (by decide) hT hk, nc_bI_v, show (40 : Int32) = nI 40 from rfl, sm_isSign hT hk (by decide), nc_bI_v, sm_leafOf hT hk, nc_bI_v]
  by_cases q1 : wq t = 14
  · rw [if_pos (by rw [tI_t q1]; decide)]
  · rw [if_neg (by rw [tI_f q1]; exact fun z => z rfl)]
    by_cases q2 : isO t
    · rw [if_pos (by rw [tI_t q2]; decide)]
    · have q3 := hq.resolve_left q2
      rw [if_neg (by rw [tI_f q2]; exact fun z => z rfl), if_pos (show (0 : Int32) ≤ lf t by unfold lf; rw [if_pos (by omega)]; exact nI_pos' (by omega))]
theorem opd_full {x y z : Int32} (h41 : v.1 12 0 41 = nI o) (h43 : v.1 12 0 43 = nI D) (ho2 : o ≤ 20) (hD : D ≤ 9) (hf : o = 20 ∨ D = 9) : nc_Run m_X12_operand 38 [some mO, some (.inl x), some (.inl y), some (.inl z), none] [] v = nc_bI (nc_Call m_X12_bad [mO, .inl 4] v) fun r8 w7 => nc_z r8 <| some (some (.inl r8), w7) := by
  have e : nI o = (20 : Int32) ↔ o = 20 := nI_lit (by omega) 20 (by decide)
  rw [qr_X12_operand_38, h41, h43]
  by_cases q : o = 20
  · rw [if_pos (e.mpr q)]
  · rw [if_neg (fun z => q (e.mp z)), if_neg (fun z => by have := (le8 hD).mp z; omega)]
/-- the heap with one more on the stack -/
def vPu (v : nc_H) (T D : Nat) (x : Int32) : nc_H := nc_si (nc_si (nc_si v 907 0 T x) 12 0 42 (nI (T + 1))) 12 0 43 (nI (D + 1))
theorem opd_not {z : Int32} {v4 : nc_H} (p q : Prop) [Decidable p] [Decidable q] (hpq : p ∨ q) (hx : ¬ (p ∧ q)) (h41 : v.1 12 0 41 = nI o) (h43 : v.1 12 0 43 = nI D) (ho2 : o < 20) (hD : D ≤ 8) (hn : nc_Call m_X12_next [mO] (nc_si v 12 0 41 (nI (o + 1))) = some (none, v4)) (h42 : v4.1 12 0 42 = nI T) (hT : T < 45) (h43' : v4.1 12 0 43 = nI D) : nc_Run m_X12_operand 38 [some mO, some (.inl (tI p)), some (.inl (tI q)), some (.inl z), none] [] v = some (some (.inl 1), vPu v4 T D (if p then 20 else 23)) := by
  have e : ¬ nI o = (20 : Int32) := fun z => by have := (nI_lit (k := o) (by omega) 20 (by decide)).mp z; omega
  have s1 : ∀ x, (nc_si v4 907 0 T x).1 12 0 42 = nI T := fun x => by rw [si_t (by decide)]; exact h42
  have s2 : ∀ x, (nc_si (nc_si v4 907 0 T x) 12 0 42 (nI (T + 1))).1 12 0 43 = nI D := fun x => by rw [si_k (by decide), si_t (by decide)]; exact h43'
  rw [qr_X12_operand_38, h41, h43, if_neg e, if_pos ((le8 (by omega)).mpr hD), nc_lt_v, nI_1, hn, nc_bV_v]
  by_cases a : p
  · rw [tI_t a, if_pos (by decide), if_neg (by decide), h42, bd8 T 45 hT (by decide), nc_lt_v, s1, nc_lt_v, nI_1, s2, nc_lt_v, nI_1, if_pos a]
    rfl
  · have c := hpq.resolve_left a
    rw [tI_f a, if_neg (fun z => z rfl), tI_t c, if_neg (by decide), if_pos rfl, h42, bd8 T 45 hT (by decide), nc_lt_v, s1, nc_lt_v, nI_1, s2, nc_lt_v, nI_1, if_neg a]
    rfl
theorem opd_leaf {z : Int32} {v4 : nc_H} (h41 : v.1 12 0 41 = nI o) (h43 : v.1 12 0 43 = nI D) (ho2 : o < 20) (hD : D ≤ 8) (hn : nc_Call m_X12_next [mO] (nc_si v 12 0 41 (nI (o + 1))) = some (none, v4)) : nc_Run m_X12_operand 38 [some mO, some (.inl 0), some (.inl 0), some (.inl z), none] [] v = MLF z v4 := by
  have e : ¬ nI o = (20 : Int32) := fun z => by have := (nI_lit (k := o) (by omega) 20 (by decide)).mp z; omega
  unfold MLF
  rw [qr_X12_operand_38, h41, h43, if_neg e, if_pos ((le8 (by omega)).mpr hD), nc_lt_v, nI_1, hn, nc_bV_v, if_neg (fun z => z rfl), if_pos rfl, nc_lt_v, nc_lt_v]
  by_cases q : z ≠ 2
  · simp only [if_pos q]
  · simp only [if_neg q]
end SE
