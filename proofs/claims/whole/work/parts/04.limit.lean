/-! RUNS WITHOUT FUEL. What a step gives, it gives by what comes behind it at ONE place (nc_P); so the runs with fuel have a limit, nc_Run, which keeps the step's equation. -/
def nc_P (F : nc_K → Option nc_R) : Prop := ∀ (κ : nc_K) (r : nc_R), F κ = some r → (∀ κ', F κ' = some r) ∨ ∃ pc ls st w, κ pc ls st w = some r ∧ ∀ κ' : nc_K, κ' pc ls st w = some r → F κ' = some r
theorem nc_P_none : nc_P (fun _ => none) := fun _ _ h => by cases h
theorem nc_P_ret (r : Option nc_R) : nc_P (fun _ => r) := fun _ _ h => Or.inl (fun _ => h)
theorem nc_P_at (pc : Nat) (ls : nc_L) (st : List nc_V) (w : nc_H) : nc_P (fun κ => κ pc ls st w) := fun _ _ h => Or.inr ⟨pc, ls, st, w, h, fun _ h' => h'⟩
theorem nc_P_ite {c : Prop} [Decidable c] {F G : nc_K → Option nc_R} (hF : nc_P F) (hG : nc_P G) : nc_P (fun κ => if c then F κ else G κ) := by
  by_cases h : c
  · simpa only [h, if_true] using hF
  · simpa only [h, if_false] using hG
theorem nc_P_cond {c : Bool} {F G : nc_K → Option nc_R} (hF : nc_P F) (hG : nc_P G) : nc_P (fun κ => cond c (F κ) (G κ)) := by
  cases c
  · exact hG
  · exact hF
theorem nc_P_bd {i : Int32} {n : Nat} {F : Nat → nc_K → Option nc_R} (h : ∀ j, nc_P (F j)) : nc_P (fun κ => nc_bd i n (fun j => F j κ)) := nc_P_ite nc_P_none (h _)
theorem nc_P_z {x : Int32} {F : nc_K → Option nc_R} (h : nc_P F) : nc_P (fun κ => nc_z x (F κ)) := nc_P_ite h nc_P_none
theorem nc_P_bI {x : Option nc_R} {F : Int32 → nc_H → nc_K → Option nc_R} (h : ∀ r w, nc_P (F r w)) : nc_P (fun κ => nc_bI x (fun r w => F r w κ)) := by
  rcases x with _ | ⟨_ | (r | (r | r)), w⟩
  · exact nc_P_none
  · exact nc_P_none
  · exact h r w
  · exact nc_P_none
  · exact nc_P_none
theorem nc_P_bL {x : Option nc_R} {F : Int64 → nc_H → nc_K → Option nc_R} (h : ∀ r w, nc_P (F r w)) : nc_P (fun κ => nc_bL x (fun r w => F r w κ)) := by
  rcases x with _ | ⟨_ | (r | (r | r)), w⟩
  · exact nc_P_none
  · exact nc_P_none
  · exact nc_P_none
  · exact h r w
  · exact nc_P_none
theorem nc_P_bV {x : Option nc_R} {F : nc_H → nc_K → Option nc_R} (h : ∀ w, nc_P (F w)) : nc_P (fun κ => nc_bV x (fun w => F w κ)) := by
  rcases x with _ | ⟨_ | (r | (r | r)), w⟩
  · exact nc_P_none
  · exact h w
  · exact nc_P_none
  · exact nc_P_none
  · exact nc_P_none
theorem nc_P_jmp {pc : Nat} {off : Int} {F : Nat → nc_K → Option nc_R} (h : ∀ t, nc_P (F t)) : nc_P (fun κ => nc_jmp pc off (fun t => F t κ)) := by
  unfold nc_jmp
  split
  · exact h _
  · exact nc_P_none
theorem nc_P_if {c : ClassFile.Cond} {x y : Int32} {F G : nc_K → Option nc_R} (hF : nc_P F) (hG : nc_P G) : nc_P (fun κ => nc_if c x y (F κ) (G κ)) := by
  cases c <;> exact nc_P_ite hF hG
theorem nc_P_sw {pc : Nat} {x : Int32} {d : Int} {F : Nat → nc_K → Option nc_R} (h : ∀ t, nc_P (F t)) : ∀ (l : List Int) (k : Int), nc_P (fun κ => nc_sw pc x d (fun t => F t κ) k l)
  | [], _ => nc_P_jmp h
  | o :: os, k => nc_P_ite (nc_P_jmp h) (nc_P_sw h os (k + 1))
theorem nc_P_ans {rk : Nat} {x : Option nc_R} {rest : List nc_V} {F : List nc_V → nc_H → nc_K → Option nc_R} (h : ∀ st w, nc_P (F st w)) : nc_P (fun κ => nc_ans rk x rest (fun st w => F st w κ)) := by
  unfold nc_ans
  split
  · exact nc_P_bV (fun w => h _ w)
  · exact nc_P_bL (fun r w => h _ w)
  · exact nc_P_bI (fun r w => h _ w)
theorem nc_P_copy {w : nc_H} {t0 a0 : Nat} {sp : Int32} {t a : Nat} {dp n : Int32} {F : nc_H → nc_K → Option nc_R} (h : ∀ w, nc_P (F w)) : nc_P (fun κ => nc_copy w t0 a0 sp t a dp n (fun w => F w κ)) :=
  nc_P_ite nc_P_none (nc_P_cond (h _) (nc_P_cond (h _) nc_P_none))
theorem nc_P_inS {call : Nat → List nc_V → nc_H → Option nc_R} {M : Nat} {q : Nat × Nat × Nat} {st : List nc_V} {w : nc_H} {F : List nc_V → nc_H → nc_K → Option nc_R} (h : ∀ st w, nc_P (F st w)) : nc_P (fun κ => nc_inS call M q st w (fun st w => F st w κ)) := by
  unfold nc_inS
  split
  · exact nc_P_cond (h _ _) nc_P_none
  · exact nc_P_cond (h _ _) nc_P_none
  · exact nc_P_cond (h _ _) nc_P_none
  · exact nc_P_cond (nc_P_copy (fun w => h _ w)) nc_P_none
  · exact nc_P_cond (nc_P_ans h) nc_P_none
  · exact nc_P_none
theorem nc_P_inV {call : Nat → List nc_V → nc_H → Option nc_R} {M : Nat} {q : Nat × Nat × Nat} {st : List nc_V} {w : nc_H} {F : List nc_V → nc_H → nc_K → Option nc_R} (h : ∀ st w, nc_P (F st w)) : nc_P (fun κ => nc_inV call M q st w (fun st w => F st w κ)) := by
  unfold nc_inV
  refine nc_P_cond ?_ ?_
  · split
    · exact nc_P_cond (nc_P_ans h) nc_P_none
    · exact nc_P_none
  · split
    · exact nc_P_cond (h _ _) nc_P_none
    · exact nc_P_none
theorem nc_P_getf {t k a : Nat} {r : List nc_V} {w : nc_H} {F : List nc_V → nc_K → Option nc_R} (h : ∀ st, nc_P (F st)) : nc_P (fun κ => nc_getf t k a r w (fun st => F st κ)) := by
  unfold nc_getf
  split <;> first | exact h _ | exact nc_P_none
theorem nc_P_putf {t k a : Nat} {v : nc_V} {w : nc_H} {F : nc_H → nc_K → Option nc_R} (h : ∀ w, nc_P (F w)) : nc_P (fun κ => nc_putf t k a v w (fun w => F w κ)) := by
  unfold nc_putf
  split <;> first | exact h _ | exact nc_P_z (h _) | exact nc_P_none
set_option maxHeartbeats 4000000 in
theorem nc_P_ex {call : Nat → List nc_V → nc_H → Option nc_R} {M : Nat} {i : Instr} {pc : Nat} {ls : nc_L} {st : List nc_V} {w : nc_H} : nc_P (fun κ => nc_ex call M i pc ls st w κ) := by
  unfold nc_ex
  split <;> first
    | exact nc_P_at _ _ _ _
    | exact nc_P_none
    | exact nc_P_inS (fun _ _ => nc_P_at _ _ _ _)
    | exact nc_P_inV (fun _ _ => nc_P_at _ _ _ _)
    | exact nc_P_jmp (fun _ => nc_P_at _ _ _ _)
    | (split <;> first
      | exact nc_P_at _ _ _ _
      | exact nc_P_none
      | exact nc_P_ite nc_P_none (nc_P_at _ _ _ _)
      | exact nc_P_cond (nc_P_at _ _ _ _) nc_P_none
      | exact nc_P_if (nc_P_jmp (fun _ => nc_P_at _ _ _ _)) (nc_P_at _ _ _ _)
      | exact nc_P_jmp (fun _ => nc_P_at _ _ _ _)
      | exact nc_P_cond (nc_P_sw (fun _ => nc_P_at _ _ _ _) _ _) nc_P_none
      | exact nc_P_cond (nc_P_getf (fun _ => nc_P_at _ _ _ _)) nc_P_none
      | exact nc_P_cond (nc_P_putf (fun _ => nc_P_at _ _ _ _)) nc_P_none
      | exact nc_P_cond (nc_P_bd (fun _ => nc_P_at _ _ _ _)) nc_P_none
      | exact nc_P_cond (nc_P_bd (fun _ => nc_P_at _ _ _ _)) (nc_P_cond (nc_P_bd (fun _ => nc_P_z (nc_P_at _ _ _ _))) nc_P_none)
      | exact nc_P_cond (nc_P_ret _) (nc_P_cond (nc_P_z (nc_P_ret _)) nc_P_none)
      | exact nc_P_cond (nc_P_ret _) nc_P_none)
theorem nc_P_trim {M : Nat} {F : nc_K → Option nc_R} (h : nc_P F) : nc_P (fun κ => F (fun pc' ls' st' w' => κ pc' (nc_trim M pc' ls') st' w')) := by
  intro κ r hr
  rcases h _ r hr with h1 | ⟨pc, ls, st, w, h1, h2⟩
  · exact Or.inl (fun κ' => h1 _)
  · exact Or.inr ⟨pc, nc_trim M pc ls, st, w, h1, fun κ' h' => h2 _ h'⟩
theorem nc_P_step {call : Nat → List nc_V → nc_H → Option nc_R} {M pc : Nat} {ls : nc_L} {st : List nc_V} {w : nc_H} : nc_P (fun κ => nc_step call M pc ls st w κ) := by
  unfold nc_step
  split
  · exact nc_P_trim nc_P_ex
  · exact nc_P_none
theorem nc_go_succ {call : Nat → List nc_V → nc_H → Option nc_R} {M : Nat} : ∀ (n pc : Nat) (ls : nc_L) (st : List nc_V) (w : nc_H) (r : nc_R), nc_go call M n pc ls st w = some r → nc_go call M (n + 1) pc ls st w = some r
  | 0, _, _, _, _, _, h => by cases h
  | n + 1, pc, ls, st, w, r, h => by
    rcases nc_P_step _ r h with h1 | ⟨a, b, c, d, h1, h2⟩
    · exact h1 _
    · exact h2 _ (nc_go_succ n a b c d r h1)
theorem nc_go_le {call : Nat → List nc_V → nc_H → Option nc_R} {M n pc : Nat} {ls : nc_L} {st : List nc_V} {w : nc_H} {r : nc_R} (h : nc_go call M n pc ls st w = some r) : ∀ k, nc_go call M (n + k) pc ls st w = some r
  | 0 => h
  | k + 1 => nc_go_succ _ _ _ _ _ _ (nc_go_le h k)
/-- the limit -/
noncomputable def nc_lim (call : Nat → List nc_V → nc_H → Option nc_R) (M : Nat) : nc_K := fun pc ls st w =>
  @dite (Option nc_R) (∃ r, ∃ n, nc_go call M n pc ls st w = some r) (Classical.propDecidable _) (fun h => some (Classical.choose h)) (fun _ => none)
theorem nc_lim_iff {call : Nat → List nc_V → nc_H → Option nc_R} {M pc : Nat} {ls : nc_L} {st : List nc_V} {w : nc_H} {r : nc_R} : nc_lim call M pc ls st w = some r ↔ ∃ n, nc_go call M n pc ls st w = some r := by
  unfold nc_lim
  constructor
  · intro h
    split at h
    next hx =>
      cases h
      exact Classical.choose_spec hx
    next => cases h
  · rintro ⟨n, hn⟩
    have hx : ∃ r, ∃ n, nc_go call M n pc ls st w = some r := ⟨r, n, hn⟩
    rw [dif_pos hx]
    obtain ⟨k, hk⟩ := Classical.choose_spec hx
    have h1 := nc_go_le hn k
    have h2 := nc_go_le hk n
    rw [Nat.add_comm] at h2
    rw [h1] at h2
    exact h2.symm
theorem nc_lim_step {call : Nat → List nc_V → nc_H → Option nc_R} {M pc : Nat} {ls : nc_L} {st : List nc_V} {w : nc_H} : nc_lim call M pc ls st w = nc_step call M pc ls st w (nc_lim call M) := by
  have key : ∀ r, nc_lim call M pc ls st w = some r ↔ nc_step call M pc ls st w (nc_lim call M) = some r := by
    intro r
    constructor
    · intro h
      obtain ⟨n, hn⟩ := nc_lim_iff.mp h
      cases n with
      | zero => cases hn
      | succ n =>
        rcases nc_P_step _ r hn with h1 | ⟨a, b, c, d, h1, h2⟩
        · exact h1 _
        · exact h2 _ (nc_lim_iff.mpr ⟨n, h1⟩)
    · intro h
      rcases nc_P_step _ r h with h1 | ⟨a, b, c, d, h1, h2⟩
      · exact nc_lim_iff.mpr ⟨1, h1 _⟩
      · obtain ⟨n, hn⟩ := nc_lim_iff.mp h1
        exact nc_lim_iff.mpr ⟨n + 1, h2 _ hn⟩
  rcases h1 : nc_lim call M pc ls st w with _ | r
  · rcases h2 : nc_step call M pc ls st w (nc_lim call M) with _ | r
    · rfl
    · rw [(key r).mpr h2] at h1
      cases h1
  · exact ((key r).mp h1).symm
/-! calls: a method calls those that stand ahead of it -/
noncomputable def nc_calls : Nat → Nat → List nc_V → nc_H → Option nc_R
  | 0 => fun _ _ _ => none
  | d + 1 => fun M args w => if M = d then (if (nc_args args).length ≤ nc_mL M then nc_lim (nc_calls d) M 0 (nc_pad (nc_mL M) (nc_args args)) [] w else none) else nc_calls d M args w
/-- what a call of method M gives -/
noncomputable def nc_Call (M : Nat) (args : List nc_V) (w : nc_H) : Option nc_R := nc_calls (M + 1) M args w
theorem nc_calls_lt {M : Nat} : ∀ {d : Nat}, M < d → nc_calls d M = nc_Call M
  | 0, h => absurd h (Nat.not_lt_zero _)
  | d + 1, h => by
    by_cases e : M = d
    · subst e
      rfl
    · have h1 : nc_calls (d + 1) M = nc_calls d M := by
        funext args w
        simp only [nc_calls]
        rw [if_neg e]
      rw [h1]
      exact nc_calls_lt (by omega)
theorem nc_calls_ge {M : Nat} : ∀ {d : Nat}, d ≤ M → nc_calls d M = fun _ _ => none
  | 0, _ => rfl
  | d + 1, h => by
    have h1 : nc_calls (d + 1) M = nc_calls d M := by
      funext args w
      simp only [nc_calls]
      rw [if_neg (by omega)]
    rw [h1]
    exact nc_calls_ge (by omega)
noncomputable def nc_callB (d M : Nat) (args : List nc_V) (w : nc_H) : Option nc_R := cond (Nat.blt M d) (nc_Call M args w) none
theorem nc_calls_B (d : Nat) : nc_calls d = nc_callB d := by
  funext M args w
  unfold nc_callB
  rcases h : Nat.blt M d with _ | _
  · have h1 : d ≤ M := Nat.le_of_not_lt (fun q => by
      have := Nat.blt_eq.mpr q
      rw [h] at this
      cases this)
    rw [nc_calls_ge h1]
    rfl
  · rw [nc_calls_lt (Nat.blt_eq.mp h)]
    rfl
/-- method M, from a place of its code on -/
noncomputable def nc_Run (M : Nat) : nc_K := nc_lim (nc_callB M) M
theorem nc_Run_step (M pc : Nat) (ls : nc_L) (st : List nc_V) (w : nc_H) : nc_Run M pc ls st w = nc_step (nc_callB M) M pc ls st w (nc_Run M) := nc_lim_step
theorem nc_Call_eq (M : Nat) (args : List nc_V) (w : nc_H) : nc_Call M args w = if (nc_args args).length ≤ nc_mL M then nc_Run M 0 (nc_pad (nc_mL M) (nc_args args)) [] w else none := by
  show nc_calls (M + 1) M args w = _
  simp only [nc_calls, if_true, nc_calls_B]
  rfl
/-- k steps at most, up to the places that stand in 'stops' -/
noncomputable def nc_un (stops : List Nat) (M : Nat) (k : Nat) : nc_K :=
  Nat.rec (motive := fun _ => nc_K) (nc_Run M) (fun _ ih pc ls st w => nc_step (nc_callB M) M pc ls st w (fun pc' ls' st' w' => cond (stops.any (Nat.beq pc')) (nc_Run M pc' ls' st' w') (ih pc' ls' st' w'))) k
theorem nc_un_eq (stops : List Nat) (M : Nat) : ∀ k, nc_un stops M k = nc_Run M
  | 0 => rfl
  | k + 1 => by
    funext pc ls st w
    show nc_step (nc_callB M) M pc ls st w (fun pc' ls' st' w' => cond (stops.any (Nat.beq pc')) (nc_Run M pc' ls' st' w') (nc_un stops M k pc' ls' st' w')) = _
    rw [nc_un_eq stops M k, nc_Run_step]
    congr 1
    funext pc' ls' st' w'
    cases stops.any (Nat.beq pc') <;> rfl
theorem nc_Run_un (stops : List Nat) (k : Nat) {M pc : Nat} {ls : nc_L} {st : List nc_V} {w : nc_H} : nc_Run M pc ls st w = nc_un stops M k pc ls st w := by rw [nc_un_eq]
