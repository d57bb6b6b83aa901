/-! A CALL OUT OF THE LAW. -/
def lw_A (s : State) : Nat → Prop := fun q => s.heap.size ≤ q
def lw_C (p : Program) (s : State) (m : MethodId) (meth : Method) (c : Code) (b L : Nat) (xs : Nat → Int32) (D : va_G) (cA : Nat → ClassId) (ad : Nat → Nat → Nat) : Prop := lw_At p s m meth c b L xs ∧ va_K D nc_cl (nc_tys cA) s ∧ nd_Str ad (lw_A s) s s.heap
def lw_x (cA : Nat → ClassId) (q3 : Nat) (g : Nat → Int64) : va_W := [(q3, .inl (cA 3, 1, .inr (.inl g)))]
def lw_S (s : State) (D : va_G) (cA : Nat → ClassId) (ad : Nat → Nat → Nat) (q3 : Nat) (g : Nat → Int64) (w : nc_H) (H : Heap) (locs : List Loc) : Prop := va_P D nc_cl (nc_W ad cA w ++ lw_x cA q3 g) H ∧ va_D (lw_A s) (nc_W ad cA w ++ lw_x cA q3 g) ∧ va_S (lw_A s) s.heap H locs
theorem lw_l {ws ws' : va_W} {k : Nat} {q : Nat × va_E} (h : ws[k]? = some q) : (ws ++ ws')[k]? = some q := by
  rw [List.getElem?_append_left (List.getElem?_eq_some_iff.mp h).1]
  exact h
theorem lw_r {ws ws' : va_W} {k : Nat} {q : Nat × va_E} (h : ws'[k]? = some q) : (ws ++ ws')[ws.length + k]? = some q := by
  rw [List.getElem?_append_right (Nat.le_add_right _ _), Nat.add_sub_cancel_left]
  exact h
theorem lw_join {A : Nat → Prop} {D : va_G} {ws w1 wx : va_W} {H H1 : Heap} (hP : va_P D nc_cl (ws ++ wx) H) (hD : va_D A (ws ++ wx)) (hk : ∀ q : Nat, q < H.size → ¬ va_A ws H.size q → H1[q]? = H[q]?) (hF : ∀ q, va_A ws H.size q → A q) (hP1 : va_P D nc_cl w1 H1) (hD1 : va_D (va_A ws H.size) w1) : va_P D nc_cl (w1 ++ wx) H1 ∧ va_D A (w1 ++ wx) := by
  have hap : ∀ (k : Nat) (q : Nat × va_E), wx[k]? = some q → q.1 < H.size ∧ ¬ va_A ws H.size q.1 := by
    intro k q h
    have h1 := nc_at_lt (hP _ _ (lw_r (ws := ws) h))
    refine ⟨h1, fun z => ?_⟩
    rcases z with ⟨j, e, z⟩ | z
    · have e1 := hD.1 _ _ _ _ (lw_l (ws' := wx) z) (lw_r (ws := ws) h) rfl
      have := (List.getElem?_eq_some_iff.mp z).1
      omega
    · omega
  refine ⟨hP1.app (fun k q h => (hP _ _ (lw_r (ws := ws) h)).kept (hk _ (hap k q h).1 (hap k q h).2)), (hD1.weaken (fun _ q _ h => hF q.1 h)).app ⟨fun i j p q hi hj e => ?_, fun k q h => hD.2 _ _ (lw_r (ws := ws) h)⟩ (fun i j p q hi hj e => ?_)⟩
  · have := hD.1 _ _ _ _ (lw_r (ws := ws) hi) (lw_r (ws := ws) hj) e
    omega
  · exact (hap j q hj).2 (e ▸ hD1.2 i p hi)
theorem lw_many : ∀ M, M < nc_many → 64 * M ≤ 60000 ∧ M + 1 ≤ 2048 := by
  intro M h
  have h2 : nc_many ≤ 900 := by decide +kernel
  omega
theorem lw_call (l : Launch) {p : Program} {e : Env} {s : State} {m : MethodId} {below : List Frame} {meth : Method} {c : Code} {b L : Nat} {xs : Nat → Int32} {D : va_G} {cA : Nat → ClassId} {ad : Nat → Nat → Nat} (C : lw_C p s m meth c b L xs D cA ad) {M pc k q3 : Nat} {g : Nat → Int64} {o : Nat × Nat} {is : List Int32} {r : Int32} {w w' : nc_H} {H : Heap} {locs : List Loc} {cells slots : Nat} {ls : Array Slot} {rest st0 : List Value} {Q : State → Prop}
    (hc : nc_Call M (.inr (.inr o) :: is.map .inl) w = some (some (.inl r), w')) (hM : M < nc_many) (hlk : Cond.methodLink R_law k (nc_y M) ∈ nc_tb) (hi0 : (nc_mq M).1 = 0) (ho : nc_ok o = true) (ho1 : nc_own M = o.1) (hn : is.length = (nc_mq M).2) (hd : decode code pc = .ok (.invokevirtual k, 3)) (hls : ls.size = 7) (hst : st0 = (is.map Value.int).reverse ++ .ref (ad o.1 o.2) :: rest) (hrest : (rest.map fun v => v.category).sum ≤ 8) (hcs : cells ≤ 601024 ∧ slots ≤ 7293034)
    (hT : lw_S s D cA ad q3 g w H locs) (kk : ∀ (H1 : Heap) (locs1 : List Loc), lw_S s D cA ad q3 g w' H1 locs1 → W p l e room_1 s m #[Value.ref b] below meth c H1 locs1 cells slots Q (F0 m (pc + 3) ls (.int r :: rest))) : W p l e room_1 s m #[Value.ref b] below meth c H locs cells slots Q (F0 m pc ls st0) := by
  obtain ⟨⟨hx, hb, hr, hml, hown, hts, hX, hbl, hlocks, hgv⟩, hK, hStr⟩ := C
  obtain ⟨hP, hD, hS⟩ := hT
  have hts' : ∀ w ∈ nc_tb, w.before #[Value.ref b] s = true := fun w h => hts w (nc_tb_in h)
  obtain ⟨m1, m2, m3, m4, m5, m6, m7, m8, m9, m10, m11⟩ := nd_m_facts hM
  rw [if_pos hi0] at m2
  have m3 := m3.resolve_left (by omega)
  have hPc : va_P D nc_cl (nc_W ad cA w) H := fun k q h => hP k q (lw_l h)
  have hDc : va_D (lw_A s) (nc_W ad cA w) := ⟨fun i j p q h1 h2 e => hD.1 i j p q (lw_l h1) (lw_l h2) e, fun k q h => hD.2 k q (lw_l h)⟩
  have hF := nd_hF (s := s) (w := w) (fun q h => (show lw_A s q from h)) hDc hS
  have ht : o.1 < 13 := by
    rcases nd_ok_t ho with h1 | h1
    · exact h1
    · omega
  obtain ⟨t, a⟩ := o
  obtain ⟨q0, hq0, hq2⟩ := nc_W_at (ad := ad) (cA := cA) ho
  have he := hq2 w
  rw [nd_cell_o ht] at he
  have hcl : (nc_y M).cls = nc_cn t := by
    rw [m6]
    exact congrArg nc_cn ho1
  have hso : nc_Sok (.inr (.inr (t, a)) :: is.map .inl) := nc_so_c (Or.inl ho) (fun v hv => by
    obtain ⟨x, -, rfl⟩ := List.mem_map.mp hv
    trivial)
  have hcon := nd_sound l (nd_idx l) M hM _ _ _ hc hso D cA ad H.size
  have hrm := lw_many M hM
  subst hst
  have hmap : (is.map (fun x => (Sum.inl x : nc_V))).map (nc_v ad) = is.map Value.int := by
    rw [List.map_map]
    rfl
  refine va_calli (S := Unit) (post := fun y _ => y = r) (B := fun _ t => nd_B D cA ad (va_A (nc_W ad cA w) H.size) w' t) (A1 := va_A (nc_W ad cA w) H.size) (va_runV (C := (nc_y M).cls) (As := is.map Value.int) (rest := rest) ⟨hx, hb, hml, hown, hts⟩ hcon ⟨callB_of _ hts' (nd_goodIn hM) rfl rfl rfl (hts' _ m4) (hts' _ hlk) ⟨m7, m8, m9⟩ ⟨hrm.2, ?_⟩, hts' _ m2, hts' _ m3⟩ ⟨nd_blind, ?_, fun U hU hW => ⟨?_, ?_⟩⟩ rfl (by rw [List.length_map]; exact hn) hls rfl (lv_room hrest) hd ⟨hcs.1, hcs.2⟩) hS (fun q _ h => hF q h) hF (fun z u t9 H1 locs1 ht9 hvm hw hB hz1 hk1 hS1 => ?_)
  · show 8 + (nc_mL M + 11) + 64 * M ≤ 84000
    omega
  · rw [hcl]
    exact va_recv hK hPc (nd_cl_at ht) he
  · show _ = (List.map (nc_v ad) _).toArray
    rw [List.map_cons, hmap]
    rfl
  · refine ⟨by rw [hU], by rw [hU]; exact hPc, va_K.moved hW.alike hK, hDc.weaken (fun _ _ _ _ => trivial), vk_R.warm hW hStr.1, ?_, fun e he => va_Nw.warmF hW (hStr.2.2 e he)⟩
    rw [hU]
    exact ⟨vk_S.narrow (vk_S.moved hW.alike (vk_S.kept hStr.2.1.1 hS.2.1)) hF, va_Z.narrow (va_Z.moved hW.alike (va_Z.kept hStr.2.1.2 hS.2.1)) hF⟩
  · obtain ⟨hP1, hK1, hD1⟩ := hB
    rw [ht9] at hP1
    subst hw
    obtain ⟨hP2, hD2⟩ := lw_join hP hD hk1 hF hP1 hD1
    exact kk H1 locs1 ⟨hP2, hD2, hS1⟩
