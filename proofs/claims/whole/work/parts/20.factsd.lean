def nc_idx : MethodName := ⟨"java/lang/String", "indexOf", "(I)I"⟩
def nc_cy (kind M : Nat) : MethodName := match kind with
  | 2 => Lib.Math.max.name
  | 3 => Lib.Math.min.name
  | 4 => Lib.Math.abs.name
  | 5 => arraycopyName
  | 6 => nc_idx
  | _ => nc_y M
def nc_IF (M : Nat) : Prop := ∀ e ∈ nc_inv M, Cond.methodLink (nc_cn (nc_own M)) e.1 (nc_cy e.2.1 e.2.2.1) ∈ nc_tb ∧ (Nat.ble 1 M && (Nat.ble 2 e.2.1 || (Nat.beq e.2.1 (nc_mq e.2.2.1).1 && (Nat.beq e.2.2.2 (nc_mq e.2.2.1).2 && Nat.blt e.2.2.1 nc_many)))) = true
set_option maxRecDepth 100000 in
theorem nc_if_0 : nc_IF 0 := fun _ h => absurd h List.not_mem_nil
set_option maxRecDepth 100000 in
theorem nc_if_1 : nc_IF 1 := fun _ h => absurd h List.not_mem_nil
set_option maxRecDepth 100000 in
theorem nc_if_2 : nc_IF 2 := fun _ h => absurd h List.not_mem_nil
set_option maxRecDepth 100000 in
theorem nc_if_3 : nc_IF 3 := fun _ h => absurd h List.not_mem_nil
set_option maxRecDepth 100000 in
theorem nc_if_4 : nc_IF 4 := fun _ h => absurd h List.not_mem_nil
set_option maxRecDepth 100000 in
theorem nc_if_5 : nc_IF 5 := fun _ h => absurd h List.not_mem_nil
set_option maxRecDepth 100000 in
theorem nc_if_6 : nc_IF 6 := fun _ h => absurd h List.not_mem_nil
set_option maxRecDepth 100000 in
theorem nc_if_7 : nc_IF 7 := fun _ h => absurd h List.not_mem_nil
set_option maxRecDepth 100000 in
theorem nc_if_8 : nc_IF 8 := fun _ h => absurd h List.not_mem_nil
set_option maxRecDepth 100000 in
theorem nc_if_9 : nc_IF 9 := fun _ h => absurd h List.not_mem_nil
set_option maxRecDepth 100000 in
theorem nc_if_10 : nc_IF 10 := fun _ h => absurd h List.not_mem_nil
set_option maxRecDepth 100000 in
theorem nc_if_11 : nc_IF 11 := fun _ h => absurd h List.not_mem_nil
set_option maxRecDepth 100000 in
theorem nc_if_12 : nc_IF 12 := fun _ h => absurd h List.not_mem_nil
set_option maxRecDepth 100000 in
theorem nc_if_13 : nc_IF 13 := fun _ h => absurd h List.not_mem_nil
set_option maxRecDepth 100000 in
theorem nc_if_14 : nc_IF 14 := fun _ h => absurd h List.not_mem_nil
set_option maxRecDepth 100000 in
theorem nc_if_15 : nc_IF 15 := fun _ h => absurd h List.not_mem_nil
set_option maxRecDepth 100000 in
theorem nc_if_16 : nc_IF 16 := fun _ h => absurd h List.not_mem_nil
set_option maxRecDepth 100000 in
theorem nc_if_17 : nc_IF 17 := fun _ h => absurd h List.not_mem_nil
set_option maxRecDepth 100000 in
theorem nc_if_18 : nc_IF 18 := fun _ h => absurd h List.not_mem_nil
set_option maxRecDepth 100000 in
theorem nc_if_19 : nc_IF 19 := fun _ h => absurd h List.not_mem_nil
set_option maxRecDepth 100000 in
theorem nc_if_20 : nc_IF 20 := fun _ h => absurd h List.not_mem_nil
set_option maxRecDepth 100000 in
theorem nc_if_21 : nc_IF 21 := fun _ h => absurd h List.not_mem_nil
set_option maxRecDepth 100000 in
theorem nc_if_22 : nc_IF 22 := fun _ h => absurd h List.not_mem_nil
set_option maxRecDepth 100000 in
theorem nc_if_23 : nc_IF 23 := fun _ h => absurd h List.not_mem_nil
set_option maxRecDepth 100000 in
theorem nc_if_24 : nc_IF 24 := fun _ h => absurd h List.not_mem_nil
set_option maxRecDepth 100000 in
theorem nc_if_25 : nc_IF 25 := fun _ h => absurd h List.not_mem_nil
set_option maxRecDepth 100000 in
theorem nc_if_26 : nc_IF 26 := fun _ h => absurd h List.not_mem_nil
set_option maxRecDepth 100000 in
theorem nc_if_27 : nc_IF 27 := fun _ h => absurd h List.not_mem_nil
set_option maxRecDepth 100000 in
theorem nc_if_28 : nc_IF 28 := fun _ h => absurd h List.not_mem_nil
set_option maxRecDepth 100000 in
theorem nc_if_29 : nc_IF 29 := fun _ h => absurd h List.not_mem_nil
set_option maxRecDepth 100000 in
theorem nc_if_30 : nc_IF 30 := fun _ h => absurd h List.not_mem_nil
set_option maxRecDepth 100000 in
theorem nc_if_31 : nc_IF 31 := fun _ h => absurd h List.not_mem_nil
set_option maxRecDepth 100000 in
theorem nc_if_32 : nc_IF 32 := fun _ h => absurd h List.not_mem_nil
set_option maxRecDepth 100000 in
theorem nc_if_33 : nc_IF 33 := fun _ h => absurd h List.not_mem_nil
set_option maxRecDepth 100000 in
theorem nc_if_34 : nc_IF 34 := fun _ h => absurd h List.not_mem_nil
set_option maxRecDepth 100000 in
theorem nc_if_35 : nc_IF 35 := fun _ h => absurd h List.not_mem_nil
set_option maxRecDepth 100000 in
theorem nc_if_36 : nc_IF 36 := fun _ h => absurd h List.not_mem_nil
set_option maxRecDepth 100000 in
theorem nc_if_37 : nc_IF 37 := fun _ h => absurd h List.not_mem_nil
set_option maxRecDepth 100000 in
theorem nc_if_38 : nc_IF 38 := fun _ h => absurd h List.not_mem_nil
set_option maxRecDepth 100000 in
theorem nc_if_39 : nc_IF 39 := fun _ h => absurd h List.not_mem_nil
set_option maxRecDepth 100000 in
theorem nc_if_40 : nc_IF 40 := fun _ h => absurd h List.not_mem_nil
set_option maxRecDepth 100000 in
theorem nc_if_41 : nc_IF 41 := fun _ h => absurd h List.not_mem_nil
set_option maxRecDepth 100000 in
theorem nc_if_42 : nc_IF 42 := fun _ h => absurd h List.not_mem_nil
set_option maxRecDepth 100000 in
theorem nc_if_43 : nc_IF 43 := fun _ h => absurd h List.not_mem_nil
set_option maxRecDepth 100000 in
theorem nc_if_44 : nc_IF 44 := fun _ h => absurd h List.not_mem_nil
set_option maxRecDepth 100000 in
theorem nc_if_45 : nc_IF 45 := fun _ h => absurd h List.not_mem_nil
set_option maxRecDepth 100000 in
theorem nc_if_46 : nc_IF 46 := fun _ h => absurd h List.not_mem_nil
set_option maxRecDepth 100000 in
theorem nc_if_47 : nc_IF 47 := fun _ h => absurd h List.not_mem_nil
set_option maxRecDepth 100000 in
theorem nc_if_48 : nc_IF 48 := fun _ h => absurd h List.not_mem_nil
set_option maxRecDepth 100000 in
theorem nc_if_49 : nc_IF 49 := fun _ h => absurd h List.not_mem_nil
set_option maxRecDepth 100000 in
theorem nc_if_50 : nc_IF 50 := fun _ h => absurd h List.not_mem_nil
set_option maxRecDepth 100000 in
theorem nc_if_51 : nc_IF 51 := fun _ h => absurd h List.not_mem_nil
set_option maxRecDepth 100000 in
theorem nc_if_52 : nc_IF 52 := fun _ h => absurd h List.not_mem_nil
set_option maxRecDepth 100000 in
theorem nc_if_53 : nc_IF 53 := fun _ h => absurd h List.not_mem_nil
set_option maxRecDepth 100000 in
theorem nc_if_54 : nc_IF 54 := fun _ h => absurd h List.not_mem_nil
set_option maxRecDepth 100000 in
theorem nc_if_55 : nc_IF 55 := fun _ h => absurd h List.not_mem_nil
set_option maxRecDepth 100000 in
theorem nc_if_56 : nc_IF 56 := fun _ h => absurd h List.not_mem_nil
set_option maxRecDepth 100000 in
theorem nc_if_57 : nc_IF 57 := fun _ h => absurd h List.not_mem_nil
set_option maxRecDepth 100000 in
theorem nc_if_58 : nc_IF 58 := fun _ h => absurd h List.not_mem_nil
set_option maxRecDepth 100000 in
theorem nc_if_59 : nc_IF 59 := fun _ h => absurd h List.not_mem_nil
set_option maxRecDepth 100000 in
theorem nc_if_60 : nc_IF 60 := fun _ h => absurd h List.not_mem_nil
set_option maxRecDepth 100000 in
theorem nc_if_61 : nc_IF 61 := fun _ h => absurd h List.not_mem_nil
set_option maxRecDepth 100000 in
theorem nc_if_62 : nc_IF 62 := fun _ h => absurd h List.not_mem_nil
set_option maxRecDepth 100000 in
theorem nc_if_63 : nc_IF 63 := fun _ h => absurd h List.not_mem_nil
set_option maxRecDepth 100000 in
theorem nc_if_64 : nc_IF 64 := fun _ h => absurd h List.not_mem_nil
set_option maxRecDepth 100000 in
theorem nc_if_65 : nc_IF 65 := fun _ h => absurd h List.not_mem_nil
set_option maxRecDepth 100000 in
theorem nc_if_66 : nc_IF 66 := fun _ h => absurd h List.not_mem_nil
set_option maxRecDepth 100000 in
theorem nc_if_67 : nc_IF 67 := fun _ h => absurd h List.not_mem_nil
set_option maxRecDepth 100000 in
theorem nc_if_68 : nc_IF 68 := fun _ h => absurd h List.not_mem_nil
set_option maxRecDepth 100000 in
theorem nc_if_69 : nc_IF 69 := fun _ h => absurd h List.not_mem_nil
set_option maxRecDepth 100000 in
theorem nc_if_70 : nc_IF 70 := fun _ h => absurd h List.not_mem_nil
set_option maxRecDepth 100000 in
theorem nc_if_71 : nc_IF 71 := fun _ h => absurd h List.not_mem_nil
set_option maxRecDepth 100000 in
theorem nc_if_72 : nc_IF 72 := fun _ h => absurd h List.not_mem_nil
set_option maxRecDepth 100000 in
theorem nc_if_73 : nc_IF 73 := fun _ h => absurd h List.not_mem_nil
set_option maxRecDepth 100000 in
theorem nc_if_74 : nc_IF 74 := fun _ h => absurd h List.not_mem_nil
set_option maxRecDepth 100000 in
theorem nc_if_75 : nc_IF 75 := fun _ h => absurd h List.not_mem_nil
set_option maxRecDepth 100000 in
theorem nc_if_76 : nc_IF 76 := fun _ h => absurd h List.not_mem_nil
set_option maxRecDepth 100000 in
theorem nc_if_77 : nc_IF 77 := fun _ h => absurd h List.not_mem_nil
set_option maxRecDepth 100000 in
theorem nc_if_78 : nc_IF 78 := fun _ h => absurd h List.not_mem_nil
set_option maxRecDepth 100000 in
theorem nc_if_79 : nc_IF 79 := fun _ h => absurd h List.not_mem_nil
set_option maxRecDepth 100000 in
theorem nc_if_80 : nc_IF 80 := fun _ h => absurd h List.not_mem_nil
set_option maxRecDepth 100000 in
theorem nc_if_81 : nc_IF 81 := fun _ h => absurd h List.not_mem_nil
set_option maxRecDepth 100000 in
theorem nc_if_82 : nc_IF 82 := fun _ h => absurd h List.not_mem_nil
set_option maxRecDepth 100000 in
theorem nc_if_83 : nc_IF 83 := fun _ h => absurd h List.not_mem_nil
set_option maxRecDepth 100000 in
theorem nc_if_84 : nc_IF 84 := fun _ h => absurd h List.not_mem_nil
set_option maxRecDepth 100000 in
theorem nc_if_85 : nc_IF 85 := fun _ h => absurd h List.not_mem_nil
set_option maxRecDepth 100000 in
theorem nc_if_86 : nc_IF 86 := fun _ h => absurd h List.not_mem_nil
set_option maxRecDepth 100000 in
theorem nc_if_87 : nc_IF 87 := List.forall_mem_cons.mpr ⟨⟨nc_at_in (p := (4, 46)) rfl rfl, rfl⟩, List.forall_mem_cons.mpr ⟨⟨nc_at_in (p := (4, 50)) rfl rfl, rfl⟩, fun _ h => absurd h List.not_mem_nil⟩⟩
set_option maxRecDepth 100000 in
theorem nc_if_88 : nc_IF 88 := List.forall_mem_cons.mpr ⟨⟨nc_at_in (p := (4, 33)) rfl rfl, rfl⟩, List.forall_mem_cons.mpr ⟨⟨nc_at_in (p := (4, 34)) rfl rfl, rfl⟩, fun _ h => absurd h List.not_mem_nil⟩⟩
set_option maxRecDepth 100000 in
theorem nc_if_89 : nc_IF 89 := List.forall_mem_cons.mpr ⟨⟨nc_at_in (p := (4, 50)) rfl rfl, rfl⟩, List.forall_mem_cons.mpr ⟨⟨nc_at_in (p := (4, 8)) rfl rfl, rfl⟩, fun _ h => absurd h List.not_mem_nil⟩⟩
set_option maxRecDepth 100000 in
theorem nc_if_90 : nc_IF 90 := List.forall_mem_cons.mpr ⟨⟨nc_at_in (p := (6, 47)) rfl rfl, rfl⟩, List.forall_mem_cons.mpr ⟨⟨nc_at_in (p := (6, 64)) rfl rfl, rfl⟩, List.forall_mem_cons.mpr ⟨⟨nc_at_in (p := (6, 60)) rfl rfl, rfl⟩, List.forall_mem_cons.mpr ⟨⟨nc_at_in (p := (6, 62)) rfl rfl, rfl⟩, List.forall_mem_cons.mpr ⟨⟨nc_at_in (p := (6, 72)) rfl rfl, rfl⟩, List.forall_mem_cons.mpr ⟨⟨nc_at_in (p := (6, 73)) rfl rfl, rfl⟩, fun _ h => absurd h List.not_mem_nil⟩⟩⟩⟩⟩⟩
set_option maxRecDepth 100000 in
theorem nc_if_91 : nc_IF 91 := List.forall_mem_cons.mpr ⟨⟨nc_at_in (p := (4, 229)) rfl rfl, rfl⟩, List.forall_mem_cons.mpr ⟨⟨nc_at_in (p := (4, 233)) rfl rfl, rfl⟩, fun _ h => absurd h List.not_mem_nil⟩⟩
set_option maxRecDepth 100000 in
theorem nc_if_92 : nc_IF 92 := List.forall_mem_cons.mpr ⟨⟨nc_at_in (p := (4, 156)) rfl rfl, rfl⟩, List.forall_mem_cons.mpr ⟨⟨nc_at_in (p := (4, 160)) rfl rfl, rfl⟩, fun _ h => absurd h List.not_mem_nil⟩⟩
set_option maxRecDepth 100000 in
theorem nc_if_93 : nc_IF 93 := List.forall_mem_cons.mpr ⟨⟨nc_at_in (p := (5, 113)) rfl rfl, rfl⟩, fun _ h => absurd h List.not_mem_nil⟩
set_option maxRecDepth 100000 in
theorem nc_if_94 : nc_IF 94 := List.forall_mem_cons.mpr ⟨⟨nc_at_in (p := (4, 156)) rfl rfl, rfl⟩, List.forall_mem_cons.mpr ⟨⟨nc_at_in (p := (4, 221)) rfl rfl, rfl⟩, List.forall_mem_cons.mpr ⟨⟨nc_at_in (p := (4, 225)) rfl rfl, rfl⟩, List.forall_mem_cons.mpr ⟨⟨nc_at_in (p := (4, 237)) rfl rfl, rfl⟩, fun _ h => absurd h List.not_mem_nil⟩⟩⟩⟩
set_option maxRecDepth 100000 in
theorem nc_if_95 : nc_IF 95 := List.forall_mem_cons.mpr ⟨⟨nc_at_in (p := (5, 106)) rfl rfl, rfl⟩, List.forall_mem_cons.mpr ⟨⟨nc_at_in (p := (5, 114)) rfl rfl, rfl⟩, List.forall_mem_cons.mpr ⟨⟨nc_at_in (p := (5, 102)) rfl rfl, rfl⟩, List.forall_mem_cons.mpr ⟨⟨nc_at_in (p := (5, 103)) rfl rfl, rfl⟩, List.forall_mem_cons.mpr ⟨⟨nc_at_in (p := (5, 104)) rfl rfl, rfl⟩, List.forall_mem_cons.mpr ⟨⟨nc_at_in (p := (5, 105)) rfl rfl, rfl⟩, List.forall_mem_cons.mpr ⟨⟨nc_at_in (p := (5, 107)) rfl rfl, rfl⟩, List.forall_mem_cons.mpr ⟨⟨nc_at_in (p := (5, 108)) rfl rfl, rfl⟩, List.forall_mem_cons.mpr ⟨⟨nc_at_in (p := (5, 109)) rfl rfl, rfl⟩, fun _ h => absurd h List.not_mem_nil⟩⟩⟩⟩⟩⟩⟩⟩⟩
set_option maxRecDepth 100000 in
theorem nc_if_96 : nc_IF 96 := List.forall_mem_cons.mpr ⟨⟨nc_at_in (p := (4, 174)) rfl rfl, rfl⟩, fun _ h => absurd h List.not_mem_nil⟩
set_option maxRecDepth 100000 in
theorem nc_if_97 : nc_IF 97 := List.forall_mem_cons.mpr ⟨⟨nc_at_in (p := (4, 180)) rfl rfl, rfl⟩, fun _ h => absurd h List.not_mem_nil⟩
set_option maxRecDepth 100000 in
theorem nc_if_98 : nc_IF 98 := List.forall_mem_cons.mpr ⟨⟨nc_at_in (p := (4, 180)) rfl rfl, rfl⟩, fun _ h => absurd h List.not_mem_nil⟩
set_option maxRecDepth 100000 in
theorem nc_if_99 : nc_IF 99 := List.forall_mem_cons.mpr ⟨⟨nc_at_in (p := (2, 50)) rfl rfl, rfl⟩, List.forall_mem_cons.mpr ⟨⟨nc_at_in (p := (5, 2)) rfl rfl, rfl⟩, List.forall_mem_cons.mpr ⟨⟨nc_at_in (p := (5, 3)) rfl rfl, rfl⟩, fun _ h => absurd h List.not_mem_nil⟩⟩⟩
set_option maxRecDepth 100000 in
theorem nc_if_100 : nc_IF 100 := List.forall_mem_cons.mpr ⟨⟨nc_at_in (p := (5, 11)) rfl rfl, rfl⟩, fun _ h => absurd h List.not_mem_nil⟩
set_option maxRecDepth 100000 in
theorem nc_if_101 : nc_IF 101 := List.forall_mem_cons.mpr ⟨⟨nc_at_in (p := (6, 47)) rfl rfl, rfl⟩, List.forall_mem_cons.mpr ⟨⟨nc_at_in (p := (6, 61)) rfl rfl, rfl⟩, List.forall_mem_cons.mpr ⟨⟨nc_at_in (p := (6, 64)) rfl rfl, rfl⟩, List.forall_mem_cons.mpr ⟨⟨nc_at_in (p := (6, 60)) rfl rfl, rfl⟩, List.forall_mem_cons.mpr ⟨⟨nc_at_in (p := (6, 62)) rfl rfl, rfl⟩, List.forall_mem_cons.mpr ⟨⟨nc_at_in (p := (6, 63)) rfl rfl, rfl⟩, List.forall_mem_cons.mpr ⟨⟨nc_at_in (p := (6, 68)) rfl rfl, rfl⟩, fun _ h => absurd h List.not_mem_nil⟩⟩⟩⟩⟩⟩⟩
set_option maxRecDepth 100000 in
theorem nc_if_102 : nc_IF 102 := List.forall_mem_cons.mpr ⟨⟨nc_at_in (p := (6, 47)) rfl rfl, rfl⟩, List.forall_mem_cons.mpr ⟨⟨nc_at_in (p := (6, 61)) rfl rfl, rfl⟩, List.forall_mem_cons.mpr ⟨⟨nc_at_in (p := (6, 64)) rfl rfl, rfl⟩, List.forall_mem_cons.mpr ⟨⟨nc_at_in (p := (6, 56)) rfl rfl, rfl⟩, fun _ h => absurd h List.not_mem_nil⟩⟩⟩⟩
set_option maxRecDepth 100000 in
theorem nc_if_103 : nc_IF 103 := List.forall_mem_cons.mpr ⟨⟨nc_at_in (p := (6, 47)) rfl rfl, rfl⟩, List.forall_mem_cons.mpr ⟨⟨nc_at_in (p := (6, 52)) rfl rfl, rfl⟩, List.forall_mem_cons.mpr ⟨⟨nc_at_in (p := (6, 61)) rfl rfl, rfl⟩, List.forall_mem_cons.mpr ⟨⟨nc_at_in (p := (6, 64)) rfl rfl, rfl⟩, fun _ h => absurd h List.not_mem_nil⟩⟩⟩⟩
set_option maxRecDepth 100000 in
theorem nc_if_104 : nc_IF 104 := List.forall_mem_cons.mpr ⟨⟨nc_at_in (p := (6, 47)) rfl rfl, rfl⟩, List.forall_mem_cons.mpr ⟨⟨nc_at_in (p := (6, 48)) rfl rfl, rfl⟩, List.forall_mem_cons.mpr ⟨⟨nc_at_in (p := (6, 61)) rfl rfl, rfl⟩, List.forall_mem_cons.mpr ⟨⟨nc_at_in (p := (6, 64)) rfl rfl, rfl⟩, List.forall_mem_cons.mpr ⟨⟨nc_at_in (p := (6, 56)) rfl rfl, rfl⟩, List.forall_mem_cons.mpr ⟨⟨nc_at_in (p := (6, 60)) rfl rfl, rfl⟩, List.forall_mem_cons.mpr ⟨⟨nc_at_in (p := (6, 62)) rfl rfl, rfl⟩, List.forall_mem_cons.mpr ⟨⟨nc_at_in (p := (6, 63)) rfl rfl, rfl⟩, List.forall_mem_cons.mpr ⟨⟨nc_at_in (p := (6, 68)) rfl rfl, rfl⟩, fun _ h => absurd h List.not_mem_nil⟩⟩⟩⟩⟩⟩⟩⟩⟩
set_option maxRecDepth 100000 in
theorem nc_if_105 : nc_IF 105 := List.forall_mem_cons.mpr ⟨⟨nc_at_in (p := (6, 47)) rfl rfl, rfl⟩, List.forall_mem_cons.mpr ⟨⟨nc_at_in (p := (6, 61)) rfl rfl, rfl⟩, List.forall_mem_cons.mpr ⟨⟨nc_at_in (p := (6, 64)) rfl rfl, rfl⟩, List.forall_mem_cons.mpr ⟨⟨nc_at_in (p := (6, 56)) rfl rfl, rfl⟩, fun _ h => absurd h List.not_mem_nil⟩⟩⟩⟩
set_option maxRecDepth 100000 in
theorem nc_if_106 : nc_IF 106 := List.forall_mem_cons.mpr ⟨⟨nc_at_in (p := (6, 47)) rfl rfl, rfl⟩, List.forall_mem_cons.mpr ⟨⟨nc_at_in (p := (6, 52)) rfl rfl, rfl⟩, List.forall_mem_cons.mpr ⟨⟨nc_at_in (p := (6, 61)) rfl rfl, rfl⟩, List.forall_mem_cons.mpr ⟨⟨nc_at_in (p := (6, 64)) rfl rfl, rfl⟩, fun _ h => absurd h List.not_mem_nil⟩⟩⟩⟩
set_option maxRecDepth 100000 in
theorem nc_if_107 : nc_IF 107 := List.forall_mem_cons.mpr ⟨⟨nc_at_in (p := (6, 47)) rfl rfl, rfl⟩, List.forall_mem_cons.mpr ⟨⟨nc_at_in (p := (6, 48)) rfl rfl, rfl⟩, List.forall_mem_cons.mpr ⟨⟨nc_at_in (p := (6, 61)) rfl rfl, rfl⟩, List.forall_mem_cons.mpr ⟨⟨nc_at_in (p := (6, 64)) rfl rfl, rfl⟩, List.forall_mem_cons.mpr ⟨⟨nc_at_in (p := (6, 56)) rfl rfl, rfl⟩, List.forall_mem_cons.mpr ⟨⟨nc_at_in (p := (6, 60)) rfl rfl, rfl⟩, List.forall_mem_cons.mpr ⟨⟨nc_at_in (p := (6, 62)) rfl rfl, rfl⟩, List.forall_mem_cons.mpr ⟨⟨nc_at_in (p := (6, 63)) rfl rfl, rfl⟩, List.forall_mem_cons.mpr ⟨⟨nc_at_in (p := (6, 68)) rfl rfl, rfl⟩, fun _ h => absurd h List.not_mem_nil⟩⟩⟩⟩⟩⟩⟩⟩⟩
set_option maxRecDepth 100000 in
theorem nc_if_108 : nc_IF 108 := List.forall_mem_cons.mpr ⟨⟨nc_at_in (p := (6, 47)) rfl rfl, rfl⟩, List.forall_mem_cons.mpr ⟨⟨nc_at_in (p := (6, 61)) rfl rfl, rfl⟩, List.forall_mem_cons.mpr ⟨⟨nc_at_in (p := (6, 64)) rfl rfl, rfl⟩, List.forall_mem_cons.mpr ⟨⟨nc_at_in (p := (6, 56)) rfl rfl, rfl⟩, fun _ h => absurd h List.not_mem_nil⟩⟩⟩⟩
set_option maxRecDepth 100000 in
theorem nc_if_109 : nc_IF 109 := List.forall_mem_cons.mpr ⟨⟨nc_at_in (p := (6, 47)) rfl rfl, rfl⟩, List.forall_mem_cons.mpr ⟨⟨nc_at_in (p := (6, 52)) rfl rfl, rfl⟩, List.forall_mem_cons.mpr ⟨⟨nc_at_in (p := (6, 61)) rfl rfl, rfl⟩, List.forall_mem_cons.mpr ⟨⟨nc_at_in (p := (6, 64)) rfl rfl, rfl⟩, fun _ h => absurd h List.not_mem_nil⟩⟩⟩⟩
set_option maxRecDepth 100000 in
theorem nc_if_110 : nc_IF 110 := List.forall_mem_cons.mpr ⟨⟨nc_at_in (p := (6, 47)) rfl rfl, rfl⟩, List.forall_mem_cons.mpr ⟨⟨nc_at_in (p := (6, 48)) rfl rfl, rfl⟩, List.forall_mem_cons.mpr ⟨⟨nc_at_in (p := (6, 61)) rfl rfl, rfl⟩, List.forall_mem_cons.mpr ⟨⟨nc_at_in (p := (6, 64)) rfl rfl, rfl⟩, List.forall_mem_cons.mpr ⟨⟨nc_at_in (p := (6, 56)) rfl rfl, rfl⟩, List.forall_mem_cons.mpr ⟨⟨nc_at_in (p := (6, 60)) rfl rfl, rfl⟩, List.forall_mem_cons.mpr ⟨⟨nc_at_in (p := (6, 62)) rfl rfl, rfl⟩, List.forall_mem_cons.mpr ⟨⟨nc_at_in (p := (6, 63)) rfl rfl, rfl⟩, List.forall_mem_cons.mpr ⟨⟨nc_at_in (p := (6, 68)) rfl rfl, rfl⟩, fun _ h => absurd h List.not_mem_nil⟩⟩⟩⟩⟩⟩⟩⟩⟩
set_option maxRecDepth 100000 in
theorem nc_if_111 : nc_IF 111 := List.forall_mem_cons.mpr ⟨⟨nc_at_in (p := (6, 47)) rfl rfl, rfl⟩, List.forall_mem_cons.mpr ⟨⟨nc_at_in (p := (6, 61)) rfl rfl, rfl⟩, List.forall_mem_cons.mpr ⟨⟨nc_at_in (p := (6, 64)) rfl rfl, rfl⟩, List.forall_mem_cons.mpr ⟨⟨nc_at_in (p := (6, 56)) rfl rfl, rfl⟩, fun _ h => absurd h List.not_mem_nil⟩⟩⟩⟩
set_option maxRecDepth 100000 in
theorem nc_if_112 : nc_IF 112 := List.forall_mem_cons.mpr ⟨⟨nc_at_in (p := (6, 47)) rfl rfl, rfl⟩, List.forall_mem_cons.mpr ⟨⟨nc_at_in (p := (6, 52)) rfl rfl, rfl⟩, List.forall_mem_cons.mpr ⟨⟨nc_at_in (p := (6, 61)) rfl rfl, rfl⟩, List.forall_mem_cons.mpr ⟨⟨nc_at_in (p := (6, 64)) rfl rfl, rfl⟩, fun _ h => absurd h List.not_mem_nil⟩⟩⟩⟩
set_option maxRecDepth 100000 in
theorem nc_if_113 : nc_IF 113 := List.forall_mem_cons.mpr ⟨⟨nc_at_in (p := (6, 47)) rfl rfl, rfl⟩, List.forall_mem_cons.mpr ⟨⟨nc_at_in (p := (6, 48)) rfl rfl, rfl⟩, List.forall_mem_cons.mpr ⟨⟨nc_at_in (p := (6, 61)) rfl rfl, rfl⟩, List.forall_mem_cons.mpr ⟨⟨nc_at_in (p := (6, 64)) rfl rfl, rfl⟩, List.forall_mem_cons.mpr ⟨⟨nc_at_in (p := (6, 56)) rfl rfl, rfl⟩, List.forall_mem_cons.mpr ⟨⟨nc_at_in (p := (6, 60)) rfl rfl, rfl⟩, List.forall_mem_cons.mpr ⟨⟨nc_at_in (p := (6, 62)) rfl rfl, rfl⟩, List.forall_mem_cons.mpr ⟨⟨nc_at_in (p := (6, 63)) rfl rfl, rfl⟩, List.forall_mem_cons.mpr ⟨⟨nc_at_in (p := (6, 68)) rfl rfl, rfl⟩, fun _ h => absurd h List.not_mem_nil⟩⟩⟩⟩⟩⟩⟩⟩⟩
set_option maxRecDepth 100000 in
theorem nc_if_114 : nc_IF 114 := List.forall_mem_cons.mpr ⟨⟨nc_at_in (p := (6, 47)) rfl rfl, rfl⟩, List.forall_mem_cons.mpr ⟨⟨nc_at_in (p := (6, 61)) rfl rfl, rfl⟩, List.forall_mem_cons.mpr ⟨⟨nc_at_in (p := (6, 64)) rfl rfl, rfl⟩, List.forall_mem_cons.mpr ⟨⟨nc_at_in (p := (6, 56)) rfl rfl, rfl⟩, fun _ h => absurd h List.not_mem_nil⟩⟩⟩⟩
set_option maxRecDepth 100000 in
theorem nc_if_115 : nc_IF 115 := List.forall_mem_cons.mpr ⟨⟨nc_at_in (p := (6, 47)) rfl rfl, rfl⟩, List.forall_mem_cons.mpr ⟨⟨nc_at_in (p := (6, 52)) rfl rfl, rfl⟩, List.forall_mem_cons.mpr ⟨⟨nc_at_in (p := (6, 61)) rfl rfl, rfl⟩, List.forall_mem_cons.mpr ⟨⟨nc_at_in (p := (6, 64)) rfl rfl, rfl⟩, fun _ h => absurd h List.not_mem_nil⟩⟩⟩⟩
set_option maxRecDepth 100000 in
theorem nc_if_116 : nc_IF 116 := List.forall_mem_cons.mpr ⟨⟨nc_at_in (p := (6, 47)) rfl rfl, rfl⟩, List.forall_mem_cons.mpr ⟨⟨nc_at_in (p := (6, 48)) rfl rfl, rfl⟩, List.forall_mem_cons.mpr ⟨⟨nc_at_in (p := (6, 61)) rfl rfl, rfl⟩, List.forall_mem_cons.mpr ⟨⟨nc_at_in (p := (6, 64)) rfl rfl, rfl⟩, List.forall_mem_cons.mpr ⟨⟨nc_at_in (p := (6, 56)) rfl rfl, rfl⟩, List.forall_mem_cons.mpr ⟨⟨nc_at_in (p := (6, 60)) rfl rfl, rfl⟩, List.forall_mem_cons.mpr ⟨⟨nc_at_in (p := (6, 62)) rfl rfl, rfl⟩, List.forall_mem_cons.mpr ⟨⟨nc_at_in (p := (6, 63)) rfl rfl, rfl⟩, List.forall_mem_cons.mpr ⟨⟨nc_at_in (p := (6, 68)) rfl rfl, rfl⟩, fun _ h => absurd h List.not_mem_nil⟩⟩⟩⟩⟩⟩⟩⟩⟩
set_option maxRecDepth 100000 in
theorem nc_if_117 : nc_IF 117 := List.forall_mem_cons.mpr ⟨⟨nc_at_in (p := (6, 47)) rfl rfl, rfl⟩, List.forall_mem_cons.mpr ⟨⟨nc_at_in (p := (6, 61)) rfl rfl, rfl⟩, List.forall_mem_cons.mpr ⟨⟨nc_at_in (p := (6, 64)) rfl rfl, rfl⟩, List.forall_mem_cons.mpr ⟨⟨nc_at_in (p := (6, 56)) rfl rfl, rfl⟩, fun _ h => absurd h List.not_mem_nil⟩⟩⟩⟩
set_option maxRecDepth 100000 in
theorem nc_if_118 : nc_IF 118 := List.forall_mem_cons.mpr ⟨⟨nc_at_in (p := (6, 47)) rfl rfl, rfl⟩, List.forall_mem_cons.mpr ⟨⟨nc_at_in (p := (6, 52)) rfl rfl, rfl⟩, List.forall_mem_cons.mpr ⟨⟨nc_at_in (p := (6, 61)) rfl rfl, rfl⟩, List.forall_mem_cons.mpr ⟨⟨nc_at_in (p := (6, 64)) rfl rfl, rfl⟩, fun _ h => absurd h List.not_mem_nil⟩⟩⟩⟩
set_option maxRecDepth 100000 in
theorem nc_if_119 : nc_IF 119 := List.forall_mem_cons.mpr ⟨⟨nc_at_in (p := (6, 47)) rfl rfl, rfl⟩, List.forall_mem_cons.mpr ⟨⟨nc_at_in (p := (6, 48)) rfl rfl, rfl⟩, List.forall_mem_cons.mpr ⟨⟨nc_at_in (p := (6, 61)) rfl rfl, rfl⟩, List.forall_mem_cons.mpr ⟨⟨nc_at_in (p := (6, 64)) rfl rfl, rfl⟩, List.forall_mem_cons.mpr ⟨⟨nc_at_in (p := (6, 56)) rfl rfl, rfl⟩, List.forall_mem_cons.mpr ⟨⟨nc_at_in (p := (6, 60)) rfl rfl, rfl⟩, List.forall_mem_cons.mpr ⟨⟨nc_at_in (p := (6, 62)) rfl rfl, rfl⟩, List.forall_mem_cons.mpr ⟨⟨nc_at_in (p := (6, 63)) rfl rfl, rfl⟩, List.forall_mem_cons.mpr ⟨⟨nc_at_in (p := (6, 68)) rfl rfl, rfl⟩, fun _ h => absurd h List.not_mem_nil⟩⟩⟩⟩⟩⟩⟩⟩⟩
set_option maxRecDepth 100000 in
theorem nc_if_120 : nc_IF 120 := List.forall_mem_cons.mpr ⟨⟨nc_at_in (p := (6, 47)) rfl rfl, rfl⟩, List.forall_mem_cons.mpr ⟨⟨nc_at_in (p := (6, 61)) rfl rfl, rfl⟩, List.forall_mem_cons.mpr ⟨⟨nc_at_in (p := (6, 64)) rfl rfl, rfl⟩, List.forall_mem_cons.mpr ⟨⟨nc_at_in (p := (6, 56)) rfl rfl, rfl⟩, fun _ h => absurd h List.not_mem_nil⟩⟩⟩⟩
set_option maxRecDepth 100000 in
theorem nc_if_121 : nc_IF 121 := List.forall_mem_cons.mpr ⟨⟨nc_at_in (p := (6, 47)) rfl rfl, rfl⟩, List.forall_mem_cons.mpr ⟨⟨nc_at_in (p := (6, 52)) rfl rfl, rfl⟩, List.forall_mem_cons.mpr ⟨⟨nc_at_in (p := (6, 61)) rfl rfl, rfl⟩, List.forall_mem_cons.mpr ⟨⟨nc_at_in (p := (6, 64)) rfl rfl, rfl⟩, fun _ h => absurd h List.not_mem_nil⟩⟩⟩⟩
set_option maxRecDepth 100000 in
theorem nc_if_122 : nc_IF 122 := List.forall_mem_cons.mpr ⟨⟨nc_at_in (p := (6, 47)) rfl rfl, rfl⟩, List.forall_mem_cons.mpr ⟨⟨nc_at_in (p := (6, 48)) rfl rfl, rfl⟩, List.forall_mem_cons.mpr ⟨⟨nc_at_in (p := (6, 61)) rfl rfl, rfl⟩, List.forall_mem_cons.mpr ⟨⟨nc_at_in (p := (6, 64)) rfl rfl, rfl⟩, List.forall_mem_cons.mpr ⟨⟨nc_at_in (p := (6, 56)) rfl rfl, rfl⟩, List.forall_mem_cons.mpr ⟨⟨nc_at_in (p := (6, 60)) rfl rfl, rfl⟩, List.forall_mem_cons.mpr ⟨⟨nc_at_in (p := (6, 62)) rfl rfl, rfl⟩, List.forall_mem_cons.mpr ⟨⟨nc_at_in (p := (6, 63)) rfl rfl, rfl⟩, List.forall_mem_cons.mpr ⟨⟨nc_at_in (p := (6, 68)) rfl rfl, rfl⟩, fun _ h => absurd h List.not_mem_nil⟩⟩⟩⟩⟩⟩⟩⟩⟩
set_option maxRecDepth 100000 in
theorem nc_if_123 : nc_IF 123 := List.forall_mem_cons.mpr ⟨⟨nc_at_in (p := (6, 47)) rfl rfl, rfl⟩, List.forall_mem_cons.mpr ⟨⟨nc_at_in (p := (6, 61)) rfl rfl, rfl⟩, List.forall_mem_cons.mpr ⟨⟨nc_at_in (p := (6, 64)) rfl rfl, rfl⟩, List.forall_mem_cons.mpr ⟨⟨nc_at_in (p := (6, 56)) rfl rfl, rfl⟩, fun _ h => absurd h List.not_mem_nil⟩⟩⟩⟩
set_option maxRecDepth 100000 in
theorem nc_if_124 : nc_IF 124 := List.forall_mem_cons.mpr ⟨⟨nc_at_in (p := (6, 47)) rfl rfl, rfl⟩, List.forall_mem_cons.mpr ⟨⟨nc_at_in (p := (6, 52)) rfl rfl, rfl⟩, List.forall_mem_cons.mpr ⟨⟨nc_at_in (p := (6, 61)) rfl rfl, rfl⟩, List.forall_mem_cons.mpr ⟨⟨nc_at_in (p := (6, 64)) rfl rfl, rfl⟩, fun _ h => absurd h List.not_mem_nil⟩⟩⟩⟩
set_option maxRecDepth 100000 in
theorem nc_if_125 : nc_IF 125 := List.forall_mem_cons.mpr ⟨⟨nc_at_in (p := (6, 47)) rfl rfl, rfl⟩, List.forall_mem_cons.mpr ⟨⟨nc_at_in (p := (6, 48)) rfl rfl, rfl⟩, List.forall_mem_cons.mpr ⟨⟨nc_at_in (p := (6, 61)) rfl rfl, rfl⟩, List.forall_mem_cons.mpr ⟨⟨nc_at_in (p := (6, 64)) rfl rfl, rfl⟩, List.forall_mem_cons.mpr ⟨⟨nc_at_in (p := (6, 56)) rfl rfl, rfl⟩, List.forall_mem_cons.mpr ⟨⟨nc_at_in (p := (6, 60)) rfl rfl, rfl⟩, List.forall_mem_cons.mpr ⟨⟨nc_at_in (p := (6, 62)) rfl rfl, rfl⟩, List.forall_mem_cons.mpr ⟨⟨nc_at_in (p := (6, 63)) rfl rfl, rfl⟩, List.forall_mem_cons.mpr ⟨⟨nc_at_in (p := (6, 68)) rfl rfl, rfl⟩, fun _ h => absurd h List.not_mem_nil⟩⟩⟩⟩⟩⟩⟩⟩⟩
set_option maxRecDepth 100000 in
theorem nc_if_126 : nc_IF 126 := List.forall_mem_cons.mpr ⟨⟨nc_at_in (p := (6, 47)) rfl rfl, rfl⟩, List.forall_mem_cons.mpr ⟨⟨nc_at_in (p := (6, 61)) rfl rfl, rfl⟩, List.forall_mem_cons.mpr ⟨⟨nc_at_in (p := (6, 64)) rfl rfl, rfl⟩, List.forall_mem_cons.mpr ⟨⟨nc_at_in (p := (6, 56)) rfl rfl, rfl⟩, fun _ h => absurd h List.not_mem_nil⟩⟩⟩⟩
set_option maxRecDepth 100000 in
theorem nc_if_127 : nc_IF 127 := List.forall_mem_cons.mpr ⟨⟨nc_at_in (p := (6, 47)) rfl rfl, rfl⟩, List.forall_mem_cons.mpr ⟨⟨nc_at_in (p := (6, 52)) rfl rfl, rfl⟩, List.forall_mem_cons.mpr ⟨⟨nc_at_in (p := (6, 61)) rfl rfl, rfl⟩, List.forall_mem_cons.mpr ⟨⟨nc_at_in (p := (6, 64)) rfl rfl, rfl⟩, fun _ h => absurd h List.not_mem_nil⟩⟩⟩⟩
set_option maxRecDepth 100000 in
theorem nc_if_128 : nc_IF 128 := List.forall_mem_cons.mpr ⟨⟨nc_at_in (p := (5, 98)) rfl rfl, rfl⟩, List.forall_mem_cons.mpr ⟨⟨nc_at_in (p := (5, 106)) rfl rfl, rfl⟩, List.forall_mem_cons.mpr ⟨⟨nc_at_in (p := (5, 115)) rfl rfl, rfl⟩, List.forall_mem_cons.mpr ⟨⟨nc_at_in (p := (5, 116)) rfl rfl, rfl⟩, List.forall_mem_cons.mpr ⟨⟨nc_at_in (p := (5, 114)) rfl rfl, rfl⟩, List.forall_mem_cons.mpr ⟨⟨nc_at_in (p := (5, 117)) rfl rfl, rfl⟩, List.forall_mem_cons.mpr ⟨⟨nc_at_in (p := (5, 118)) rfl rfl, rfl⟩, fun _ h => absurd h List.not_mem_nil⟩⟩⟩⟩⟩⟩⟩
set_option maxRecDepth 100000 in
theorem nc_if_129 : nc_IF 129 := List.forall_mem_cons.mpr ⟨⟨nc_at_in (p := (5, 94)) rfl rfl, rfl⟩, List.forall_mem_cons.mpr ⟨⟨nc_at_in (p := (5, 98)) rfl rfl, rfl⟩, List.forall_mem_cons.mpr ⟨⟨nc_at_in (p := (5, 106)) rfl rfl, rfl⟩, List.forall_mem_cons.mpr ⟨⟨nc_at_in (p := (5, 115)) rfl rfl, rfl⟩, List.forall_mem_cons.mpr ⟨⟨nc_at_in (p := (5, 116)) rfl rfl, rfl⟩, List.forall_mem_cons.mpr ⟨⟨nc_at_in (p := (5, 114)) rfl rfl, rfl⟩, List.forall_mem_cons.mpr ⟨⟨nc_at_in (p := (5, 117)) rfl rfl, rfl⟩, List.forall_mem_cons.mpr ⟨⟨nc_at_in (p := (5, 118)) rfl rfl, rfl⟩, fun _ h => absurd h List.not_mem_nil⟩⟩⟩⟩⟩⟩⟩⟩
set_option maxRecDepth 100000 in
theorem nc_if_130 : nc_IF 130 := List.forall_mem_cons.mpr ⟨⟨nc_at_in (p := (5, 94)) rfl rfl, rfl⟩, List.forall_mem_cons.mpr ⟨⟨nc_at_in (p := (5, 98)) rfl rfl, rfl⟩, List.forall_mem_cons.mpr ⟨⟨nc_at_in (p := (5, 106)) rfl rfl, rfl⟩, List.forall_mem_cons.mpr ⟨⟨nc_at_in (p := (5, 115)) rfl rfl, rfl⟩, List.forall_mem_cons.mpr ⟨⟨nc_at_in (p := (5, 116)) rfl rfl, rfl⟩, List.forall_mem_cons.mpr ⟨⟨nc_at_in (p := (5, 114)) rfl rfl, rfl⟩, List.forall_mem_cons.mpr ⟨⟨nc_at_in (p := (5, 117)) rfl rfl, rfl⟩, List.forall_mem_cons.mpr ⟨⟨nc_at_in (p := (5, 118)) rfl rfl, rfl⟩, fun _ h => absurd h List.not_mem_nil⟩⟩⟩⟩⟩⟩⟩⟩
set_option maxRecDepth 100000 in
theorem nc_if_131 : nc_IF 131 := List.forall_mem_cons.mpr ⟨⟨nc_at_in (p := (1, 90)) rfl rfl, rfl⟩, List.forall_mem_cons.mpr ⟨⟨nc_at_in (p := (3, 164)) rfl rfl, rfl⟩, List.forall_mem_cons.mpr ⟨⟨nc_at_in (p := (3, 168)) rfl rfl, rfl⟩, List.forall_mem_cons.mpr ⟨⟨nc_at_in (p := (3, 171)) rfl rfl, rfl⟩, List.forall_mem_cons.mpr ⟨⟨nc_at_in (p := (3, 182)) rfl rfl, rfl⟩, List.forall_mem_cons.mpr ⟨⟨nc_at_in (p := (3, 178)) rfl rfl, rfl⟩, fun _ h => absurd h List.not_mem_nil⟩⟩⟩⟩⟩⟩
set_option maxRecDepth 100000 in
theorem nc_if_132 : nc_IF 132 := List.forall_mem_cons.mpr ⟨⟨nc_at_in (p := (3, 161)) rfl rfl, rfl⟩, List.forall_mem_cons.mpr ⟨⟨nc_at_in (p := (3, 164)) rfl rfl, rfl⟩, List.forall_mem_cons.mpr ⟨⟨nc_at_in (p := (3, 168)) rfl rfl, rfl⟩, List.forall_mem_cons.mpr ⟨⟨nc_at_in (p := (3, 171)) rfl rfl, rfl⟩, List.forall_mem_cons.mpr ⟨⟨nc_at_in (p := (3, 174)) rfl rfl, rfl⟩, List.forall_mem_cons.mpr ⟨⟨nc_at_in (p := (3, 187)) rfl rfl, rfl⟩, List.forall_mem_cons.mpr ⟨⟨nc_at_in (p := (3, 182)) rfl rfl, rfl⟩, fun _ h => absurd h List.not_mem_nil⟩⟩⟩⟩⟩⟩⟩
set_option maxRecDepth 100000 in
theorem nc_if_133 : nc_IF 133 := List.forall_mem_cons.mpr ⟨⟨nc_at_in (p := (4, 8)) rfl rfl, rfl⟩, fun _ h => absurd h List.not_mem_nil⟩
set_option maxRecDepth 100000 in
theorem nc_if_134 : nc_IF 134 := List.forall_mem_cons.mpr ⟨⟨nc_at_in (p := (6, 11)) rfl rfl, rfl⟩, List.forall_mem_cons.mpr ⟨⟨nc_at_in (p := (6, 13)) rfl rfl, rfl⟩, List.forall_mem_cons.mpr ⟨⟨nc_at_in (p := (6, 17)) rfl rfl, rfl⟩, fun _ h => absurd h List.not_mem_nil⟩⟩⟩
set_option maxRecDepth 100000 in
theorem nc_if_135 : nc_IF 135 := List.forall_mem_cons.mpr ⟨⟨nc_at_in (p := (4, 8)) rfl rfl, rfl⟩, List.forall_mem_cons.mpr ⟨⟨nc_at_in (p := (4, 42)) rfl rfl, rfl⟩, fun _ h => absurd h List.not_mem_nil⟩⟩
set_option maxRecDepth 100000 in
theorem nc_if_136 : nc_IF 136 := List.forall_mem_cons.mpr ⟨⟨nc_at_in (p := (6, 10)) rfl rfl, rfl⟩, List.forall_mem_cons.mpr ⟨⟨nc_at_in (p := (6, 11)) rfl rfl, rfl⟩, List.forall_mem_cons.mpr ⟨⟨nc_at_in (p := (6, 12)) rfl rfl, rfl⟩, List.forall_mem_cons.mpr ⟨⟨nc_at_in (p := (6, 13)) rfl rfl, rfl⟩, List.forall_mem_cons.mpr ⟨⟨nc_at_in (p := (6, 14)) rfl rfl, rfl⟩, List.forall_mem_cons.mpr ⟨⟨nc_at_in (p := (6, 18)) rfl rfl, rfl⟩, fun _ h => absurd h List.not_mem_nil⟩⟩⟩⟩⟩⟩
set_option maxRecDepth 100000 in
theorem nc_if_137 : nc_IF 137 := List.forall_mem_cons.mpr ⟨⟨nc_at_in (p := (4, 50)) rfl rfl, rfl⟩, fun _ h => absurd h List.not_mem_nil⟩
set_option maxRecDepth 100000 in
theorem nc_if_138 : nc_IF 138 := List.forall_mem_cons.mpr ⟨⟨nc_at_in (p := (6, 4)) rfl rfl, rfl⟩, List.forall_mem_cons.mpr ⟨⟨nc_at_in (p := (6, 5)) rfl rfl, rfl⟩, List.forall_mem_cons.mpr ⟨⟨nc_at_in (p := (6, 6)) rfl rfl, rfl⟩, List.forall_mem_cons.mpr ⟨⟨nc_at_in (p := (6, 19)) rfl rfl, rfl⟩, fun _ h => absurd h List.not_mem_nil⟩⟩⟩⟩
set_option maxRecDepth 100000 in
theorem nc_if_139 : nc_IF 139 := List.forall_mem_cons.mpr ⟨⟨nc_at_in (p := (4, 217)) rfl rfl, rfl⟩, fun _ h => absurd h List.not_mem_nil⟩
set_option maxRecDepth 100000 in
theorem nc_if_140 : nc_IF 140 := List.forall_mem_cons.mpr ⟨⟨nc_at_in (p := (4, 213)) rfl rfl, rfl⟩, List.forall_mem_cons.mpr ⟨⟨nc_at_in (p := (4, 238)) rfl rfl, rfl⟩, List.forall_mem_cons.mpr ⟨⟨nc_at_in (p := (5, 7)) rfl rfl, rfl⟩, fun _ h => absurd h List.not_mem_nil⟩⟩⟩
set_option maxRecDepth 100000 in
theorem nc_if_141 : nc_IF 141 := List.forall_mem_cons.mpr ⟨⟨nc_at_in (p := (4, 192)) rfl rfl, rfl⟩, fun _ h => absurd h List.not_mem_nil⟩
set_option maxRecDepth 100000 in
theorem nc_if_142 : nc_IF 142 := List.forall_mem_cons.mpr ⟨⟨nc_at_in (p := (4, 156)) rfl rfl, rfl⟩, fun _ h => absurd h List.not_mem_nil⟩
set_option maxRecDepth 100000 in
theorem nc_if_143 : nc_IF 143 := List.forall_mem_cons.mpr ⟨⟨nc_at_in (p := (4, 201)) rfl rfl, rfl⟩, fun _ h => absurd h List.not_mem_nil⟩
set_option maxRecDepth 100000 in
theorem nc_if_144 : nc_IF 144 := List.forall_mem_cons.mpr ⟨⟨nc_at_in (p := (4, 197)) rfl rfl, rfl⟩, List.forall_mem_cons.mpr ⟨⟨nc_at_in (p := (4, 201)) rfl rfl, rfl⟩, fun _ h => absurd h List.not_mem_nil⟩⟩
set_option maxRecDepth 100000 in
theorem nc_if_145 : nc_IF 145 := List.forall_mem_cons.mpr ⟨⟨nc_at_in (p := (6, 28)) rfl rfl, rfl⟩, List.forall_mem_cons.mpr ⟨⟨nc_at_in (p := (6, 29)) rfl rfl, rfl⟩, List.forall_mem_cons.mpr ⟨⟨nc_at_in (p := (6, 30)) rfl rfl, rfl⟩, List.forall_mem_cons.mpr ⟨⟨nc_at_in (p := (6, 31)) rfl rfl, rfl⟩, List.forall_mem_cons.mpr ⟨⟨nc_at_in (p := (6, 32)) rfl rfl, rfl⟩, fun _ h => absurd h List.not_mem_nil⟩⟩⟩⟩⟩
set_option maxRecDepth 100000 in
theorem nc_if_146 : nc_IF 146 := List.forall_mem_cons.mpr ⟨⟨nc_at_in (p := (6, 24)) rfl rfl, rfl⟩, fun _ h => absurd h List.not_mem_nil⟩
set_option maxRecDepth 100000 in
theorem nc_if_147 : nc_IF 147 := List.forall_mem_cons.mpr ⟨⟨nc_at_in (p := (5, 41)) rfl rfl, rfl⟩, List.forall_mem_cons.mpr ⟨⟨nc_at_in (p := (5, 45)) rfl rfl, rfl⟩, List.forall_mem_cons.mpr ⟨⟨nc_at_in (p := (5, 46)) rfl rfl, rfl⟩, List.forall_mem_cons.mpr ⟨⟨nc_at_in (p := (5, 47)) rfl rfl, rfl⟩, List.forall_mem_cons.mpr ⟨⟨nc_at_in (p := (5, 48)) rfl rfl, rfl⟩, List.forall_mem_cons.mpr ⟨⟨nc_at_in (p := (5, 49)) rfl rfl, rfl⟩, fun _ h => absurd h List.not_mem_nil⟩⟩⟩⟩⟩⟩
set_option maxRecDepth 100000 in
theorem nc_if_148 : nc_IF 148 := List.forall_mem_cons.mpr ⟨⟨nc_at_in (p := (5, 61)) rfl rfl, rfl⟩, fun _ h => absurd h List.not_mem_nil⟩
set_option maxRecDepth 100000 in
theorem nc_if_149 : nc_IF 149 := List.forall_mem_cons.mpr ⟨⟨nc_at_in (p := (5, 57)) rfl rfl, rfl⟩, List.forall_mem_cons.mpr ⟨⟨nc_at_in (p := (5, 45)) rfl rfl, rfl⟩, List.forall_mem_cons.mpr ⟨⟨nc_at_in (p := (5, 54)) rfl rfl, rfl⟩, fun _ h => absurd h List.not_mem_nil⟩⟩⟩
set_option maxRecDepth 100000 in
theorem nc_if_150 : nc_IF 150 := List.forall_mem_cons.mpr ⟨⟨nc_at_in (p := (5, 37)) rfl rfl, rfl⟩, List.forall_mem_cons.mpr ⟨⟨nc_at_in (p := (5, 50)) rfl rfl, rfl⟩, List.forall_mem_cons.mpr ⟨⟨nc_at_in (p := (5, 57)) rfl rfl, rfl⟩, fun _ h => absurd h List.not_mem_nil⟩⟩⟩
set_option maxRecDepth 100000 in
theorem nc_if_151 : nc_IF 151 := List.forall_mem_cons.mpr ⟨⟨nc_at_in (p := (5, 37)) rfl rfl, rfl⟩, List.forall_mem_cons.mpr ⟨⟨nc_at_in (p := (5, 50)) rfl rfl, rfl⟩, List.forall_mem_cons.mpr ⟨⟨nc_at_in (p := (5, 57)) rfl rfl, rfl⟩, fun _ h => absurd h List.not_mem_nil⟩⟩⟩
set_option maxRecDepth 100000 in
theorem nc_if_152 : nc_IF 152 := List.forall_mem_cons.mpr ⟨⟨nc_at_in (p := (5, 45)) rfl rfl, rfl⟩, fun _ h => absurd h List.not_mem_nil⟩
set_option maxRecDepth 100000 in
theorem nc_if_153 : nc_IF 153 := List.forall_mem_cons.mpr ⟨⟨nc_at_in (p := (5, 37)) rfl rfl, rfl⟩, List.forall_mem_cons.mpr ⟨⟨nc_at_in (p := (5, 57)) rfl rfl, rfl⟩, List.forall_mem_cons.mpr ⟨⟨nc_at_in (p := (5, 45)) rfl rfl, rfl⟩, List.forall_mem_cons.mpr ⟨⟨nc_at_in (p := (5, 54)) rfl rfl, rfl⟩, List.forall_mem_cons.mpr ⟨⟨nc_at_in (p := (5, 70)) rfl rfl, rfl⟩, fun _ h => absurd h List.not_mem_nil⟩⟩⟩⟩⟩
set_option maxRecDepth 100000 in
theorem nc_if_154 : nc_IF 154 := List.forall_mem_cons.mpr ⟨⟨nc_at_in (p := (5, 174)) rfl rfl, rfl⟩, fun _ h => absurd h List.not_mem_nil⟩
set_option maxRecDepth 100000 in
theorem nc_if_155 : nc_IF 155 := List.forall_mem_cons.mpr ⟨⟨nc_at_in (p := (5, 37)) rfl rfl, rfl⟩, List.forall_mem_cons.mpr ⟨⟨nc_at_in (p := (5, 57)) rfl rfl, rfl⟩, List.forall_mem_cons.mpr ⟨⟨nc_at_in (p := (5, 41)) rfl rfl, rfl⟩, List.forall_mem_cons.mpr ⟨⟨nc_at_in (p := (5, 45)) rfl rfl, rfl⟩, List.forall_mem_cons.mpr ⟨⟨nc_at_in (p := (5, 54)) rfl rfl, rfl⟩, List.forall_mem_cons.mpr ⟨⟨nc_at_in (p := (5, 165)) rfl rfl, rfl⟩, List.forall_mem_cons.mpr ⟨⟨nc_at_in (p := (5, 166)) rfl rfl, rfl⟩, List.forall_mem_cons.mpr ⟨⟨nc_at_in (p := (5, 170)) rfl rfl, rfl⟩, fun _ h => absurd h List.not_mem_nil⟩⟩⟩⟩⟩⟩⟩⟩
set_option maxRecDepth 100000 in
theorem nc_if_156 : nc_IF 156 := List.forall_mem_cons.mpr ⟨⟨nc_at_in (p := (3, 153)) rfl rfl, rfl⟩, List.forall_mem_cons.mpr ⟨⟨nc_at_in (p := (3, 156)) rfl rfl, rfl⟩, fun _ h => absurd h List.not_mem_nil⟩⟩
set_option maxRecDepth 100000 in
theorem nc_if_157 : nc_IF 157 := List.forall_mem_cons.mpr ⟨⟨nc_at_in (p := (4, 93)) rfl rfl, rfl⟩, fun _ h => absurd h List.not_mem_nil⟩
set_option maxRecDepth 100000 in
theorem nc_if_158 : nc_IF 158 := List.forall_mem_cons.mpr ⟨⟨nc_at_in (p := (4, 32)) rfl rfl, rfl⟩, List.forall_mem_cons.mpr ⟨⟨nc_at_in (p := (4, 33)) rfl rfl, rfl⟩, List.forall_mem_cons.mpr ⟨⟨nc_at_in (p := (4, 34)) rfl rfl, rfl⟩, fun _ h => absurd h List.not_mem_nil⟩⟩⟩
set_option maxRecDepth 100000 in
theorem nc_if_159 : nc_IF 159 := List.forall_mem_cons.mpr ⟨⟨nc_at_in (p := (4, 77)) rfl rfl, rfl⟩, fun _ h => absurd h List.not_mem_nil⟩
set_option maxRecDepth 100000 in
theorem nc_if_160 : nc_IF 160 := List.forall_mem_cons.mpr ⟨⟨nc_at_in (p := (5, 146)) rfl rfl, rfl⟩, List.forall_mem_cons.mpr ⟨⟨nc_at_in (p := (5, 147)) rfl rfl, rfl⟩, fun _ h => absurd h List.not_mem_nil⟩⟩
set_option maxRecDepth 100000 in
theorem nc_if_161 : nc_IF 161 := List.forall_mem_cons.mpr ⟨⟨nc_at_in (p := (4, 24)) rfl rfl, rfl⟩, List.forall_mem_cons.mpr ⟨⟨nc_at_in (p := (4, 28)) rfl rfl, rfl⟩, List.forall_mem_cons.mpr ⟨⟨nc_at_in (p := (4, 38)) rfl rfl, rfl⟩, fun _ h => absurd h List.not_mem_nil⟩⟩⟩
set_option maxRecDepth 100000 in
theorem nc_if_162 : nc_IF 162 := List.forall_mem_cons.mpr ⟨⟨nc_at_in (p := (4, 24)) rfl rfl, rfl⟩, List.forall_mem_cons.mpr ⟨⟨nc_at_in (p := (4, 28)) rfl rfl, rfl⟩, List.forall_mem_cons.mpr ⟨⟨nc_at_in (p := (4, 38)) rfl rfl, rfl⟩, List.forall_mem_cons.mpr ⟨⟨nc_at_in (p := (4, 55)) rfl rfl, rfl⟩, List.forall_mem_cons.mpr ⟨⟨nc_at_in (p := (4, 56)) rfl rfl, rfl⟩, List.forall_mem_cons.mpr ⟨⟨nc_at_in (p := (4, 60)) rfl rfl, rfl⟩, fun _ h => absurd h List.not_mem_nil⟩⟩⟩⟩⟩⟩
set_option maxRecDepth 100000 in
theorem nc_if_163 : nc_IF 163 := List.forall_mem_cons.mpr ⟨⟨nc_at_in (p := (4, 16)) rfl rfl, rfl⟩, List.forall_mem_cons.mpr ⟨⟨nc_at_in (p := (4, 24)) rfl rfl, rfl⟩, List.forall_mem_cons.mpr ⟨⟨nc_at_in (p := (4, 28)) rfl rfl, rfl⟩, List.forall_mem_cons.mpr ⟨⟨nc_at_in (p := (4, 55)) rfl rfl, rfl⟩, List.forall_mem_cons.mpr ⟨⟨nc_at_in (p := (4, 60)) rfl rfl, rfl⟩, List.forall_mem_cons.mpr ⟨⟨nc_at_in (p := (4, 68)) rfl rfl, rfl⟩, fun _ h => absurd h List.not_mem_nil⟩⟩⟩⟩⟩⟩
set_option maxRecDepth 100000 in
theorem nc_if_164 : nc_IF 164 := List.forall_mem_cons.mpr ⟨⟨nc_at_in (p := (4, 24)) rfl rfl, rfl⟩, List.forall_mem_cons.mpr ⟨⟨nc_at_in (p := (4, 38)) rfl rfl, rfl⟩, List.forall_mem_cons.mpr ⟨⟨nc_at_in (p := (4, 55)) rfl rfl, rfl⟩, List.forall_mem_cons.mpr ⟨⟨nc_at_in (p := (4, 56)) rfl rfl, rfl⟩, List.forall_mem_cons.mpr ⟨⟨nc_at_in (p := (4, 60)) rfl rfl, rfl⟩, List.forall_mem_cons.mpr ⟨⟨nc_at_in (p := (4, 73)) rfl rfl, rfl⟩, fun _ h => absurd h List.not_mem_nil⟩⟩⟩⟩⟩⟩
set_option maxRecDepth 100000 in
theorem nc_if_165 : nc_IF 165 := List.forall_mem_cons.mpr ⟨⟨nc_at_in (p := (4, 24)) rfl rfl, rfl⟩, List.forall_mem_cons.mpr ⟨⟨nc_at_in (p := (4, 38)) rfl rfl, rfl⟩, List.forall_mem_cons.mpr ⟨⟨nc_at_in (p := (4, 60)) rfl rfl, rfl⟩, fun _ h => absurd h List.not_mem_nil⟩⟩⟩
set_option maxRecDepth 100000 in
theorem nc_if_166 : nc_IF 166 := List.forall_mem_cons.mpr ⟨⟨nc_at_in (p := (4, 16)) rfl rfl, rfl⟩, List.forall_mem_cons.mpr ⟨⟨nc_at_in (p := (4, 20)) rfl rfl, rfl⟩, List.forall_mem_cons.mpr ⟨⟨nc_at_in (p := (4, 51)) rfl rfl, rfl⟩, List.forall_mem_cons.mpr ⟨⟨nc_at_in (p := (4, 64)) rfl rfl, rfl⟩, List.forall_mem_cons.mpr ⟨⟨nc_at_in (p := (4, 69)) rfl rfl, rfl⟩, List.forall_mem_cons.mpr ⟨⟨nc_at_in (p := (4, 81)) rfl rfl, rfl⟩, List.forall_mem_cons.mpr ⟨⟨nc_at_in (p := (4, 24)) rfl rfl, rfl⟩, fun _ h => absurd h List.not_mem_nil⟩⟩⟩⟩⟩⟩⟩
set_option maxRecDepth 100000 in
theorem nc_if_167 : nc_IF 167 := List.forall_mem_cons.mpr ⟨⟨nc_at_in (p := (3, 149)) rfl rfl, rfl⟩, List.forall_mem_cons.mpr ⟨⟨nc_at_in (p := (3, 157)) rfl rfl, rfl⟩, List.forall_mem_cons.mpr ⟨⟨nc_at_in (p := (4, 4)) rfl rfl, rfl⟩, List.forall_mem_cons.mpr ⟨⟨nc_at_in (p := (4, 12)) rfl rfl, rfl⟩, List.forall_mem_cons.mpr ⟨⟨nc_at_in (p := (4, 85)) rfl rfl, rfl⟩, fun _ h => absurd h List.not_mem_nil⟩⟩⟩⟩⟩
set_option maxRecDepth 100000 in
theorem nc_if_168 : nc_IF 168 := List.forall_mem_cons.mpr ⟨⟨nc_at_in (p := (5, 219)) rfl rfl, rfl⟩, List.forall_mem_cons.mpr ⟨⟨nc_at_in (p := (5, 224)) rfl rfl, rfl⟩, List.forall_mem_cons.mpr ⟨⟨nc_at_in (p := (5, 225)) rfl rfl, rfl⟩, List.forall_mem_cons.mpr ⟨⟨nc_at_in (p := (5, 226)) rfl rfl, rfl⟩, List.forall_mem_cons.mpr ⟨⟨nc_at_in (p := (5, 227)) rfl rfl, rfl⟩, fun _ h => absurd h List.not_mem_nil⟩⟩⟩⟩⟩
set_option maxRecDepth 100000 in
theorem nc_if_169 : nc_IF 169 := List.forall_mem_cons.mpr ⟨⟨nc_at_in (p := (4, 170)) rfl rfl, rfl⟩, List.forall_mem_cons.mpr ⟨⟨nc_at_in (p := (4, 175)) rfl rfl, rfl⟩, fun _ h => absurd h List.not_mem_nil⟩⟩
set_option maxRecDepth 100000 in
theorem nc_if_170 : nc_IF 170 := List.forall_mem_cons.mpr ⟨⟨nc_at_in (p := (4, 170)) rfl rfl, rfl⟩, fun _ h => absurd h List.not_mem_nil⟩
set_option maxRecDepth 100000 in
theorem nc_if_171 : nc_IF 171 := List.forall_mem_cons.mpr ⟨⟨nc_at_in (p := (2, 50)) rfl rfl, rfl⟩, fun _ h => absurd h List.not_mem_nil⟩
set_option maxRecDepth 100000 in
theorem nc_if_172 : nc_IF 172 := List.forall_mem_cons.mpr ⟨⟨nc_at_in (p := (5, 94)) rfl rfl, rfl⟩, fun _ h => absurd h List.not_mem_nil⟩
set_option maxRecDepth 100000 in
theorem nc_if_173 : nc_IF 173 := List.forall_mem_cons.mpr ⟨⟨nc_at_in (p := (6, 79)) rfl rfl, rfl⟩, fun _ h => absurd h List.not_mem_nil⟩
set_option maxRecDepth 100000 in
theorem nc_if_174 : nc_IF 174 := List.forall_mem_cons.mpr ⟨⟨nc_at_in (p := (6, 45)) rfl rfl, rfl⟩, List.forall_mem_cons.mpr ⟨⟨nc_at_in (p := (6, 46)) rfl rfl, rfl⟩, List.forall_mem_cons.mpr ⟨⟨nc_at_in (p := (6, 47)) rfl rfl, rfl⟩, List.forall_mem_cons.mpr ⟨⟨nc_at_in (p := (6, 48)) rfl rfl, rfl⟩, List.forall_mem_cons.mpr ⟨⟨nc_at_in (p := (6, 74)) rfl rfl, rfl⟩, fun _ h => absurd h List.not_mem_nil⟩⟩⟩⟩⟩
set_option maxRecDepth 100000 in
theorem nc_if_175 : nc_IF 175 := List.forall_mem_cons.mpr ⟨⟨nc_at_in (p := (6, 92)) rfl rfl, rfl⟩, List.forall_mem_cons.mpr ⟨⟨nc_at_in (p := (6, 93)) rfl rfl, rfl⟩, List.forall_mem_cons.mpr ⟨⟨nc_at_in (p := (6, 94)) rfl rfl, rfl⟩, List.forall_mem_cons.mpr ⟨⟨nc_at_in (p := (6, 95)) rfl rfl, rfl⟩, fun _ h => absurd h List.not_mem_nil⟩⟩⟩⟩
set_option maxRecDepth 100000 in
theorem nc_if_176 : nc_IF 176 := List.forall_mem_cons.mpr ⟨⟨nc_at_in (p := (6, 88)) rfl rfl, rfl⟩, fun _ h => absurd h List.not_mem_nil⟩
set_option maxRecDepth 100000 in
theorem nc_if_177 : nc_IF 177 := List.forall_mem_cons.mpr ⟨⟨nc_at_in (p := (3, 133)) rfl rfl, rfl⟩, fun _ h => absurd h List.not_mem_nil⟩
set_option maxRecDepth 100000 in
theorem nc_if_178 : nc_IF 178 := List.forall_mem_cons.mpr ⟨⟨nc_at_in (p := (3, 145)) rfl rfl, rfl⟩, List.forall_mem_cons.mpr ⟨⟨nc_at_in (p := (4, 89)) rfl rfl, rfl⟩, List.forall_mem_cons.mpr ⟨⟨nc_at_in (p := (4, 96)) rfl rfl, rfl⟩, List.forall_mem_cons.mpr ⟨⟨nc_at_in (p := (4, 100)) rfl rfl, rfl⟩, List.forall_mem_cons.mpr ⟨⟨nc_at_in (p := (4, 104)) rfl rfl, rfl⟩, fun _ h => absurd h List.not_mem_nil⟩⟩⟩⟩⟩
set_option maxRecDepth 100000 in
theorem nc_if_179 : nc_IF 179 := List.forall_mem_cons.mpr ⟨⟨nc_at_in (p := (4, 148)) rfl rfl, rfl⟩, List.forall_mem_cons.mpr ⟨⟨nc_at_in (p := (5, 32)) rfl rfl, rfl⟩, List.forall_mem_cons.mpr ⟨⟨nc_at_in (p := (6, 180)) rfl rfl, rfl⟩, List.forall_mem_cons.mpr ⟨⟨nc_at_in (p := (6, 181)) rfl rfl, rfl⟩, fun _ h => absurd h List.not_mem_nil⟩⟩⟩⟩
set_option maxRecDepth 100000 in
theorem nc_if_180 : nc_IF 180 := List.forall_mem_cons.mpr ⟨⟨nc_at_in (p := (4, 116)) rfl rfl, rfl⟩, List.forall_mem_cons.mpr ⟨⟨nc_at_in (p := (4, 120)) rfl rfl, rfl⟩, List.forall_mem_cons.mpr ⟨⟨nc_at_in (p := (4, 124)) rfl rfl, rfl⟩, fun _ h => absurd h List.not_mem_nil⟩⟩⟩
set_option maxRecDepth 100000 in
theorem nc_if_181 : nc_IF 181 := List.forall_mem_cons.mpr ⟨⟨nc_at_in (p := (6, 181)) rfl rfl, rfl⟩, fun _ h => absurd h List.not_mem_nil⟩
set_option maxRecDepth 100000 in
theorem nc_if_182 : nc_IF 182 := List.forall_mem_cons.mpr ⟨⟨nc_at_in (p := (5, 138)) rfl rfl, rfl⟩, List.forall_mem_cons.mpr ⟨⟨nc_at_in (p := (6, 189)) rfl rfl, rfl⟩, List.forall_mem_cons.mpr ⟨⟨nc_at_in (p := (6, 193)) rfl rfl, rfl⟩, fun _ h => absurd h List.not_mem_nil⟩⟩⟩
set_option maxRecDepth 100000 in
theorem nc_if_183 : nc_IF 183 := List.forall_mem_cons.mpr ⟨⟨nc_at_in (p := (4, 132)) rfl rfl, rfl⟩, List.forall_mem_cons.mpr ⟨⟨nc_at_in (p := (4, 136)) rfl rfl, rfl⟩, fun _ h => absurd h List.not_mem_nil⟩⟩
set_option maxRecDepth 100000 in
theorem nc_if_184 : nc_IF 184 := List.forall_mem_cons.mpr ⟨⟨nc_at_in (p := (4, 148)) rfl rfl, rfl⟩, List.forall_mem_cons.mpr ⟨⟨nc_at_in (p := (4, 116)) rfl rfl, rfl⟩, List.forall_mem_cons.mpr ⟨⟨nc_at_in (p := (4, 152)) rfl rfl, rfl⟩, fun _ h => absurd h List.not_mem_nil⟩⟩⟩
set_option maxRecDepth 100000 in
theorem nc_if_185 : nc_IF 185 := List.forall_mem_cons.mpr ⟨⟨nc_at_in (p := (4, 144)) rfl rfl, rfl⟩, List.forall_mem_cons.mpr ⟨⟨nc_at_in (p := (4, 166)) rfl rfl, rfl⟩, List.forall_mem_cons.mpr ⟨⟨nc_at_in (p := (4, 176)) rfl rfl, rfl⟩, fun _ h => absurd h List.not_mem_nil⟩⟩⟩
set_option maxRecDepth 100000 in
theorem nc_if_186 : nc_IF 186 := List.forall_mem_cons.mpr ⟨⟨nc_at_in (p := (4, 116)) rfl rfl, rfl⟩, List.forall_mem_cons.mpr ⟨⟨nc_at_in (p := (4, 166)) rfl rfl, rfl⟩, List.forall_mem_cons.mpr ⟨⟨nc_at_in (p := (4, 188)) rfl rfl, rfl⟩, List.forall_mem_cons.mpr ⟨⟨nc_at_in (p := (4, 193)) rfl rfl, rfl⟩, fun _ h => absurd h List.not_mem_nil⟩⟩⟩⟩
set_option maxRecDepth 100000 in
theorem nc_if_187 : nc_IF 187 := List.forall_mem_cons.mpr ⟨⟨nc_at_in (p := (4, 166)) rfl rfl, rfl⟩, List.forall_mem_cons.mpr ⟨⟨nc_at_in (p := (4, 209)) rfl rfl, rfl⟩, fun _ h => absurd h List.not_mem_nil⟩⟩
set_option maxRecDepth 100000 in
theorem nc_if_188 : nc_IF 188 := List.forall_mem_cons.mpr ⟨⟨nc_at_in (p := (5, 19)) rfl rfl, rfl⟩, fun _ h => absurd h List.not_mem_nil⟩
set_option maxRecDepth 100000 in
theorem nc_if_189 : nc_IF 189 := List.forall_mem_cons.mpr ⟨⟨nc_at_in (p := (4, 148)) rfl rfl, rfl⟩, List.forall_mem_cons.mpr ⟨⟨nc_at_in (p := (5, 32)) rfl rfl, rfl⟩, fun _ h => absurd h List.not_mem_nil⟩⟩
set_option maxRecDepth 100000 in
theorem nc_if_190 : nc_IF 190 := List.forall_mem_cons.mpr ⟨⟨nc_at_in (p := (5, 28)) rfl rfl, rfl⟩, List.forall_mem_cons.mpr ⟨⟨nc_at_in (p := (5, 33)) rfl rfl, rfl⟩, fun _ h => absurd h List.not_mem_nil⟩⟩
set_option maxRecDepth 100000 in
theorem nc_if_191 : nc_IF 191 := List.forall_mem_cons.mpr ⟨⟨nc_at_in (p := (5, 28)) rfl rfl, rfl⟩, List.forall_mem_cons.mpr ⟨⟨nc_at_in (p := (5, 66)) rfl rfl, rfl⟩, fun _ h => absurd h List.not_mem_nil⟩⟩
set_option maxRecDepth 100000 in
theorem nc_if_192 : nc_IF 192 := List.forall_mem_cons.mpr ⟨⟨nc_at_in (p := (5, 28)) rfl rfl, rfl⟩, List.forall_mem_cons.mpr ⟨⟨nc_at_in (p := (5, 82)) rfl rfl, rfl⟩, fun _ h => absurd h List.not_mem_nil⟩⟩
set_option maxRecDepth 100000 in
theorem nc_if_193 : nc_IF 193 := List.forall_mem_cons.mpr ⟨⟨nc_at_in (p := (4, 148)) rfl rfl, rfl⟩, List.forall_mem_cons.mpr ⟨⟨nc_at_in (p := (5, 90)) rfl rfl, rfl⟩, fun _ h => absurd h List.not_mem_nil⟩⟩
set_option maxRecDepth 100000 in
theorem nc_if_194 : nc_IF 194 := List.forall_mem_cons.mpr ⟨⟨nc_at_in (p := (4, 116)) rfl rfl, rfl⟩, List.forall_mem_cons.mpr ⟨⟨nc_at_in (p := (4, 124)) rfl rfl, rfl⟩, List.forall_mem_cons.mpr ⟨⟨nc_at_in (p := (5, 127)) rfl rfl, rfl⟩, List.forall_mem_cons.mpr ⟨⟨nc_at_in (p := (5, 128)) rfl rfl, rfl⟩, List.forall_mem_cons.mpr ⟨⟨nc_at_in (p := (5, 129)) rfl rfl, rfl⟩, List.forall_mem_cons.mpr ⟨⟨nc_at_in (p := (5, 130)) rfl rfl, rfl⟩, fun _ h => absurd h List.not_mem_nil⟩⟩⟩⟩⟩⟩
set_option maxRecDepth 100000 in
theorem nc_if_195 : nc_IF 195 := List.forall_mem_cons.mpr ⟨⟨nc_at_in (p := (5, 138)) rfl rfl, rfl⟩, List.forall_mem_cons.mpr ⟨⟨nc_at_in (p := (5, 142)) rfl rfl, rfl⟩, List.forall_mem_cons.mpr ⟨⟨nc_at_in (p := (5, 151)) rfl rfl, rfl⟩, fun _ h => absurd h List.not_mem_nil⟩⟩⟩
set_option maxRecDepth 100000 in
theorem nc_if_196 : nc_IF 196 := List.forall_mem_cons.mpr ⟨⟨nc_at_in (p := (5, 28)) rfl rfl, rfl⟩, List.forall_mem_cons.mpr ⟨⟨nc_at_in (p := (5, 160)) rfl rfl, rfl⟩, List.forall_mem_cons.mpr ⟨⟨nc_at_in (p := (5, 161)) rfl rfl, rfl⟩, fun _ h => absurd h List.not_mem_nil⟩⟩⟩
set_option maxRecDepth 100000 in
theorem nc_if_197 : nc_IF 197 := List.forall_mem_cons.mpr ⟨⟨nc_at_in (p := (4, 116)) rfl rfl, rfl⟩, List.forall_mem_cons.mpr ⟨⟨nc_at_in (p := (4, 188)) rfl rfl, rfl⟩, List.forall_mem_cons.mpr ⟨⟨nc_at_in (p := (5, 189)) rfl rfl, rfl⟩, fun _ h => absurd h List.not_mem_nil⟩⟩⟩
set_option maxRecDepth 100000 in
theorem nc_if_198 : nc_IF 198 := List.forall_mem_cons.mpr ⟨⟨nc_at_in (p := (5, 160)) rfl rfl, rfl⟩, List.forall_mem_cons.mpr ⟨⟨nc_at_in (p := (5, 199)) rfl rfl, rfl⟩, fun _ h => absurd h List.not_mem_nil⟩⟩
set_option maxRecDepth 100000 in
theorem nc_if_199 : nc_IF 199 := List.forall_mem_cons.mpr ⟨⟨nc_at_in (p := (5, 138)) rfl rfl, rfl⟩, List.forall_mem_cons.mpr ⟨⟨nc_at_in (p := (5, 194)) rfl rfl, rfl⟩, List.forall_mem_cons.mpr ⟨⟨nc_at_in (p := (5, 195)) rfl rfl, rfl⟩, fun _ h => absurd h List.not_mem_nil⟩⟩⟩
set_option maxRecDepth 100000 in
theorem nc_if_200 : nc_IF 200 := List.forall_mem_cons.mpr ⟨⟨nc_at_in (p := (5, 138)) rfl rfl, rfl⟩, List.forall_mem_cons.mpr ⟨⟨nc_at_in (p := (5, 199)) rfl rfl, rfl⟩, fun _ h => absurd h List.not_mem_nil⟩⟩
set_option maxRecDepth 100000 in
theorem nc_if_201 : nc_IF 201 := List.forall_mem_cons.mpr ⟨⟨nc_at_in (p := (4, 132)) rfl rfl, rfl⟩, List.forall_mem_cons.mpr ⟨⟨nc_at_in (p := (4, 209)) rfl rfl, rfl⟩, List.forall_mem_cons.mpr ⟨⟨nc_at_in (p := (5, 127)) rfl rfl, rfl⟩, fun _ h => absurd h List.not_mem_nil⟩⟩⟩
set_option maxRecDepth 100000 in
theorem nc_if_202 : nc_IF 202 := List.forall_mem_cons.mpr ⟨⟨nc_at_in (p := (4, 166)) rfl rfl, rfl⟩, List.forall_mem_cons.mpr ⟨⟨nc_at_in (p := (4, 209)) rfl rfl, rfl⟩, List.forall_mem_cons.mpr ⟨⟨nc_at_in (p := (5, 215)) rfl rfl, rfl⟩, fun _ h => absurd h List.not_mem_nil⟩⟩⟩
set_option maxRecDepth 100000 in
theorem nc_if_203 : nc_IF 203 := List.forall_mem_cons.mpr ⟨⟨nc_at_in (p := (5, 32)) rfl rfl, rfl⟩, List.forall_mem_cons.mpr ⟨⟨nc_at_in (p := (5, 128)) rfl rfl, rfl⟩, List.forall_mem_cons.mpr ⟨⟨nc_at_in (p := (5, 129)) rfl rfl, rfl⟩, List.forall_mem_cons.mpr ⟨⟨nc_at_in (p := (5, 215)) rfl rfl, rfl⟩, fun _ h => absurd h List.not_mem_nil⟩⟩⟩⟩
set_option maxRecDepth 100000 in
theorem nc_if_204 : nc_IF 204 := List.forall_mem_cons.mpr ⟨⟨nc_at_in (p := (4, 148)) rfl rfl, rfl⟩, List.forall_mem_cons.mpr ⟨⟨nc_at_in (p := (5, 127)) rfl rfl, rfl⟩, List.forall_mem_cons.mpr ⟨⟨nc_at_in (p := (5, 232)) rfl rfl, rfl⟩, fun _ h => absurd h List.not_mem_nil⟩⟩⟩
set_option maxRecDepth 100000 in
theorem nc_if_205 : nc_IF 205 := List.forall_mem_cons.mpr ⟨⟨nc_at_in (p := (4, 166)) rfl rfl, rfl⟩, List.forall_mem_cons.mpr ⟨⟨nc_at_in (p := (5, 127)) rfl rfl, rfl⟩, List.forall_mem_cons.mpr ⟨⟨nc_at_in (p := (6, 0)) rfl rfl, rfl⟩, List.forall_mem_cons.mpr ⟨⟨nc_at_in (p := (6, 20)) rfl rfl, rfl⟩, fun _ h => absurd h List.not_mem_nil⟩⟩⟩⟩
set_option maxRecDepth 100000 in
theorem nc_if_206 : nc_IF 206 := List.forall_mem_cons.mpr ⟨⟨nc_at_in (p := (6, 41)) rfl rfl, rfl⟩, List.forall_mem_cons.mpr ⟨⟨nc_at_in (p := (6, 75)) rfl rfl, rfl⟩, fun _ h => absurd h List.not_mem_nil⟩⟩
set_option maxRecDepth 100000 in
theorem nc_if_207 : nc_IF 207 := List.forall_mem_cons.mpr ⟨⟨nc_at_in (p := (6, 84)) rfl rfl, rfl⟩, fun _ h => absurd h List.not_mem_nil⟩
set_option maxRecDepth 100000 in
theorem nc_if_208 : nc_IF 208 := List.forall_mem_cons.mpr ⟨⟨nc_at_in (p := (4, 89)) rfl rfl, rfl⟩, List.forall_mem_cons.mpr ⟨⟨nc_at_in (p := (5, 127)) rfl rfl, rfl⟩, List.forall_mem_cons.mpr ⟨⟨nc_at_in (p := (6, 75)) rfl rfl, rfl⟩, fun _ h => absurd h List.not_mem_nil⟩⟩⟩
set_option maxRecDepth 100000 in
theorem nc_if_209 : nc_IF 209 := List.forall_mem_cons.mpr ⟨⟨nc_at_in (p := (4, 89)) rfl rfl, rfl⟩, List.forall_mem_cons.mpr ⟨⟨nc_at_in (p := (4, 104)) rfl rfl, rfl⟩, List.forall_mem_cons.mpr ⟨⟨nc_at_in (p := (5, 127)) rfl rfl, rfl⟩, List.forall_mem_cons.mpr ⟨⟨nc_at_in (p := (6, 75)) rfl rfl, rfl⟩, fun _ h => absurd h List.not_mem_nil⟩⟩⟩⟩
set_option maxRecDepth 100000 in
theorem nc_if_210 : nc_IF 210 := List.forall_mem_cons.mpr ⟨⟨nc_at_in (p := (6, 202)) rfl rfl, rfl⟩, fun _ h => absurd h List.not_mem_nil⟩
set_option maxRecDepth 100000 in
theorem nc_if_211 : nc_IF 211 := List.forall_mem_cons.mpr ⟨⟨nc_at_in (p := (7, 161)) rfl rfl, rfl⟩, List.forall_mem_cons.mpr ⟨⟨nc_at_in (p := (7, 165)) rfl rfl, rfl⟩, List.forall_mem_cons.mpr ⟨⟨nc_at_in (p := (7, 168)) rfl rfl, rfl⟩, fun _ h => absurd h List.not_mem_nil⟩⟩⟩
set_option maxRecDepth 100000 in
theorem nc_if_212 : nc_IF 212 := List.forall_mem_cons.mpr ⟨⟨nc_at_in (p := (7, 230)) rfl rfl, rfl⟩, List.forall_mem_cons.mpr ⟨⟨nc_at_in (p := (7, 179)) rfl rfl, rfl⟩, List.forall_mem_cons.mpr ⟨⟨nc_at_in (p := (7, 157)) rfl rfl, rfl⟩, fun _ h => absurd h List.not_mem_nil⟩⟩⟩
set_option maxRecDepth 100000 in
theorem nc_if_213 : nc_IF 213 := List.forall_mem_cons.mpr ⟨⟨nc_at_in (p := (7, 179)) rfl rfl, rfl⟩, List.forall_mem_cons.mpr ⟨⟨nc_at_in (p := (7, 157)) rfl rfl, rfl⟩, List.forall_mem_cons.mpr ⟨⟨nc_at_in (p := (7, 211)) rfl rfl, rfl⟩, fun _ h => absurd h List.not_mem_nil⟩⟩⟩
set_option maxRecDepth 100000 in
theorem nc_if_214 : nc_IF 214 := List.forall_mem_cons.mpr ⟨⟨nc_at_in (p := (7, 207)) rfl rfl, rfl⟩, fun _ h => absurd h List.not_mem_nil⟩
set_option maxRecDepth 100000 in
theorem nc_if_215 : nc_IF 215 := List.forall_mem_cons.mpr ⟨⟨nc_at_in (p := (7, 179)) rfl rfl, rfl⟩, List.forall_mem_cons.mpr ⟨⟨nc_at_in (p := (7, 157)) rfl rfl, rfl⟩, List.forall_mem_cons.mpr ⟨⟨nc_at_in (p := (7, 187)) rfl rfl, rfl⟩, List.forall_mem_cons.mpr ⟨⟨nc_at_in (p := (7, 191)) rfl rfl, rfl⟩, fun _ h => absurd h List.not_mem_nil⟩⟩⟩⟩
set_option maxRecDepth 100000 in
theorem nc_if_216 : nc_IF 216 := List.forall_mem_cons.mpr ⟨⟨nc_at_in (p := (7, 179)) rfl rfl, rfl⟩, List.forall_mem_cons.mpr ⟨⟨nc_at_in (p := (7, 187)) rfl rfl, rfl⟩, List.forall_mem_cons.mpr ⟨⟨nc_at_in (p := (7, 191)) rfl rfl, rfl⟩, fun _ h => absurd h List.not_mem_nil⟩⟩⟩
set_option maxRecDepth 100000 in
theorem nc_if_217 : nc_IF 217 := List.forall_mem_cons.mpr ⟨⟨nc_at_in (p := (7, 157)) rfl rfl, rfl⟩, List.forall_mem_cons.mpr ⟨⟨nc_at_in (p := (7, 199)) rfl rfl, rfl⟩, fun _ h => absurd h List.not_mem_nil⟩⟩
set_option maxRecDepth 100000 in
theorem nc_if_218 : nc_IF 218 := List.forall_mem_cons.mpr ⟨⟨nc_at_in (p := (7, 175)) rfl rfl, rfl⟩, fun _ h => absurd h List.not_mem_nil⟩
set_option maxRecDepth 100000 in
theorem nc_if_219 : nc_IF 219 := List.forall_mem_cons.mpr ⟨⟨nc_at_in (p := (7, 179)) rfl rfl, rfl⟩, List.forall_mem_cons.mpr ⟨⟨nc_at_in (p := (7, 157)) rfl rfl, rfl⟩, List.forall_mem_cons.mpr ⟨⟨nc_at_in (p := (7, 175)) rfl rfl, rfl⟩, List.forall_mem_cons.mpr ⟨⟨nc_at_in (p := (7, 183)) rfl rfl, rfl⟩, List.forall_mem_cons.mpr ⟨⟨nc_at_in (p := (7, 203)) rfl rfl, rfl⟩, List.forall_mem_cons.mpr ⟨⟨nc_at_in (p := (7, 218)) rfl rfl, rfl⟩, fun _ h => absurd h List.not_mem_nil⟩⟩⟩⟩⟩⟩
set_option maxRecDepth 100000 in
theorem nc_if_220 : nc_IF 220 := List.forall_mem_cons.mpr ⟨⟨nc_at_in (p := (7, 179)) rfl rfl, rfl⟩, List.forall_mem_cons.mpr ⟨⟨nc_at_in (p := (7, 157)) rfl rfl, rfl⟩, List.forall_mem_cons.mpr ⟨⟨nc_at_in (p := (7, 199)) rfl rfl, rfl⟩, List.forall_mem_cons.mpr ⟨⟨nc_at_in (p := (7, 195)) rfl rfl, rfl⟩, List.forall_mem_cons.mpr ⟨⟨nc_at_in (p := (7, 203)) rfl rfl, rfl⟩, fun _ h => absurd h List.not_mem_nil⟩⟩⟩⟩⟩
set_option maxRecDepth 100000 in
theorem nc_if_221 : nc_IF 221 := List.forall_mem_cons.mpr ⟨⟨nc_at_in (p := (7, 179)) rfl rfl, rfl⟩, List.forall_mem_cons.mpr ⟨⟨nc_at_in (p := (7, 157)) rfl rfl, rfl⟩, List.forall_mem_cons.mpr ⟨⟨nc_at_in (p := (7, 175)) rfl rfl, rfl⟩, List.forall_mem_cons.mpr ⟨⟨nc_at_in (p := (7, 183)) rfl rfl, rfl⟩, List.forall_mem_cons.mpr ⟨⟨nc_at_in (p := (7, 195)) rfl rfl, rfl⟩, List.forall_mem_cons.mpr ⟨⟨nc_at_in (p := (7, 203)) rfl rfl, rfl⟩, List.forall_mem_cons.mpr ⟨⟨nc_at_in (p := (7, 214)) rfl rfl, rfl⟩, List.forall_mem_cons.mpr ⟨⟨nc_at_in (p := (7, 222)) rfl rfl, rfl⟩, fun _ h => absurd h List.not_mem_nil⟩⟩⟩⟩⟩⟩⟩⟩
set_option maxRecDepth 100000 in
theorem nc_if_222 : nc_IF 222 := List.forall_mem_cons.mpr ⟨⟨nc_at_in (p := (7, 157)) rfl rfl, rfl⟩, List.forall_mem_cons.mpr ⟨⟨nc_at_in (p := (7, 153)) rfl rfl, rfl⟩, List.forall_mem_cons.mpr ⟨⟨nc_at_in (p := (7, 171)) rfl rfl, rfl⟩, List.forall_mem_cons.mpr ⟨⟨nc_at_in (p := (7, 226)) rfl rfl, rfl⟩, fun _ h => absurd h List.not_mem_nil⟩⟩⟩⟩
set_option maxRecDepth 100000 in
theorem nc_if_223 : nc_IF 223 := List.forall_mem_cons.mpr ⟨⟨nc_at_in (p := (7, 211)) rfl rfl, rfl⟩, fun _ h => absurd h List.not_mem_nil⟩
set_option maxRecDepth 100000 in
theorem nc_if_224 : nc_IF 224 := List.forall_mem_cons.mpr ⟨⟨nc_at_in (p := (7, 211)) rfl rfl, rfl⟩, fun _ h => absurd h List.not_mem_nil⟩
set_option maxRecDepth 100000 in
theorem nc_if_225 : nc_IF 225 := List.forall_mem_cons.mpr ⟨⟨nc_at_in (p := (7, 211)) rfl rfl, rfl⟩, fun _ h => absurd h List.not_mem_nil⟩
set_option maxRecDepth 100000 in
theorem nc_if_226 : nc_IF 226 := List.forall_mem_cons.mpr ⟨⟨nc_at_in (p := (8, 14)) rfl rfl, rfl⟩, fun _ h => absurd h List.not_mem_nil⟩
set_option maxRecDepth 100000 in
theorem nc_if_227 : nc_IF 227 := List.forall_mem_cons.mpr ⟨⟨nc_at_in (p := (8, 14)) rfl rfl, rfl⟩, fun _ h => absurd h List.not_mem_nil⟩
set_option maxRecDepth 100000 in
theorem nc_if_228 : nc_IF 228 := List.forall_mem_cons.mpr ⟨⟨nc_at_in (p := (8, 25)) rfl rfl, rfl⟩, fun _ h => absurd h List.not_mem_nil⟩
set_option maxRecDepth 100000 in
theorem nc_if_229 : nc_IF 229 := List.forall_mem_cons.mpr ⟨⟨nc_at_in (p := (8, 14)) rfl rfl, rfl⟩, fun _ h => absurd h List.not_mem_nil⟩
set_option maxRecDepth 100000 in
theorem nc_if_230 : nc_IF 230 := List.forall_mem_cons.mpr ⟨⟨nc_at_in (p := (8, 14)) rfl rfl, rfl⟩, List.forall_mem_cons.mpr ⟨⟨nc_at_in (p := (8, 41)) rfl rfl, rfl⟩, List.forall_mem_cons.mpr ⟨⟨nc_at_in (p := (8, 45)) rfl rfl, rfl⟩, List.forall_mem_cons.mpr ⟨⟨nc_at_in (p := (8, 49)) rfl rfl, rfl⟩, fun _ h => absurd h List.not_mem_nil⟩⟩⟩⟩
set_option maxRecDepth 100000 in
theorem nc_if_231 : nc_IF 231 := List.forall_mem_cons.mpr ⟨⟨nc_at_in (p := (8, 14)) rfl rfl, rfl⟩, List.forall_mem_cons.mpr ⟨⟨nc_at_in (p := (8, 10)) rfl rfl, rfl⟩, List.forall_mem_cons.mpr ⟨⟨nc_at_in (p := (8, 17)) rfl rfl, rfl⟩, List.forall_mem_cons.mpr ⟨⟨nc_at_in (p := (8, 21)) rfl rfl, rfl⟩, List.forall_mem_cons.mpr ⟨⟨nc_at_in (p := (8, 37)) rfl rfl, rfl⟩, fun _ h => absurd h List.not_mem_nil⟩⟩⟩⟩⟩
set_option maxRecDepth 100000 in
theorem nc_if_232 : nc_IF 232 := List.forall_mem_cons.mpr ⟨⟨nc_at_in (p := (8, 33)) rfl rfl, rfl⟩, fun _ h => absurd h List.not_mem_nil⟩
set_option maxRecDepth 100000 in
theorem nc_if_233 : nc_IF 233 := List.forall_mem_cons.mpr ⟨⟨nc_at_in (p := (7, 211)) rfl rfl, rfl⟩, List.forall_mem_cons.mpr ⟨⟨nc_at_in (p := (8, 10)) rfl rfl, rfl⟩, List.forall_mem_cons.mpr ⟨⟨nc_at_in (p := (8, 17)) rfl rfl, rfl⟩, List.forall_mem_cons.mpr ⟨⟨nc_at_in (p := (8, 21)) rfl rfl, rfl⟩, List.forall_mem_cons.mpr ⟨⟨nc_at_in (p := (8, 2)) rfl rfl, rfl⟩, List.forall_mem_cons.mpr ⟨⟨nc_at_in (p := (8, 6)) rfl rfl, rfl⟩, List.forall_mem_cons.mpr ⟨⟨nc_at_in (p := (8, 29)) rfl rfl, rfl⟩, fun _ h => absurd h List.not_mem_nil⟩⟩⟩⟩⟩⟩⟩
set_option maxRecDepth 100000 in
theorem nc_if_234 : nc_IF 234 := List.forall_mem_cons.mpr ⟨⟨nc_at_in (p := (8, 14)) rfl rfl, rfl⟩, List.forall_mem_cons.mpr ⟨⟨nc_at_in (p := (8, 25)) rfl rfl, rfl⟩, List.forall_mem_cons.mpr ⟨⟨nc_at_in (p := (8, 41)) rfl rfl, rfl⟩, List.forall_mem_cons.mpr ⟨⟨nc_at_in (p := (8, 56)) rfl rfl, rfl⟩, fun _ h => absurd h List.not_mem_nil⟩⟩⟩⟩
set_option maxRecDepth 100000 in
theorem nc_if_235 : nc_IF 235 := List.forall_mem_cons.mpr ⟨⟨nc_at_in (p := (8, 29)) rfl rfl, rfl⟩, fun _ h => absurd h List.not_mem_nil⟩
set_option maxRecDepth 100000 in
theorem nc_if_236 : nc_IF 236 := List.forall_mem_cons.mpr ⟨⟨nc_at_in (p := (7, 211)) rfl rfl, rfl⟩, List.forall_mem_cons.mpr ⟨⟨nc_at_in (p := (8, 6)) rfl rfl, rfl⟩, List.forall_mem_cons.mpr ⟨⟨nc_at_in (p := (8, 64)) rfl rfl, rfl⟩, List.forall_mem_cons.mpr ⟨⟨nc_at_in (p := (8, 68)) rfl rfl, rfl⟩, List.forall_mem_cons.mpr ⟨⟨nc_at_in (p := (8, 72)) rfl rfl, rfl⟩, fun _ h => absurd h List.not_mem_nil⟩⟩⟩⟩⟩
set_option maxRecDepth 100000 in
theorem nc_if_237 : nc_IF 237 := List.forall_mem_cons.mpr ⟨⟨nc_at_in (p := (8, 80)) rfl rfl, rfl⟩, List.forall_mem_cons.mpr ⟨⟨nc_at_in (p := (8, 84)) rfl rfl, rfl⟩, fun _ h => absurd h List.not_mem_nil⟩⟩
set_option maxRecDepth 100000 in
theorem nc_if_238 : nc_IF 238 := List.forall_mem_cons.mpr ⟨⟨nc_at_in (p := (8, 14)) rfl rfl, rfl⟩, List.forall_mem_cons.mpr ⟨⟨nc_at_in (p := (8, 10)) rfl rfl, rfl⟩, List.forall_mem_cons.mpr ⟨⟨nc_at_in (p := (8, 96)) rfl rfl, rfl⟩, fun _ h => absurd h List.not_mem_nil⟩⟩⟩
set_option maxRecDepth 100000 in
theorem nc_if_239 : nc_IF 239 := List.forall_mem_cons.mpr ⟨⟨nc_at_in (p := (8, 25)) rfl rfl, rfl⟩, fun _ h => absurd h List.not_mem_nil⟩
set_option maxRecDepth 100000 in
theorem nc_if_240 : nc_IF 240 := List.forall_mem_cons.mpr ⟨⟨nc_at_in (p := (8, 14)) rfl rfl, rfl⟩, List.forall_mem_cons.mpr ⟨⟨nc_at_in (p := (8, 41)) rfl rfl, rfl⟩, fun _ h => absurd h List.not_mem_nil⟩⟩
set_option maxRecDepth 100000 in
theorem nc_if_241 : nc_IF 241 := List.forall_mem_cons.mpr ⟨⟨nc_at_in (p := (8, 25)) rfl rfl, rfl⟩, List.forall_mem_cons.mpr ⟨⟨nc_at_in (p := (8, 10)) rfl rfl, rfl⟩, fun _ h => absurd h List.not_mem_nil⟩⟩
set_option maxRecDepth 100000 in
theorem nc_if_242 : nc_IF 242 := List.forall_mem_cons.mpr ⟨⟨nc_at_in (p := (8, 25)) rfl rfl, rfl⟩, List.forall_mem_cons.mpr ⟨⟨nc_at_in (p := (8, 10)) rfl rfl, rfl⟩, List.forall_mem_cons.mpr ⟨⟨nc_at_in (p := (8, 119)) rfl rfl, rfl⟩, fun _ h => absurd h List.not_mem_nil⟩⟩⟩
set_option maxRecDepth 100000 in
theorem nc_if_243 : nc_IF 243 := List.forall_mem_cons.mpr ⟨⟨nc_at_in (p := (8, 14)) rfl rfl, rfl⟩, fun _ h => absurd h List.not_mem_nil⟩
set_option maxRecDepth 100000 in
theorem nc_if_244 : nc_IF 244 := List.forall_mem_cons.mpr ⟨⟨nc_at_in (p := (8, 21)) rfl rfl, rfl⟩, List.forall_mem_cons.mpr ⟨⟨nc_at_in (p := (8, 29)) rfl rfl, rfl⟩, List.forall_mem_cons.mpr ⟨⟨nc_at_in (p := (8, 72)) rfl rfl, rfl⟩, List.forall_mem_cons.mpr ⟨⟨nc_at_in (p := (8, 80)) rfl rfl, rfl⟩, List.forall_mem_cons.mpr ⟨⟨nc_at_in (p := (8, 135)) rfl rfl, rfl⟩, fun _ h => absurd h List.not_mem_nil⟩⟩⟩⟩⟩
set_option maxRecDepth 100000 in
theorem nc_if_245 : nc_IF 245 := List.forall_mem_cons.mpr ⟨⟨nc_at_in (p := (8, 131)) rfl rfl, rfl⟩, fun _ h => absurd h List.not_mem_nil⟩
set_option maxRecDepth 100000 in
theorem nc_if_246 : nc_IF 246 := List.forall_mem_cons.mpr ⟨⟨nc_at_in (p := (8, 2)) rfl rfl, rfl⟩, List.forall_mem_cons.mpr ⟨⟨nc_at_in (p := (8, 56)) rfl rfl, rfl⟩, List.forall_mem_cons.mpr ⟨⟨nc_at_in (p := (8, 92)) rfl rfl, rfl⟩, List.forall_mem_cons.mpr ⟨⟨nc_at_in (p := (8, 99)) rfl rfl, rfl⟩, List.forall_mem_cons.mpr ⟨⟨nc_at_in (p := (8, 103)) rfl rfl, rfl⟩, fun _ h => absurd h List.not_mem_nil⟩⟩⟩⟩⟩
set_option maxRecDepth 100000 in
theorem nc_if_247 : nc_IF 247 := List.forall_mem_cons.mpr ⟨⟨nc_at_in (p := (8, 56)) rfl rfl, rfl⟩, List.forall_mem_cons.mpr ⟨⟨nc_at_in (p := (8, 99)) rfl rfl, rfl⟩, List.forall_mem_cons.mpr ⟨⟨nc_at_in (p := (8, 111)) rfl rfl, rfl⟩, List.forall_mem_cons.mpr ⟨⟨nc_at_in (p := (8, 115)) rfl rfl, rfl⟩, fun _ h => absurd h List.not_mem_nil⟩⟩⟩⟩
set_option maxRecDepth 100000 in
theorem nc_if_248 : nc_IF 248 := List.forall_mem_cons.mpr ⟨⟨nc_at_in (p := (7, 211)) rfl rfl, rfl⟩, List.forall_mem_cons.mpr ⟨⟨nc_at_in (p := (8, 99)) rfl rfl, rfl⟩, List.forall_mem_cons.mpr ⟨⟨nc_at_in (p := (8, 127)) rfl rfl, rfl⟩, fun _ h => absurd h List.not_mem_nil⟩⟩⟩
set_option maxRecDepth 100000 in
theorem nc_if_249 : nc_IF 249 := List.forall_mem_cons.mpr ⟨⟨nc_at_in (p := (8, 2)) rfl rfl, rfl⟩, List.forall_mem_cons.mpr ⟨⟨nc_at_in (p := (8, 56)) rfl rfl, rfl⟩, List.forall_mem_cons.mpr ⟨⟨nc_at_in (p := (8, 92)) rfl rfl, rfl⟩, fun _ h => absurd h List.not_mem_nil⟩⟩⟩
set_option maxRecDepth 100000 in
theorem nc_if_250 : nc_IF 250 := List.forall_mem_cons.mpr ⟨⟨nc_at_in (p := (8, 96)) rfl rfl, rfl⟩, fun _ h => absurd h List.not_mem_nil⟩
set_option maxRecDepth 100000 in
theorem nc_if_251 : nc_IF 251 := List.forall_mem_cons.mpr ⟨⟨nc_at_in (p := (8, 33)) rfl rfl, rfl⟩, List.forall_mem_cons.mpr ⟨⟨nc_at_in (p := (8, 96)) rfl rfl, rfl⟩, List.forall_mem_cons.mpr ⟨⟨nc_at_in (p := (8, 159)) rfl rfl, rfl⟩, fun _ h => absurd h List.not_mem_nil⟩⟩⟩
set_option maxRecDepth 100000 in
theorem nc_if_252 : nc_IF 252 := List.forall_mem_cons.mpr ⟨⟨nc_at_in (p := (8, 10)) rfl rfl, rfl⟩, List.forall_mem_cons.mpr ⟨⟨nc_at_in (p := (8, 33)) rfl rfl, rfl⟩, List.forall_mem_cons.mpr ⟨⟨nc_at_in (p := (8, 2)) rfl rfl, rfl⟩, List.forall_mem_cons.mpr ⟨⟨nc_at_in (p := (8, 151)) rfl rfl, rfl⟩, List.forall_mem_cons.mpr ⟨⟨nc_at_in (p := (8, 155)) rfl rfl, rfl⟩, List.forall_mem_cons.mpr ⟨⟨nc_at_in (p := (8, 163)) rfl rfl, rfl⟩, fun _ h => absurd h List.not_mem_nil⟩⟩⟩⟩⟩⟩
set_option maxRecDepth 100000 in
theorem nc_if_253 : nc_IF 253 := List.forall_mem_cons.mpr ⟨⟨nc_at_in (p := (7, 211)) rfl rfl, rfl⟩, List.forall_mem_cons.mpr ⟨⟨nc_at_in (p := (8, 10)) rfl rfl, rfl⟩, List.forall_mem_cons.mpr ⟨⟨nc_at_in (p := (8, 33)) rfl rfl, rfl⟩, List.forall_mem_cons.mpr ⟨⟨nc_at_in (p := (8, 2)) rfl rfl, rfl⟩, List.forall_mem_cons.mpr ⟨⟨nc_at_in (p := (8, 96)) rfl rfl, rfl⟩, List.forall_mem_cons.mpr ⟨⟨nc_at_in (p := (8, 159)) rfl rfl, rfl⟩, List.forall_mem_cons.mpr ⟨⟨nc_at_in (p := (8, 151)) rfl rfl, rfl⟩, List.forall_mem_cons.mpr ⟨⟨nc_at_in (p := (8, 163)) rfl rfl, rfl⟩, fun _ h => absurd h List.not_mem_nil⟩⟩⟩⟩⟩⟩⟩⟩
set_option maxRecDepth 100000 in
theorem nc_if_254 : nc_IF 254 := List.forall_mem_cons.mpr ⟨⟨nc_at_in (p := (8, 10)) rfl rfl, rfl⟩, List.forall_mem_cons.mpr ⟨⟨nc_at_in (p := (8, 33)) rfl rfl, rfl⟩, List.forall_mem_cons.mpr ⟨⟨nc_at_in (p := (8, 2)) rfl rfl, rfl⟩, List.forall_mem_cons.mpr ⟨⟨nc_at_in (p := (8, 151)) rfl rfl, rfl⟩, List.forall_mem_cons.mpr ⟨⟨nc_at_in (p := (8, 155)) rfl rfl, rfl⟩, fun _ h => absurd h List.not_mem_nil⟩⟩⟩⟩⟩
set_option maxRecDepth 100000 in
theorem nc_if_255 : nc_IF 255 := List.forall_mem_cons.mpr ⟨⟨nc_at_in (p := (8, 29)) rfl rfl, rfl⟩, List.forall_mem_cons.mpr ⟨⟨nc_at_in (p := (8, 131)) rfl rfl, rfl⟩, List.forall_mem_cons.mpr ⟨⟨nc_at_in (p := (8, 92)) rfl rfl, rfl⟩, List.forall_mem_cons.mpr ⟨⟨nc_at_in (p := (8, 103)) rfl rfl, rfl⟩, List.forall_mem_cons.mpr ⟨⟨nc_at_in (p := (8, 191)) rfl rfl, rfl⟩, List.forall_mem_cons.mpr ⟨⟨nc_at_in (p := (8, 195)) rfl rfl, rfl⟩, fun _ h => absurd h List.not_mem_nil⟩⟩⟩⟩⟩⟩
set_option maxRecDepth 100000 in
theorem nc_if_256 : nc_IF 256 := List.forall_mem_cons.mpr ⟨⟨nc_at_in (p := (7, 211)) rfl rfl, rfl⟩, List.forall_mem_cons.mpr ⟨⟨nc_at_in (p := (8, 2)) rfl rfl, rfl⟩, List.forall_mem_cons.mpr ⟨⟨nc_at_in (p := (8, 191)) rfl rfl, rfl⟩, List.forall_mem_cons.mpr ⟨⟨nc_at_in (p := (8, 183)) rfl rfl, rfl⟩, List.forall_mem_cons.mpr ⟨⟨nc_at_in (p := (8, 187)) rfl rfl, rfl⟩, fun _ h => absurd h List.not_mem_nil⟩⟩⟩⟩⟩
set_option maxRecDepth 100000 in
theorem nc_if_257 : nc_IF 257 := List.forall_mem_cons.mpr ⟨⟨nc_at_in (p := (7, 211)) rfl rfl, rfl⟩, fun _ h => absurd h List.not_mem_nil⟩
set_option maxRecDepth 100000 in
theorem nc_if_258 : nc_IF 258 := List.forall_mem_cons.mpr ⟨⟨nc_at_in (p := (8, 25)) rfl rfl, rfl⟩, List.forall_mem_cons.mpr ⟨⟨nc_at_in (p := (8, 56)) rfl rfl, rfl⟩, List.forall_mem_cons.mpr ⟨⟨nc_at_in (p := (8, 127)) rfl rfl, rfl⟩, List.forall_mem_cons.mpr ⟨⟨nc_at_in (p := (8, 195)) rfl rfl, rfl⟩, List.forall_mem_cons.mpr ⟨⟨nc_at_in (p := (8, 183)) rfl rfl, rfl⟩, fun _ h => absurd h List.not_mem_nil⟩⟩⟩⟩⟩
set_option maxRecDepth 100000 in
theorem nc_if_259 : nc_IF 259 := List.forall_mem_cons.mpr ⟨⟨nc_at_in (p := (8, 14)) rfl rfl, rfl⟩, fun _ h => absurd h List.not_mem_nil⟩
set_option maxRecDepth 100000 in
theorem nc_if_260 : nc_IF 260 := List.forall_mem_cons.mpr ⟨⟨nc_at_in (p := (8, 64)) rfl rfl, rfl⟩, List.forall_mem_cons.mpr ⟨⟨nc_at_in (p := (8, 96)) rfl rfl, rfl⟩, List.forall_mem_cons.mpr ⟨⟨nc_at_in (p := (8, 211)) rfl rfl, rfl⟩, fun _ h => absurd h List.not_mem_nil⟩⟩⟩
set_option maxRecDepth 100000 in
theorem nc_if_261 : nc_IF 261 := List.forall_mem_cons.mpr ⟨⟨nc_at_in (p := (7, 153)) rfl rfl, rfl⟩, List.forall_mem_cons.mpr ⟨⟨nc_at_in (p := (8, 14)) rfl rfl, rfl⟩, List.forall_mem_cons.mpr ⟨⟨nc_at_in (p := (8, 10)) rfl rfl, rfl⟩, List.forall_mem_cons.mpr ⟨⟨nc_at_in (p := (8, 33)) rfl rfl, rfl⟩, List.forall_mem_cons.mpr ⟨⟨nc_at_in (p := (8, 2)) rfl rfl, rfl⟩, List.forall_mem_cons.mpr ⟨⟨nc_at_in (p := (8, 159)) rfl rfl, rfl⟩, List.forall_mem_cons.mpr ⟨⟨nc_at_in (p := (8, 223)) rfl rfl, rfl⟩, List.forall_mem_cons.mpr ⟨⟨nc_at_in (p := (8, 227)) rfl rfl, rfl⟩, fun _ h => absurd h List.not_mem_nil⟩⟩⟩⟩⟩⟩⟩⟩
set_option maxRecDepth 100000 in
theorem nc_if_262 : nc_IF 262 := List.forall_mem_cons.mpr ⟨⟨nc_at_in (p := (8, 56)) rfl rfl, rfl⟩, List.forall_mem_cons.mpr ⟨⟨nc_at_in (p := (8, 119)) rfl rfl, rfl⟩, List.forall_mem_cons.mpr ⟨⟨nc_at_in (p := (8, 111)) rfl rfl, rfl⟩, fun _ h => absurd h List.not_mem_nil⟩⟩⟩
set_option maxRecDepth 100000 in
theorem nc_if_263 : nc_IF 263 := List.forall_mem_cons.mpr ⟨⟨nc_at_in (p := (7, 211)) rfl rfl, rfl⟩, List.forall_mem_cons.mpr ⟨⟨nc_at_in (p := (8, 49)) rfl rfl, rfl⟩, fun _ h => absurd h List.not_mem_nil⟩⟩
set_option maxRecDepth 100000 in
theorem nc_if_264 : nc_IF 264 := List.forall_mem_cons.mpr ⟨⟨nc_at_in (p := (7, 211)) rfl rfl, rfl⟩, List.forall_mem_cons.mpr ⟨⟨nc_at_in (p := (7, 153)) rfl rfl, rfl⟩, List.forall_mem_cons.mpr ⟨⟨nc_at_in (p := (8, 49)) rfl rfl, rfl⟩, List.forall_mem_cons.mpr ⟨⟨nc_at_in (p := (8, 64)) rfl rfl, rfl⟩, List.forall_mem_cons.mpr ⟨⟨nc_at_in (p := (8, 223)) rfl rfl, rfl⟩, fun _ h => absurd h List.not_mem_nil⟩⟩⟩⟩⟩
set_option maxRecDepth 100000 in
theorem nc_if_265 : nc_IF 265 := List.forall_mem_cons.mpr ⟨⟨nc_at_in (p := (8, 64)) rfl rfl, rfl⟩, List.forall_mem_cons.mpr ⟨⟨nc_at_in (p := (9, 10)) rfl rfl, rfl⟩, fun _ h => absurd h List.not_mem_nil⟩⟩
set_option maxRecDepth 100000 in
theorem nc_if_266 : nc_IF 266 := List.forall_mem_cons.mpr ⟨⟨nc_at_in (p := (7, 211)) rfl rfl, rfl⟩, List.forall_mem_cons.mpr ⟨⟨nc_at_in (p := (8, 84)) rfl rfl, rfl⟩, List.forall_mem_cons.mpr ⟨⟨nc_at_in (p := (8, 127)) rfl rfl, rfl⟩, List.forall_mem_cons.mpr ⟨⟨nc_at_in (p := (8, 195)) rfl rfl, rfl⟩, List.forall_mem_cons.mpr ⟨⟨nc_at_in (p := (8, 183)) rfl rfl, rfl⟩, fun _ h => absurd h List.not_mem_nil⟩⟩⟩⟩⟩
set_option maxRecDepth 100000 in
theorem nc_if_267 : nc_IF 267 := List.forall_mem_cons.mpr ⟨⟨nc_at_in (p := (8, 131)) rfl rfl, rfl⟩, List.forall_mem_cons.mpr ⟨⟨nc_at_in (p := (8, 92)) rfl rfl, rfl⟩, List.forall_mem_cons.mpr ⟨⟨nc_at_in (p := (8, 103)) rfl rfl, rfl⟩, List.forall_mem_cons.mpr ⟨⟨nc_at_in (p := (8, 111)) rfl rfl, rfl⟩, List.forall_mem_cons.mpr ⟨⟨nc_at_in (p := (8, 115)) rfl rfl, rfl⟩, List.forall_mem_cons.mpr ⟨⟨nc_at_in (p := (9, 26)) rfl rfl, rfl⟩, fun _ h => absurd h List.not_mem_nil⟩⟩⟩⟩⟩⟩
set_option maxRecDepth 100000 in
theorem nc_if_268 : nc_IF 268 := List.forall_mem_cons.mpr ⟨⟨nc_at_in (p := (7, 211)) rfl rfl, rfl⟩, List.forall_mem_cons.mpr ⟨⟨nc_at_in (p := (8, 99)) rfl rfl, rfl⟩, List.forall_mem_cons.mpr ⟨⟨nc_at_in (p := (9, 22)) rfl rfl, rfl⟩, fun _ h => absurd h List.not_mem_nil⟩⟩⟩
set_option maxRecDepth 100000 in
theorem nc_if_269 : nc_IF 269 := List.forall_mem_cons.mpr ⟨⟨nc_at_in (p := (7, 211)) rfl rfl, rfl⟩, List.forall_mem_cons.mpr ⟨⟨nc_at_in (p := (8, 10)) rfl rfl, rfl⟩, List.forall_mem_cons.mpr ⟨⟨nc_at_in (p := (8, 2)) rfl rfl, rfl⟩, List.forall_mem_cons.mpr ⟨⟨nc_at_in (p := (8, 195)) rfl rfl, rfl⟩, List.forall_mem_cons.mpr ⟨⟨nc_at_in (p := (8, 183)) rfl rfl, rfl⟩, List.forall_mem_cons.mpr ⟨⟨nc_at_in (p := (9, 22)) rfl rfl, rfl⟩, fun _ h => absurd h List.not_mem_nil⟩⟩⟩⟩⟩⟩
set_option maxRecDepth 100000 in
theorem nc_if_270 : nc_IF 270 := List.forall_mem_cons.mpr ⟨⟨nc_at_in (p := (7, 179)) rfl rfl, rfl⟩, List.forall_mem_cons.mpr ⟨⟨nc_at_in (p := (7, 157)) rfl rfl, rfl⟩, List.forall_mem_cons.mpr ⟨⟨nc_at_in (p := (7, 207)) rfl rfl, rfl⟩, List.forall_mem_cons.mpr ⟨⟨nc_at_in (p := (7, 199)) rfl rfl, rfl⟩, List.forall_mem_cons.mpr ⟨⟨nc_at_in (p := (7, 175)) rfl rfl, rfl⟩, List.forall_mem_cons.mpr ⟨⟨nc_at_in (p := (7, 195)) rfl rfl, rfl⟩, fun _ h => absurd h List.not_mem_nil⟩⟩⟩⟩⟩⟩
set_option maxRecDepth 100000 in
theorem nc_if_271 : nc_IF 271 := List.forall_mem_cons.mpr ⟨⟨nc_at_in (p := (8, 92)) rfl rfl, rfl⟩, List.forall_mem_cons.mpr ⟨⟨nc_at_in (p := (8, 103)) rfl rfl, rfl⟩, List.forall_mem_cons.mpr ⟨⟨nc_at_in (p := (8, 111)) rfl rfl, rfl⟩, List.forall_mem_cons.mpr ⟨⟨nc_at_in (p := (8, 115)) rfl rfl, rfl⟩, List.forall_mem_cons.mpr ⟨⟨nc_at_in (p := (8, 127)) rfl rfl, rfl⟩, fun _ h => absurd h List.not_mem_nil⟩⟩⟩⟩⟩
set_option maxRecDepth 100000 in
theorem nc_if_272 : nc_IF 272 := List.forall_mem_cons.mpr ⟨⟨nc_at_in (p := (7, 157)) rfl rfl, rfl⟩, List.forall_mem_cons.mpr ⟨⟨nc_at_in (p := (7, 211)) rfl rfl, rfl⟩, List.forall_mem_cons.mpr ⟨⟨nc_at_in (p := (7, 153)) rfl rfl, rfl⟩, List.forall_mem_cons.mpr ⟨⟨nc_at_in (p := (7, 226)) rfl rfl, rfl⟩, List.forall_mem_cons.mpr ⟨⟨nc_at_in (p := (8, 99)) rfl rfl, rfl⟩, List.forall_mem_cons.mpr ⟨⟨nc_at_in (p := (8, 195)) rfl rfl, rfl⟩, List.forall_mem_cons.mpr ⟨⟨nc_at_in (p := (8, 183)) rfl rfl, rfl⟩, List.forall_mem_cons.mpr ⟨⟨nc_at_in (p := (9, 39)) rfl rfl, rfl⟩, List.forall_mem_cons.mpr ⟨⟨nc_at_in (p := (9, 43)) rfl rfl, rfl⟩, fun _ h => absurd h List.not_mem_nil⟩⟩⟩⟩⟩⟩⟩⟩⟩
set_option maxRecDepth 100000 in
theorem nc_if_273 : nc_IF 273 := List.forall_mem_cons.mpr ⟨⟨nc_at_in (p := (7, 211)) rfl rfl, rfl⟩, fun _ h => absurd h List.not_mem_nil⟩
set_option maxRecDepth 100000 in
theorem nc_if_274 : nc_IF 274 := List.forall_mem_cons.mpr ⟨⟨nc_at_in (p := (9, 59)) rfl rfl, rfl⟩, fun _ h => absurd h List.not_mem_nil⟩
set_option maxRecDepth 100000 in
theorem nc_if_275 : nc_IF 275 := List.forall_mem_cons.mpr ⟨⟨nc_at_in (p := (9, 59)) rfl rfl, rfl⟩, fun _ h => absurd h List.not_mem_nil⟩
set_option maxRecDepth 100000 in
theorem nc_if_276 : nc_IF 276 := List.forall_mem_cons.mpr ⟨⟨nc_at_in (p := (7, 175)) rfl rfl, rfl⟩, fun _ h => absurd h List.not_mem_nil⟩
set_option maxRecDepth 100000 in
theorem nc_if_277 : nc_IF 277 := List.forall_mem_cons.mpr ⟨⟨nc_at_in (p := (7, 230)) rfl rfl, rfl⟩, List.forall_mem_cons.mpr ⟨⟨nc_at_in (p := (7, 179)) rfl rfl, rfl⟩, List.forall_mem_cons.mpr ⟨⟨nc_at_in (p := (7, 157)) rfl rfl, rfl⟩, List.forall_mem_cons.mpr ⟨⟨nc_at_in (p := (7, 199)) rfl rfl, rfl⟩, List.forall_mem_cons.mpr ⟨⟨nc_at_in (p := (7, 175)) rfl rfl, rfl⟩, List.forall_mem_cons.mpr ⟨⟨nc_at_in (p := (9, 59)) rfl rfl, rfl⟩, List.forall_mem_cons.mpr ⟨⟨nc_at_in (p := (9, 75)) rfl rfl, rfl⟩, fun _ h => absurd h List.not_mem_nil⟩⟩⟩⟩⟩⟩⟩
set_option maxRecDepth 100000 in
theorem nc_if_278 : nc_IF 278 := List.forall_mem_cons.mpr ⟨⟨nc_at_in (p := (7, 230)) rfl rfl, rfl⟩, List.forall_mem_cons.mpr ⟨⟨nc_at_in (p := (7, 179)) rfl rfl, rfl⟩, List.forall_mem_cons.mpr ⟨⟨nc_at_in (p := (7, 157)) rfl rfl, rfl⟩, List.forall_mem_cons.mpr ⟨⟨nc_at_in (p := (7, 175)) rfl rfl, rfl⟩, List.forall_mem_cons.mpr ⟨⟨nc_at_in (p := (9, 55)) rfl rfl, rfl⟩, List.forall_mem_cons.mpr ⟨⟨nc_at_in (p := (9, 63)) rfl rfl, rfl⟩, fun _ h => absurd h List.not_mem_nil⟩⟩⟩⟩⟩⟩
set_option maxRecDepth 100000 in
theorem nc_if_279 : nc_IF 279 := List.forall_mem_cons.mpr ⟨⟨nc_at_in (p := (7, 179)) rfl rfl, rfl⟩, List.forall_mem_cons.mpr ⟨⟨nc_at_in (p := (7, 157)) rfl rfl, rfl⟩, List.forall_mem_cons.mpr ⟨⟨nc_at_in (p := (7, 153)) rfl rfl, rfl⟩, List.forall_mem_cons.mpr ⟨⟨nc_at_in (p := (9, 55)) rfl rfl, rfl⟩, List.forall_mem_cons.mpr ⟨⟨nc_at_in (p := (9, 63)) rfl rfl, rfl⟩, List.forall_mem_cons.mpr ⟨⟨nc_at_in (p := (9, 67)) rfl rfl, rfl⟩, List.forall_mem_cons.mpr ⟨⟨nc_at_in (p := (9, 71)) rfl rfl, rfl⟩, fun _ h => absurd h List.not_mem_nil⟩⟩⟩⟩⟩⟩⟩
set_option maxRecDepth 100000 in
theorem nc_if_280 : nc_IF 280 := List.forall_mem_cons.mpr ⟨⟨nc_at_in (p := (8, 14)) rfl rfl, rfl⟩, List.forall_mem_cons.mpr ⟨⟨nc_at_in (p := (8, 25)) rfl rfl, rfl⟩, List.forall_mem_cons.mpr ⟨⟨nc_at_in (p := (8, 10)) rfl rfl, rfl⟩, List.forall_mem_cons.mpr ⟨⟨nc_at_in (p := (8, 17)) rfl rfl, rfl⟩, List.forall_mem_cons.mpr ⟨⟨nc_at_in (p := (8, 29)) rfl rfl, rfl⟩, fun _ h => absurd h List.not_mem_nil⟩⟩⟩⟩⟩
set_option maxRecDepth 100000 in
theorem nc_if_281 : nc_IF 281 := List.forall_mem_cons.mpr ⟨⟨nc_at_in (p := (9, 87)) rfl rfl, rfl⟩, fun _ h => absurd h List.not_mem_nil⟩
set_option maxRecDepth 100000 in
theorem nc_if_282 : nc_IF 282 := List.forall_mem_cons.mpr ⟨⟨nc_at_in (p := (9, 83)) rfl rfl, rfl⟩, fun _ h => absurd h List.not_mem_nil⟩
set_option maxRecDepth 100000 in
theorem nc_if_283 : nc_IF 283 := List.forall_mem_cons.mpr ⟨⟨nc_at_in (p := (7, 211)) rfl rfl, rfl⟩, fun _ h => absurd h List.not_mem_nil⟩
set_option maxRecDepth 100000 in
theorem nc_if_284 : nc_IF 284 := List.forall_mem_cons.mpr ⟨⟨nc_at_in (p := (7, 211)) rfl rfl, rfl⟩, fun _ h => absurd h List.not_mem_nil⟩
set_option maxRecDepth 100000 in
theorem nc_if_285 : nc_IF 285 := List.forall_mem_cons.mpr ⟨⟨nc_at_in (p := (7, 211)) rfl rfl, rfl⟩, fun _ h => absurd h List.not_mem_nil⟩
theorem nc_ig_0 : ∀ M, M < 32 → 0 ≤ M → nc_IF M := by
  intro M h1 h2
  by_cases e0 : M = 0
  · subst e0
    exact nc_if_0
  by_cases e1 : M = 1
  · subst e1
    exact nc_if_1
  by_cases e2 : M = 2
  · subst e2
    exact nc_if_2
  by_cases e3 : M = 3
  · subst e3
    exact nc_if_3
  by_cases e4 : M = 4
  · subst e4
    exact nc_if_4
  by_cases e5 : M = 5
  · subst e5
    exact nc_if_5
  by_cases e6 : M = 6
  · subst e6
    exact nc_if_6
  by_cases e7 : M = 7
  · subst e7
    exact nc_if_7
  by_cases e8 : M = 8
  · subst e8
    exact nc_if_8
  by_cases e9 : M = 9
  · subst e9
    exact nc_if_9
  by_cases e10 : M = 10
  · subst e10
    exact nc_if_10
  by_cases e11 : M = 11
  · subst e11
    exact nc_if_11
  by_cases e12 : M = 12
  · subst e12
    exact nc_if_12
  by_cases e13 : M = 13
  · subst e13
    exact nc_if_13
  by_cases e14 : M = 14
  · subst e14
    exact nc_if_14
  by_cases e15 : M = 15
  · subst e15
    exact nc_if_15
  by_cases e16 : M = 16
  · subst e16
    exact nc_if_16
  by_cases e17 : M = 17
  · subst e17
    exact nc_if_17
  by_cases e18 : M = 18
  · subst e18
    exact nc_if_18
  by_cases e19 : M = 19
  · subst e19
    exact nc_if_19
  by_cases e20 : M = 20
  · subst e20
    exact nc_if_20
  by_cases e21 : M = 21
  · subst e21
    exact nc_if_21
  by_cases e22 : M = 22
  · subst e22
    exact nc_if_22
  by_cases e23 : M = 23
  · subst e23
    exact nc_if_23
  by_cases e24 : M = 24
  · subst e24
    exact nc_if_24
  by_cases e25 : M = 25
  · subst e25
    exact nc_if_25
  by_cases e26 : M = 26
  · subst e26
    exact nc_if_26
  by_cases e27 : M = 27
  · subst e27
    exact nc_if_27
  by_cases e28 : M = 28
  · subst e28
    exact nc_if_28
  by_cases e29 : M = 29
  · subst e29
    exact nc_if_29
  by_cases e30 : M = 30
  · subst e30
    exact nc_if_30
  by_cases e31 : M = 31
  · subst e31
    exact nc_if_31
  omega
theorem nc_ig_1 : ∀ M, M < 64 → 32 ≤ M → nc_IF M := by
  intro M h1 h2
  by_cases e32 : M = 32
  · subst e32
    exact nc_if_32
  by_cases e33 : M = 33
  · subst e33
    exact nc_if_33
  by_cases e34 : M = 34
  · subst e34
    exact nc_if_34
  by_cases e35 : M = 35
  · subst e35
    exact nc_if_35
  by_cases e36 : M = 36
  · subst e36
    exact nc_if_36
  by_cases e37 : M = 37
  · subst e37
    exact nc_if_37
  by_cases e38 : M = 38
  · subst e38
    exact nc_if_38
  by_cases e39 : M = 39
  · subst e39
    exact nc_if_39
  by_cases e40 : M = 40
  · subst e40
    exact nc_if_40
  by_cases e41 : M = 41
  · subst e41
    exact nc_if_41
  by_cases e42 : M = 42
  · subst e42
    exact nc_if_42
  by_cases e43 : M = 43
  · subst e43
    exact nc_if_43
  by_cases e44 : M = 44
  · subst e44
    exact nc_if_44
  by_cases e45 : M = 45
  · subst e45
    exact nc_if_45
  by_cases e46 : M = 46
  · subst e46
    exact nc_if_46
  by_cases e47 : M = 47
  · subst e47
    exact nc_if_47
  by_cases e48 : M = 48
  · subst e48
    exact nc_if_48
  by_cases e49 : M = 49
  · subst e49
    exact nc_if_49
  by_cases e50 : M = 50
  · subst e50
    exact nc_if_50
  by_cases e51 : M = 51
  · subst e51
    exact nc_if_51
  by_cases e52 : M = 52
  · subst e52
    exact nc_if_52
  by_cases e53 : M = 53
  · subst e53
    exact nc_if_53
  by_cases e54 : M = 54
  · subst e54
    exact nc_if_54
  by_cases e55 : M = 55
  · subst e55
    exact nc_if_55
  by_cases e56 : M = 56
  · subst e56
    exact nc_if_56
  by_cases e57 : M = 57
  · subst e57
    exact nc_if_57
  by_cases e58 : M = 58
  · subst e58
    exact nc_if_58
  by_cases e59 : M = 59
  · subst e59
    exact nc_if_59
  by_cases e60 : M = 60
  · subst e60
    exact nc_if_60
  by_cases e61 : M = 61
  · subst e61
    exact nc_if_61
  by_cases e62 : M = 62
  · subst e62
    exact nc_if_62
  by_cases e63 : M = 63
  · subst e63
    exact nc_if_63
  omega
theorem nc_ig_2 : ∀ M, M < 96 → 64 ≤ M → nc_IF M := by
  intro M h1 h2
  by_cases e64 : M = 64
  · subst e64
    exact nc_if_64
  by_cases e65 : M = 65
  · subst e65
    exact nc_if_65
  by_cases e66 : M = 66
  · subst e66
    exact nc_if_66
  by_cases e67 : M = 67
  · subst e67
    exact nc_if_67
  by_cases e68 : M = 68
  · subst e68
    exact nc_if_68
  by_cases e69 : M = 69
  · subst e69
    exact nc_if_69
  by_cases e70 : M = 70
  · subst e70
    exact nc_if_70
  by_cases e71 : M = 71
  · subst e71
    exact nc_if_71
  by_cases e72 : M = 72
  · subst e72
    exact nc_if_72
  by_cases e73 : M = 73
  · subst e73
    exact nc_if_73
  by_cases e74 : M = 74
  · subst e74
    exact nc_if_74
  by_cases e75 : M = 75
  · subst e75
    exact nc_if_75
  by_cases e76 : M = 76
  · subst e76
    exact nc_if_76
  by_cases e77 : M = 77
  · subst e77
    exact nc_if_77
  by_cases e78 : M = 78
  · subst e78
    exact nc_if_78
  by_cases e79 : M = 79
  · subst e79
    exact nc_if_79
  by_cases e80 : M = 80
  · subst e80
    exact nc_if_80
  by_cases e81 : M = 81
  · subst e81
    exact nc_if_81
  by_cases e82 : M = 82
  · subst e82
    exact nc_if_82
  by_cases e83 : M = 83
  · subst e83
    exact nc_if_83
  by_cases e84 : M = 84
  · subst e84
    exact nc_if_84
  by_cases e85 : M = 85
  · subst e85
    exact nc_if_85
  by_cases e86 : M = 86
  · subst e86
    exact nc_if_86
  by_cases e87 : M = 87
  · subst e87
    exact nc_if_87
  by_cases e88 : M = 88
  · subst e88
    exact nc_if_88
  by_cases e89 : M = 89
  · subst e89
    exact nc_if_89
  by_cases e90 : M = 90
  · subst e90
    exact nc_if_90
  by_cases e91 : M = 91
  · subst e91
    exact nc_if_91
  by_cases e92 : M = 92
  · subst e92
    exact nc_if_92
  by_cases e93 : M = 93
  · subst e93
    exact nc_if_93
  by_cases e94 : M = 94
  · subst e94
    exact nc_if_94
  by_cases e95 : M = 95
  · subst e95
    exact nc_if_95
  omega
theorem nc_ig_3 : ∀ M, M < 128 → 96 ≤ M → nc_IF M := by
  intro M h1 h2
  by_cases e96 : M = 96
  · subst e96
    exact nc_if_96
  by_cases e97 : M = 97
  · subst e97
    exact nc_if_97
  by_cases e98 : M = 98
  · subst e98
    exact nc_if_98
  by_cases e99 : M = 99
  · subst e99
    exact nc_if_99
  by_cases e100 : M = 100
  · subst e100
    exact nc_if_100
  by_cases e101 : M = 101
  · subst e101
    exact nc_if_101
  by_cases e102 : M = 102
  · subst e102
    exact nc_if_102
  by_cases e103 : M = 103
  · subst e103
    exact nc_if_103
  by_cases e104 : M = 104
  · subst e104
    exact nc_if_104
  by_cases e105 : M = 105
  · subst e105
    exact nc_if_105
  by_cases e106 : M = 106
  · subst e106
    exact nc_if_106
  by_cases e107 : M = 107
  · subst e107
    exact nc_if_107
  by_cases e108 : M = 108
  · subst e108
    exact nc_if_108
  by_cases e109 : M = 109
  · subst e109
    exact nc_if_109
  by_cases e110 : M = 110
  · subst e110
    exact nc_if_110
  by_cases e111 : M = 111
  · subst e111
    exact nc_if_111
  by_cases e112 : M = 112
  · subst e112
    exact nc_if_112
  by_cases e113 : M = 113
  · subst e113
    exact nc_if_113
  by_cases e114 : M = 114
  · subst e114
    exact nc_if_114
  by_cases e115 : M = 115
  · subst e115
    exact nc_if_115
  by_cases e116 : M = 116
  · subst e116
    exact nc_if_116
  by_cases e117 : M = 117
  · subst e117
    exact nc_if_117
  by_cases e118 : M = 118
  · subst e118
    exact nc_if_118
  by_cases e119 : M = 119
  · subst e119
    exact nc_if_119
  by_cases e120 : M = 120
  · subst e120
    exact nc_if_120
  by_cases e121 : M = 121
  · subst e121
    exact nc_if_121
  by_cases e122 : M = 122
  · subst e122
    exact nc_if_122
  by_cases e123 : M = 123
  · subst e123
    exact nc_if_123
  by_cases e124 : M = 124
  · subst e124
    exact nc_if_124
  by_cases e125 : M = 125
  · subst e125
    exact nc_if_125
  by_cases e126 : M = 126
  · subst e126
    exact nc_if_126
  by_cases e127 : M = 127
  · subst e127
    exact nc_if_127
  omega
theorem nc_ig_4 : ∀ M, M < 160 → 128 ≤ M → nc_IF M := by
  intro M h1 h2
  by_cases e128 : M = 128
  · subst e128
    exact nc_if_128
  by_cases e129 : M = 129
  · subst e129
    exact nc_if_129
  by_cases e130 : M = 130
  · subst e130
    exact nc_if_130
  by_cases e131 : M = 131
  · subst e131
    exact nc_if_131
  by_cases e132 : M = 132
  · subst e132
    exact nc_if_132
  by_cases e133 : M = 133
  · subst e133
    exact nc_if_133
  by_cases e134 : M = 134
  · subst e134
    exact nc_if_134
  by_cases e135 : M = 135
  · subst e135
    exact nc_if_135
  by_cases e136 : M = 136
  · subst e136
    exact nc_if_136
  by_cases e137 : M = 137
  · subst e137
    exact nc_if_137
  by_cases e138 : M = 138
  · subst e138
    exact nc_if_138
  by_cases e139 : M = 139
  · subst e139
    exact nc_if_139
  by_cases e140 : M = 140
  · subst e140
    exact nc_if_140
  by_cases e141 : M = 141
  · subst e141
    exact nc_if_141
  by_cases e142 : M = 142
  · subst e142
    exact nc_if_142
  by_cases e143 : M = 143
  · subst e143
    exact nc_if_143
  by_cases e144 : M = 144
  · subst e144
    exact nc_if_144
  by_cases e145 : M = 145
  · subst e145
    exact nc_if_145
  by_cases e146 : M = 146
  · subst e146
    exact nc_if_146
  by_cases e147 : M = 147
  · subst e147
    exact nc_if_147
  by_cases e148 : M = 148
  · subst e148
    exact nc_if_148
  by_cases e149 : M = 149
  · subst e149
    exact nc_if_149
  by_cases e150 : M = 150
  · subst e150
    exact nc_if_150
  by_cases e151 : M = 151
  · subst e151
    exact nc_if_151
  by_cases e152 : M = 152
  · subst e152
    exact nc_if_152
  by_cases e153 : M = 153
  · subst e153
    exact nc_if_153
  by_cases e154 : M = 154
  · subst e154
    exact nc_if_154
  by_cases e155 : M = 155
  · subst e155
    exact nc_if_155
  by_cases e156 : M = 156
  · subst e156
    exact nc_if_156
  by_cases e157 : M = 157
  · subst e157
    exact nc_if_157
  by_cases e158 : M = 158
  · subst e158
    exact nc_if_158
  by_cases e159 : M = 159
  · subst e159
    exact nc_if_159
  omega
theorem nc_ig_5 : ∀ M, M < 192 → 160 ≤ M → nc_IF M := by
  intro M h1 h2
  by_cases e160 : M = 160
  · subst e160
    exact nc_if_160
  by_cases e161 : M = 161
  · subst e161
    exact nc_if_161
  by_cases e162 : M = 162
  · subst e162
    exact nc_if_162
  by_cases e163 : M = 163
  · subst e163
    exact nc_if_163
  by_cases e164 : M = 164
  · subst e164
    exact nc_if_164
  by_cases e165 : M = 165
  · subst e165
    exact nc_if_165
  by_cases e166 : M = 166
  · subst e166
    exact nc_if_166
  by_cases e167 : M = 167
  · subst e167
    exact nc_if_167
  by_cases e168 : M = 168
  · subst e168
    exact nc_if_168
  by_cases e169 : M = 169
  · subst e169
    exact nc_if_169
  by_cases e170 : M = 170
  · subst e170
    exact nc_if_170
  by_cases e171 : M = 171
  · subst e171
    exact nc_if_171
  by_cases e172 : M = 172
  · subst e172
    exact nc_if_172
  by_cases e173 : M = 173
  · subst e173
    exact nc_if_173
  by_cases e174 : M = 174
  · subst e174
    exact nc_if_174
  by_cases e175 : M = 175
  · subst e175
    exact nc_if_175
  by_cases e176 : M = 176
  · subst e176
    exact nc_if_176
  by_cases e177 : M = 177
  · subst e177
    exact nc_if_177
  by_cases e178 : M = 178
  · subst e178
    exact nc_if_178
  by_cases e179 : M = 179
  · subst e179
    exact nc_if_179
  by_cases e180 : M = 180
  · subst e180
    exact nc_if_180
  by_cases e181 : M = 181
  · subst e181
    exact nc_if_181
  by_cases e182 : M = 182
  · subst e182
    exact nc_if_182
  by_cases e183 : M = 183
  · subst e183
    exact nc_if_183
  by_cases e184 : M = 184
  · subst e184
    exact nc_if_184
  by_cases e185 : M = 185
  · subst e185
    exact nc_if_185
  by_cases e186 : M = 186
  · subst e186
    exact nc_if_186
  by_cases e187 : M = 187
  · subst e187
    exact nc_if_187
  by_cases e188 : M = 188
  · subst e188
    exact nc_if_188
  by_cases e189 : M = 189
  · subst e189
    exact nc_if_189
  by_cases e190 : M = 190
  · subst e190
    exact nc_if_190
  by_cases e191 : M = 191
  · subst e191
    exact nc_if_191
  omega
theorem nc_ig_6 : ∀ M, M < 224 → 192 ≤ M → nc_IF M := by
  intro M h1 h2
  by_cases e192 : M = 192
  · subst e192
    exact nc_if_192
  by_cases e193 : M = 193
  · subst e193
    exact nc_if_193
  by_cases e194 : M = 194
  · subst e194
    exact nc_if_194
  by_cases e195 : M = 195
  · subst e195
    exact nc_if_195
  by_cases e196 : M = 196
  · subst e196
    exact nc_if_196
  by_cases e197 : M = 197
  · subst e197
    exact nc_if_197
  by_cases e198 : M = 198
  · subst e198
    exact nc_if_198
  by_cases e199 : M = 199
  · subst e199
    exact nc_if_199
  by_cases e200 : M = 200
  · subst e200
    exact nc_if_200
  by_cases e201 : M = 201
  · subst e201
    exact nc_if_201
  by_cases e202 : M = 202
  · subst e202
    exact nc_if_202
  by_cases e203 : M = 203
  · subst e203
    exact nc_if_203
  by_cases e204 : M = 204
  · subst e204
    exact nc_if_204
  by_cases e205 : M = 205
  · subst e205
    exact nc_if_205
  by_cases e206 : M = 206
  · subst e206
    exact nc_if_206
  by_cases e207 : M = 207
  · subst e207
    exact nc_if_207
  by_cases e208 : M = 208
  · subst e208
    exact nc_if_208
  by_cases e209 : M = 209
  · subst e209
    exact nc_if_209
  by_cases e210 : M = 210
  · subst e210
    exact nc_if_210
  by_cases e211 : M = 211
  · subst e211
    exact nc_if_211
  by_cases e212 : M = 212
  · subst e212
    exact nc_if_212
  by_cases e213 : M = 213
  · subst e213
    exact nc_if_213
  by_cases e214 : M = 214
  · subst e214
    exact nc_if_214
  by_cases e215 : M = 215
  · subst e215
    exact nc_if_215
  by_cases e216 : M = 216
  · subst e216
    exact nc_if_216
  by_cases e217 : M = 217
  · subst e217
    exact nc_if_217
  by_cases e218 : M = 218
  · subst e218
    exact nc_if_218
  by_cases e219 : M = 219
  · subst e219
    exact nc_if_219
  by_cases e220 : M = 220
  · subst e220
    exact nc_if_220
  by_cases e221 : M = 221
  · subst e221
    exact nc_if_221
  by_cases e222 : M = 222
  · subst e222
    exact nc_if_222
  by_cases e223 : M = 223
  · subst e223
    exact nc_if_223
  omega
theorem nc_ig_7 : ∀ M, M < 256 → 224 ≤ M → nc_IF M := by
  intro M h1 h2
  by_cases e224 : M = 224
  · subst e224
    exact nc_if_224
  by_cases e225 : M = 225
  · subst e225
    exact nc_if_225
  by_cases e226 : M = 226
  · subst e226
    exact nc_if_226
  by_cases e227 : M = 227
  · subst e227
    exact nc_if_227
  by_cases e228 : M = 228
  · subst e228
    exact nc_if_228
  by_cases e229 : M = 229
  · subst e229
    exact nc_if_229
  by_cases e230 : M = 230
  · subst e230
    exact nc_if_230
  by_cases e231 : M = 231
  · subst e231
    exact nc_if_231
  by_cases e232 : M = 232
  · subst e232
    exact nc_if_232
  by_cases e233 : M = 233
  · subst e233
    exact nc_if_233
  by_cases e234 : M = 234
  · subst e234
    exact nc_if_234
  by_cases e235 : M = 235
  · subst e235
    exact nc_if_235
  by_cases e236 : M = 236
  · subst e236
    exact nc_if_236
  by_cases e237 : M = 237
  · subst e237
    exact nc_if_237
  by_cases e238 : M = 238
  · subst e238
    exact nc_if_238
  by_cases e239 : M = 239
  · subst e239
    exact nc_if_239
  by_cases e240 : M = 240
  · subst e240
    exact nc_if_240
  by_cases e241 : M = 241
  · subst e241
    exact nc_if_241
  by_cases e242 : M = 242
  · subst e242
    exact nc_if_242
  by_cases e243 : M = 243
  · subst e243
    exact nc_if_243
  by_cases e244 : M = 244
  · subst e244
    exact nc_if_244
  by_cases e245 : M = 245
  · subst e245
    exact nc_if_245
  by_cases e246 : M = 246
  · subst e246
    exact nc_if_246
  by_cases e247 : M = 247
  · subst e247
    exact nc_if_247
  by_cases e248 : M = 248
  · subst e248
    exact nc_if_248
  by_cases e249 : M = 249
  · subst e249
    exact nc_if_249
  by_cases e250 : M = 250
  · subst e250
    exact nc_if_250
  by_cases e251 : M = 251
  · subst e251
    exact nc_if_251
  by_cases e252 : M = 252
  · subst e252
    exact nc_if_252
  by_cases e253 : M = 253
  · subst e253
    exact nc_if_253
  by_cases e254 : M = 254
  · subst e254
    exact nc_if_254
  by_cases e255 : M = 255
  · subst e255
    exact nc_if_255
  omega
theorem nc_ig_8 : ∀ M, M < 286 → 256 ≤ M → nc_IF M := by
  intro M h1 h2
  by_cases e256 : M = 256
  · subst e256
    exact nc_if_256
  by_cases e257 : M = 257
  · subst e257
    exact nc_if_257
  by_cases e258 : M = 258
  · subst e258
    exact nc_if_258
  by_cases e259 : M = 259
  · subst e259
    exact nc_if_259
  by_cases e260 : M = 260
  · subst e260
    exact nc_if_260
  by_cases e261 : M = 261
  · subst e261
    exact nc_if_261
  by_cases e262 : M = 262
  · subst e262
    exact nc_if_262
  by_cases e263 : M = 263
  · subst e263
    exact nc_if_263
  by_cases e264 : M = 264
  · subst e264
    exact nc_if_264
  by_cases e265 : M = 265
  · subst e265
    exact nc_if_265
  by_cases e266 : M = 266
  · subst e266
    exact nc_if_266
  by_cases e267 : M = 267
  · subst e267
    exact nc_if_267
  by_cases e268 : M = 268
  · subst e268
    exact nc_if_268
  by_cases e269 : M = 269
  · subst e269
    exact nc_if_269
  by_cases e270 : M = 270
  · subst e270
    exact nc_if_270
  by_cases e271 : M = 271
  · subst e271
    exact nc_if_271
  by_cases e272 : M = 272
  · subst e272
    exact nc_if_272
  by_cases e273 : M = 273
  · subst e273
    exact nc_if_273
  by_cases e274 : M = 274
  · subst e274
    exact nc_if_274
  by_cases e275 : M = 275
  · subst e275
    exact nc_if_275
  by_cases e276 : M = 276
  · subst e276
    exact nc_if_276
  by_cases e277 : M = 277
  · subst e277
    exact nc_if_277
  by_cases e278 : M = 278
  · subst e278
    exact nc_if_278
  by_cases e279 : M = 279
  · subst e279
    exact nc_if_279
  by_cases e280 : M = 280
  · subst e280
    exact nc_if_280
  by_cases e281 : M = 281
  · subst e281
    exact nc_if_281
  by_cases e282 : M = 282
  · subst e282
    exact nc_if_282
  by_cases e283 : M = 283
  · subst e283
    exact nc_if_283
  by_cases e284 : M = 284
  · subst e284
    exact nc_if_284
  by_cases e285 : M = 285
  · subst e285
    exact nc_if_285
  omega
theorem nc_iok (M : Nat) (h : M < nc_many) : nc_IF M := by
  have h : M < 286 := h
  by_cases q0 : M < 32
  · exact nc_ig_0 M (by omega) (by omega)
  by_cases q1 : M < 64
  · exact nc_ig_1 M (by omega) (by omega)
  by_cases q2 : M < 96
  · exact nc_ig_2 M (by omega) (by omega)
  by_cases q3 : M < 128
  · exact nc_ig_3 M (by omega) (by omega)
  by_cases q4 : M < 160
  · exact nc_ig_4 M (by omega) (by omega)
  by_cases q5 : M < 192
  · exact nc_ig_5 M (by omega) (by omega)
  by_cases q6 : M < 224
  · exact nc_ig_6 M (by omega) (by omega)
  by_cases q7 : M < 256
  · exact nc_ig_7 M (by omega) (by omega)
  by_cases q8 : M < 286
  · exact nc_ig_8 M (by omega) (by omega)
  omega
set_option maxRecDepth 100000 in
theorem nc_w_max1 : Cond.static Lib.Math.max.name ∈ nc_tb := nc_at_in (p := (3, 203)) rfl rfl
set_option maxRecDepth 100000 in
theorem nc_w_max2 : Cond.code Lib.Math.max.name Lib.Math.max.code 2 (some .int) ∈ nc_tb := nc_at_in (p := (3, 204)) (by decide +kernel) rfl
set_option maxRecDepth 100000 in
theorem nc_w_min1 : Cond.static Lib.Math.min.name ∈ nc_tb := nc_at_in (p := (3, 162)) rfl rfl
set_option maxRecDepth 100000 in
theorem nc_w_min2 : Cond.code Lib.Math.min.name Lib.Math.min.code 2 (some .int) ∈ nc_tb := nc_at_in (p := (3, 163)) (by decide +kernel) rfl
set_option maxRecDepth 100000 in
theorem nc_w_abs1 : Cond.static Lib.Math.abs.name ∈ nc_tb := nc_at_in (p := (5, 175)) rfl rfl
set_option maxRecDepth 100000 in
theorem nc_w_abs2 : Cond.code Lib.Math.abs.name Lib.Math.abs.code 1 (some .int) ∈ nc_tb := nc_at_in (p := (5, 176)) (by decide +kernel) rfl
set_option maxRecDepth 100000 in
theorem nc_w_math : Cond.initialized "java/lang/Math" ∈ nc_tb := nc_at_in (p := (1, 19)) rfl rfl
set_option maxRecDepth 100000 in
theorem nc_w_ac1 : Cond.native arraycopyName ∈ nc_tb := nc_at_in (p := (4, 95)) rfl rfl
set_option maxRecDepth 100000 in
theorem nc_w_ac2 : Cond.static arraycopyName ∈ nc_tb := nc_at_in (p := (4, 94)) rfl rfl
set_option maxRecDepth 100000 in
theorem nc_w_sys : Cond.initialized "java/lang/System" ∈ nc_tb := nc_at_in (p := (1, 21)) rfl rfl
set_option maxRecDepth 100000 in
theorem nc_w_i1 : Cond.code nc_idx cJ0_indexOf_0f7a4 2 (some .int) ∈ nc_tb := nc_at_in (p := (3, 190)) rfl rfl
set_option maxRecDepth 100000 in
theorem nc_w_i2 : Cond.instanceMethod nc_idx ∈ nc_tb := nc_at_in (p := (3, 188)) rfl rfl
set_option maxRecDepth 100000 in
theorem nc_w_i3 : Cond.selects "java/lang/String" nc_idx nc_idx ∈ nc_tb := nc_at_in (p := (3, 189)) rfl rfl
set_option maxRecDepth 100000 in
theorem nc_w_i4 : Cond.initialized "java/lang/String" ∈ nc_tb := nc_at_in (p := (1, 3)) rfl rfl
