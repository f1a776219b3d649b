/-! every entry of the tables of JA is sound, and grows -/
set_option maxRecDepth 100000 in
theorem zE_JA_fill_0 : ∀ q ∈ zT_JA_fill_0, zEnt yJA_fill cJA_fill 4 none [] { frames := 0, cells := 0, slots := 0, locals := 0 } q := List.forall_mem_cons.mpr ⟨fun X => zs_iconst X.1 dJA_fill_0 (by decide) rfl,
  List.forall_mem_cons.mpr ⟨fun X => zs_istore_n X.1 dJA_fill_1 rfl (Nat.le_of_ble_eq_true rfl) rfl,
  List.forall_mem_cons.mpr ⟨fun X => zs_aload_n X.1 dJA_fill_2 rfl rfl,
  List.forall_mem_cons.mpr ⟨fun X => zs_alen X.1 X.2.2.2.2.2.1 dJA_fill_3 rfl,
  List.forall_mem_cons.mpr ⟨fun X => zs_istore_n X.1 dJA_fill_4 rfl (Nat.le_of_ble_eq_true rfl) rfl,
  List.forall_mem_cons.mpr ⟨fun X => zs_iload_n X.1 dJA_fill_5 rfl rfl,
  List.forall_mem_cons.mpr ⟨fun X => zs_iload_n X.1 dJA_fill_6 rfl rfl,
  List.forall_mem_cons.mpr ⟨fun X => zs_icmpge X.1 dJA_fill_7 (by decide) rfl,
  List.forall_mem_cons.mpr ⟨fun X => zs_aload_n X.1 dJA_fill_10 rfl rfl,
  List.forall_mem_cons.mpr ⟨fun X => zs_iload_n X.1 dJA_fill_11 rfl rfl,
  List.forall_mem_cons.mpr ⟨fun X => zs_iload_n X.1 dJA_fill_12 rfl rfl,
  List.forall_mem_cons.mpr ⟨fun X => zs_iast X.1 X.2.2.2.2.2.1 dJA_fill_13 rfl,
  List.forall_mem_cons.mpr ⟨fun X => zs_iinc X.1 dJA_fill_14 (Nat.le_of_ble_eq_true rfl) rfl,
  List.forall_mem_cons.mpr ⟨fun X => zs_goto X.1 dJA_fill_17 (by decide),
  List.forall_mem_cons.mpr ⟨fun X => zs_vret X.1 X.2.1 X.2.2.1 dJA_fill_20,
  fun _ h9 => nomatch h9⟩⟩⟩⟩⟩⟩⟩⟩⟩⟩⟩⟩⟩⟩⟩
theorem zG_JA_fill_0 : ∀ q ∈ zT_JA_fill_0, zmono q.2 := List.forall_mem_cons.mpr ⟨zm_iconst 0 1, List.forall_mem_cons.mpr ⟨zm_istore 2 2, List.forall_mem_cons.mpr ⟨zm_aload 0 3, List.forall_mem_cons.mpr ⟨zm_alen 4, List.forall_mem_cons.mpr ⟨zm_istore 3 5, List.forall_mem_cons.mpr ⟨zm_iload 2 6, List.forall_mem_cons.mpr ⟨zm_iload 3 7, List.forall_mem_cons.mpr ⟨zm_icmpge 20 10, List.forall_mem_cons.mpr ⟨zm_aload 0 11, List.forall_mem_cons.mpr ⟨zm_iload 2 12, List.forall_mem_cons.mpr ⟨zm_iload 1 13, List.forall_mem_cons.mpr ⟨zm_iast 14, List.forall_mem_cons.mpr ⟨zm_iinc 2 1 17, List.forall_mem_cons.mpr ⟨zm_goto 5 [], List.forall_mem_cons.mpr ⟨zm_vret, fun _ h9 => nomatch h9⟩⟩⟩⟩⟩⟩⟩⟩⟩⟩⟩⟩⟩⟩⟩
theorem zE_JA_fill : ∀ L ∈ zT_JA_fill, ∀ q ∈ L, zEnt yJA_fill cJA_fill 4 none [] { frames := 0, cells := 0, slots := 0, locals := 0 } q := List.forall_mem_cons.mpr ⟨zE_JA_fill_0, fun _ h9 => nomatch h9⟩
theorem zG_JA_fill : ∀ L ∈ zT_JA_fill, ∀ q ∈ L, zmono q.2 := List.forall_mem_cons.mpr ⟨zG_JA_fill_0, fun _ h9 => nomatch h9⟩
