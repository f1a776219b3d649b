/-! every entry of the tables of L is sound, and grows -/
set_option maxRecDepth 100000 in
theorem zE_L_addBase_0 : ∀ q ∈ zT_L_addBase_0, zEnt yL_addBase cL_addBase 4 (some .int) [(0, 9, 12, 13), (0, 9, 15, 15)] { frames := 7, cells := 1, slots := 6, locals := 149 } q := List.forall_mem_cons.mpr ⟨fun X => zs_aload_n X.1 dL_addBase_0 rfl rfl,
  List.forall_mem_cons.mpr ⟨fun X => zs_iconst X.1 dL_addBase_1 (by decide) rfl,
  List.forall_mem_cons.mpr ⟨fun X => zs_aload_n X.1 dL_addBase_2 rfl rfl,
  List.forall_mem_cons.mpr ⟨fun X => zs_iload_n X.1 dL_addBase_3 rfl rfl,
  List.forall_mem_cons.mpr ⟨fun X => zs_callX (Cn := RX6) X.1 zNw_ok (fun _ h9 => Or.inr h9) X.2.2.2.2.2.1 X.2.2.2.2.2.2.1 zcal_75 rfl ⟨Nat.le_refl _, Nat.le_refl _⟩ ⟨rfl, rfl⟩ wm_520 rfl wm_523 wm_524 (List.forall_mem_cons.mpr ⟨⟨[], ⟨0, 9, 12, 13⟩, [⟨0, 9, 15, 15⟩], X.2.2.2.2.1, (fun _ h9 => nomatch h9), rfl, by decide, wm_521, by decide +kernel, by decide, Or.inl ⟨3, rfl, dL_addBase_12, rfl⟩⟩, (List.forall_mem_cons.mpr ⟨⟨[⟨0, 9, 12, 13⟩], ⟨0, 9, 15, 15⟩, [], X.2.2.2.2.1, (List.forall_mem_cons.mpr ⟨(Or.inr ⟨by decide, _, wm_521, by decide +kernel⟩), (fun _ h9 => nomatch h9)⟩), rfl, by decide, wm_522, by decide +kernel, by decide, Or.inl ⟨3, rfl, dL_addBase_15, rfl⟩⟩, (fun _ h9 => nomatch h9)⟩)⟩) dL_addBase_4 rfl,
  List.forall_mem_cons.mpr ⟨fun X => zs_i2l X.1 dL_addBase_7 rfl,
  List.forall_mem_cons.mpr ⟨fun X => zs_last X.1 X.2.2.2.2.2.1 dL_addBase_8 rfl,
  List.forall_mem_cons.mpr ⟨fun X => zs_goto X.1 dL_addBase_9 (by decide),
  List.forall_mem_cons.mpr ⟨fun X => zs_astore_n X.1 dL_addBase_12 rfl (Nat.le_of_ble_eq_true rfl) rfl,
  List.forall_mem_cons.mpr ⟨fun X => zs_iconst X.1 dL_addBase_13 (by decide) rfl,
  List.forall_mem_cons.mpr ⟨fun X => zs_iret X.1 X.2.1 X.2.2.1 dL_addBase_14,
  List.forall_mem_cons.mpr ⟨fun X => zs_astore_n X.1 dL_addBase_15 rfl (Nat.le_of_ble_eq_true rfl) rfl,
  List.forall_mem_cons.mpr ⟨fun X => zs_iconst X.1 dL_addBase_16 (by decide) rfl,
  List.forall_mem_cons.mpr ⟨fun X => zs_iret X.1 X.2.1 X.2.2.1 dL_addBase_17,
  List.forall_mem_cons.mpr ⟨fun X => zs_iconst X.1 dL_addBase_18 (by decide) rfl,
  List.forall_mem_cons.mpr ⟨fun X => zs_iret X.1 X.2.1 X.2.2.1 dL_addBase_19,
  fun _ h9 => nomatch h9⟩⟩⟩⟩⟩⟩⟩⟩⟩⟩⟩⟩⟩⟩⟩⟩
theorem zG_L_addBase_0 : ∀ q ∈ zT_L_addBase_0, zmono q.2 := List.forall_mem_cons.mpr ⟨zm_aload 2 1, List.forall_mem_cons.mpr ⟨zm_iconst 0 2, List.forall_mem_cons.mpr ⟨zm_aload 0 3, List.forall_mem_cons.mpr ⟨zm_iload 1 4, List.forall_mem_cons.mpr ⟨zm_callx 6 75 2 1 6 (1, 6) [(0, 3, 13), (1, 3, 16)] 7, List.forall_mem_cons.mpr ⟨zm_i2l 8, List.forall_mem_cons.mpr ⟨zm_last 9, List.forall_mem_cons.mpr ⟨zm_goto 18 [], List.forall_mem_cons.mpr ⟨zm_astore 3 13, List.forall_mem_cons.mpr ⟨zm_iconst 1 14, List.forall_mem_cons.mpr ⟨zm_iret, List.forall_mem_cons.mpr ⟨zm_astore 3 16, List.forall_mem_cons.mpr ⟨zm_iconst 2 17, List.forall_mem_cons.mpr ⟨zm_iret, List.forall_mem_cons.mpr ⟨zm_iconst 0 19, List.forall_mem_cons.mpr ⟨zm_iret, fun _ h9 => nomatch h9⟩⟩⟩⟩⟩⟩⟩⟩⟩⟩⟩⟩⟩⟩⟩⟩
theorem zE_L_addBase : ∀ L ∈ zT_L_addBase, ∀ q ∈ L, zEnt yL_addBase cL_addBase 4 (some .int) [(0, 9, 12, 13), (0, 9, 15, 15)] { frames := 7, cells := 1, slots := 6, locals := 149 } q := List.forall_mem_cons.mpr ⟨zE_L_addBase_0, fun _ h9 => nomatch h9⟩
theorem zG_L_addBase : ∀ L ∈ zT_L_addBase, ∀ q ∈ L, zmono q.2 := List.forall_mem_cons.mpr ⟨zG_L_addBase_0, fun _ h9 => nomatch h9⟩
set_option maxRecDepth 100000 in
theorem zE_L_edit_0 : ∀ q ∈ zT_L_edit_0, zEnt yL_edit cL_edit 6 (some .int) [(0, 12, 15, 21), (0, 12, 19, 13)] { frames := 7, cells := 1, slots := 6, locals := 152 } q := List.forall_mem_cons.mpr ⟨fun X => zs_aload X.1 dL_edit_0 rfl,
  List.forall_mem_cons.mpr ⟨fun X => zs_iconst X.1 dL_edit_2 (by decide) rfl,
  List.forall_mem_cons.mpr ⟨fun X => zs_aload_n X.1 dL_edit_3 rfl rfl,
  List.forall_mem_cons.mpr ⟨fun X => zs_iload_n X.1 dL_edit_4 rfl rfl,
  List.forall_mem_cons.mpr ⟨fun X => zs_iload_n X.1 dL_edit_5 rfl rfl,
  List.forall_mem_cons.mpr ⟨fun X => zs_iload_n X.1 dL_edit_6 rfl rfl,
  List.forall_mem_cons.mpr ⟨fun X => zs_callX (Cn := RX6) X.1 zNw_ok (fun _ h9 => Or.inr h9) X.2.2.2.2.2.1 X.2.2.2.2.2.2.1 zcal_76 rfl ⟨Nat.le_refl _, Nat.le_refl _⟩ ⟨rfl, rfl⟩ wm_525 rfl wm_527 wm_528 (List.forall_mem_cons.mpr ⟨⟨[], ⟨0, 12, 15, 21⟩, [⟨0, 12, 19, 13⟩], X.2.2.2.2.1, (fun _ h9 => nomatch h9), rfl, by decide, wm_526, by decide +kernel, by decide, Or.inr ⟨dL_edit_15, rfl⟩⟩, (List.forall_mem_cons.mpr ⟨⟨[⟨0, 12, 15, 21⟩], ⟨0, 12, 19, 13⟩, [], X.2.2.2.2.1, (List.forall_mem_cons.mpr ⟨(Or.inr ⟨by decide, _, wm_526, by decide +kernel⟩), (fun _ h9 => nomatch h9)⟩), rfl, by decide, wm_521, by decide +kernel, by decide, Or.inr ⟨dL_edit_19, rfl⟩⟩, (fun _ h9 => nomatch h9)⟩)⟩) dL_edit_7 rfl,
  List.forall_mem_cons.mpr ⟨fun X => zs_i2l X.1 dL_edit_10 rfl,
  List.forall_mem_cons.mpr ⟨fun X => zs_last X.1 X.2.2.2.2.2.1 dL_edit_11 rfl,
  List.forall_mem_cons.mpr ⟨fun X => zs_goto X.1 dL_edit_12 (by decide),
  List.forall_mem_cons.mpr ⟨fun X => zs_astore X.1 dL_edit_15 (Nat.le_of_ble_eq_true rfl) rfl,
  List.forall_mem_cons.mpr ⟨fun X => zs_iconst X.1 dL_edit_17 (by decide) rfl,
  List.forall_mem_cons.mpr ⟨fun X => zs_iret X.1 X.2.1 X.2.2.1 dL_edit_18,
  List.forall_mem_cons.mpr ⟨fun X => zs_astore X.1 dL_edit_19 (Nat.le_of_ble_eq_true rfl) rfl,
  List.forall_mem_cons.mpr ⟨fun X => zs_iconst X.1 dL_edit_21 (by decide) rfl,
  List.forall_mem_cons.mpr ⟨fun X => zs_iret X.1 X.2.1 X.2.2.1 dL_edit_22,
  List.forall_mem_cons.mpr ⟨fun X => zs_iconst X.1 dL_edit_23 (by decide) rfl,
  List.forall_mem_cons.mpr ⟨fun X => zs_iret X.1 X.2.1 X.2.2.1 dL_edit_24,
  fun _ h9 => nomatch h9⟩⟩⟩⟩⟩⟩⟩⟩⟩⟩⟩⟩⟩⟩⟩⟩⟩⟩
theorem zG_L_edit_0 : ∀ q ∈ zT_L_edit_0, zmono q.2 := List.forall_mem_cons.mpr ⟨zm_aload 4 2, List.forall_mem_cons.mpr ⟨zm_iconst 0 3, List.forall_mem_cons.mpr ⟨zm_aload 0 4, List.forall_mem_cons.mpr ⟨zm_iload 1 5, List.forall_mem_cons.mpr ⟨zm_iload 2 6, List.forall_mem_cons.mpr ⟨zm_iload 3 7, List.forall_mem_cons.mpr ⟨zm_callx 6 76 4 1 6 (1, 6) [(2, 5, 17), (0, 5, 21)] 10, List.forall_mem_cons.mpr ⟨zm_i2l 11, List.forall_mem_cons.mpr ⟨zm_last 12, List.forall_mem_cons.mpr ⟨zm_goto 23 [], List.forall_mem_cons.mpr ⟨zm_astore 5 17, List.forall_mem_cons.mpr ⟨zm_iconst 1 18, List.forall_mem_cons.mpr ⟨zm_iret, List.forall_mem_cons.mpr ⟨zm_astore 5 21, List.forall_mem_cons.mpr ⟨zm_iconst 2 22, List.forall_mem_cons.mpr ⟨zm_iret, List.forall_mem_cons.mpr ⟨zm_iconst 0 24, List.forall_mem_cons.mpr ⟨zm_iret, fun _ h9 => nomatch h9⟩⟩⟩⟩⟩⟩⟩⟩⟩⟩⟩⟩⟩⟩⟩⟩⟩⟩
theorem zE_L_edit : ∀ L ∈ zT_L_edit, ∀ q ∈ L, zEnt yL_edit cL_edit 6 (some .int) [(0, 12, 15, 21), (0, 12, 19, 13)] { frames := 7, cells := 1, slots := 6, locals := 152 } q := List.forall_mem_cons.mpr ⟨zE_L_edit_0, fun _ h9 => nomatch h9⟩
theorem zG_L_edit : ∀ L ∈ zT_L_edit, ∀ q ∈ L, zmono q.2 := List.forall_mem_cons.mpr ⟨zG_L_edit_0, fun _ h9 => nomatch h9⟩
set_option maxRecDepth 100000 in
theorem zE_L_move_0 : ∀ q ∈ zT_L_move_0, zEnt yL_move cL_move 6 (some .int) [(0, 12, 15, 21)] { frames := 7, cells := 1, slots := 6, locals := 151 } q := List.forall_mem_cons.mpr ⟨fun X => zs_aload X.1 dL_move_0 rfl,
  List.forall_mem_cons.mpr ⟨fun X => zs_iconst X.1 dL_move_2 (by decide) rfl,
  List.forall_mem_cons.mpr ⟨fun X => zs_aload_n X.1 dL_move_3 rfl rfl,
  List.forall_mem_cons.mpr ⟨fun X => zs_iload_n X.1 dL_move_4 rfl rfl,
  List.forall_mem_cons.mpr ⟨fun X => zs_iload_n X.1 dL_move_5 rfl rfl,
  List.forall_mem_cons.mpr ⟨fun X => zs_iload_n X.1 dL_move_6 rfl rfl,
  List.forall_mem_cons.mpr ⟨fun X => zs_callX (Cn := RX6) X.1 zNw_ok (fun _ h9 => Or.inr h9) X.2.2.2.2.2.1 X.2.2.2.2.2.2.1 zcal_77 rfl ⟨Nat.le_refl _, Nat.le_refl _⟩ ⟨rfl, rfl⟩ wm_529 rfl wm_530 wm_531 (List.forall_mem_cons.mpr ⟨⟨[], ⟨0, 12, 15, 21⟩, [], X.2.2.2.2.1, (fun _ h9 => nomatch h9), rfl, by decide, wm_526, by decide +kernel, by decide, Or.inr ⟨dL_move_15, rfl⟩⟩, (fun _ h9 => nomatch h9)⟩) dL_move_7 rfl,
  List.forall_mem_cons.mpr ⟨fun X => zs_i2l X.1 dL_move_10 rfl,
  List.forall_mem_cons.mpr ⟨fun X => zs_last X.1 X.2.2.2.2.2.1 dL_move_11 rfl,
  List.forall_mem_cons.mpr ⟨fun X => zs_goto X.1 dL_move_12 (by decide),
  List.forall_mem_cons.mpr ⟨fun X => zs_astore X.1 dL_move_15 (Nat.le_of_ble_eq_true rfl) rfl,
  List.forall_mem_cons.mpr ⟨fun X => zs_iconst X.1 dL_move_17 (by decide) rfl,
  List.forall_mem_cons.mpr ⟨fun X => zs_iret X.1 X.2.1 X.2.2.1 dL_move_18,
  List.forall_mem_cons.mpr ⟨fun X => zs_iconst X.1 dL_move_19 (by decide) rfl,
  List.forall_mem_cons.mpr ⟨fun X => zs_iret X.1 X.2.1 X.2.2.1 dL_move_20,
  fun _ h9 => nomatch h9⟩⟩⟩⟩⟩⟩⟩⟩⟩⟩⟩⟩⟩⟩⟩
theorem zG_L_move_0 : ∀ q ∈ zT_L_move_0, zmono q.2 := List.forall_mem_cons.mpr ⟨zm_aload 4 2, List.forall_mem_cons.mpr ⟨zm_iconst 0 3, List.forall_mem_cons.mpr ⟨zm_aload 0 4, List.forall_mem_cons.mpr ⟨zm_iload 1 5, List.forall_mem_cons.mpr ⟨zm_iload 2 6, List.forall_mem_cons.mpr ⟨zm_iload 3 7, List.forall_mem_cons.mpr ⟨zm_callx 6 77 4 1 6 (1, 6) [(2, 5, 17)] 10, List.forall_mem_cons.mpr ⟨zm_i2l 11, List.forall_mem_cons.mpr ⟨zm_last 12, List.forall_mem_cons.mpr ⟨zm_goto 19 [], List.forall_mem_cons.mpr ⟨zm_astore 5 17, List.forall_mem_cons.mpr ⟨zm_iconst 1 18, List.forall_mem_cons.mpr ⟨zm_iret, List.forall_mem_cons.mpr ⟨zm_iconst 0 20, List.forall_mem_cons.mpr ⟨zm_iret, fun _ h9 => nomatch h9⟩⟩⟩⟩⟩⟩⟩⟩⟩⟩⟩⟩⟩⟩⟩
theorem zE_L_move : ∀ L ∈ zT_L_move, ∀ q ∈ L, zEnt yL_move cL_move 6 (some .int) [(0, 12, 15, 21)] { frames := 7, cells := 1, slots := 6, locals := 151 } q := List.forall_mem_cons.mpr ⟨zE_L_move_0, fun _ h9 => nomatch h9⟩
theorem zG_L_move : ∀ L ∈ zT_L_move, ∀ q ∈ L, zmono q.2 := List.forall_mem_cons.mpr ⟨zG_L_move_0, fun _ h9 => nomatch h9⟩
set_option maxRecDepth 100000 in
theorem zE_L_insert_0 : ∀ q ∈ zT_L_insert_0, zEnt yL_insert cL_insert 6 (some .int) [(0, 12, 15, 21), (0, 12, 19, 13), (0, 12, 23, 15)] { frames := 7, cells := 1, slots := 6, locals := 152 } q := List.forall_mem_cons.mpr ⟨fun X => zs_aload X.1 dL_insert_0 rfl,
  List.forall_mem_cons.mpr ⟨fun X => zs_iconst X.1 dL_insert_2 (by decide) rfl,
  List.forall_mem_cons.mpr ⟨fun X => zs_aload_n X.1 dL_insert_3 rfl rfl,
  List.forall_mem_cons.mpr ⟨fun X => zs_iload_n X.1 dL_insert_4 rfl rfl,
  List.forall_mem_cons.mpr ⟨fun X => zs_iload_n X.1 dL_insert_5 rfl rfl,
  List.forall_mem_cons.mpr ⟨fun X => zs_iload_n X.1 dL_insert_6 rfl rfl,
  List.forall_mem_cons.mpr ⟨fun X => zs_callX (Cn := RX6) X.1 zNw_ok (fun _ h9 => Or.inr h9) X.2.2.2.2.2.1 X.2.2.2.2.2.2.1 zcal_78 rfl ⟨Nat.le_refl _, Nat.le_refl _⟩ ⟨rfl, rfl⟩ wm_532 rfl wm_533 wm_534 (List.forall_mem_cons.mpr ⟨⟨[], ⟨0, 12, 15, 21⟩, [⟨0, 12, 19, 13⟩, ⟨0, 12, 23, 15⟩], X.2.2.2.2.1, (fun _ h9 => nomatch h9), rfl, by decide, wm_526, by decide +kernel, by decide, Or.inr ⟨dL_insert_15, rfl⟩⟩, (List.forall_mem_cons.mpr ⟨⟨[⟨0, 12, 15, 21⟩], ⟨0, 12, 19, 13⟩, [⟨0, 12, 23, 15⟩], X.2.2.2.2.1, (List.forall_mem_cons.mpr ⟨(Or.inr ⟨by decide, _, wm_526, by decide +kernel⟩), (fun _ h9 => nomatch h9)⟩), rfl, by decide, wm_521, by decide +kernel, by decide, Or.inr ⟨dL_insert_19, rfl⟩⟩, (List.forall_mem_cons.mpr ⟨⟨[⟨0, 12, 15, 21⟩, ⟨0, 12, 19, 13⟩], ⟨0, 12, 23, 15⟩, [], X.2.2.2.2.1, (List.forall_mem_cons.mpr ⟨(Or.inr ⟨by decide, _, wm_526, by decide +kernel⟩), (List.forall_mem_cons.mpr ⟨(Or.inr ⟨by decide, _, wm_521, by decide +kernel⟩), (fun _ h9 => nomatch h9)⟩)⟩), rfl, by decide, wm_522, by decide +kernel, by decide, Or.inr ⟨dL_insert_23, rfl⟩⟩, (fun _ h9 => nomatch h9)⟩)⟩)⟩) dL_insert_7 rfl,
  List.forall_mem_cons.mpr ⟨fun X => zs_i2l X.1 dL_insert_10 rfl,
  List.forall_mem_cons.mpr ⟨fun X => zs_last X.1 X.2.2.2.2.2.1 dL_insert_11 rfl,
  List.forall_mem_cons.mpr ⟨fun X => zs_goto X.1 dL_insert_12 (by decide),
  List.forall_mem_cons.mpr ⟨fun X => zs_astore X.1 dL_insert_15 (Nat.le_of_ble_eq_true rfl) rfl,
  List.forall_mem_cons.mpr ⟨fun X => zs_iconst X.1 dL_insert_17 (by decide) rfl,
  List.forall_mem_cons.mpr ⟨fun X => zs_iret X.1 X.2.1 X.2.2.1 dL_insert_18,
  List.forall_mem_cons.mpr ⟨fun X => zs_astore X.1 dL_insert_19 (Nat.le_of_ble_eq_true rfl) rfl,
  List.forall_mem_cons.mpr ⟨fun X => zs_iconst X.1 dL_insert_21 (by decide) rfl,
  List.forall_mem_cons.mpr ⟨fun X => zs_iret X.1 X.2.1 X.2.2.1 dL_insert_22,
  List.forall_mem_cons.mpr ⟨fun X => zs_astore X.1 dL_insert_23 (Nat.le_of_ble_eq_true rfl) rfl,
  List.forall_mem_cons.mpr ⟨fun X => zs_iconst X.1 dL_insert_25 (by decide) rfl,
  List.forall_mem_cons.mpr ⟨fun X => zs_iret X.1 X.2.1 X.2.2.1 dL_insert_26,
  List.forall_mem_cons.mpr ⟨fun X => zs_iconst X.1 dL_insert_27 (by decide) rfl,
  List.forall_mem_cons.mpr ⟨fun X => zs_iret X.1 X.2.1 X.2.2.1 dL_insert_28,
  fun _ h9 => nomatch h9⟩⟩⟩⟩⟩⟩⟩⟩⟩⟩⟩⟩⟩⟩⟩⟩⟩⟩⟩⟩⟩
theorem zG_L_insert_0 : ∀ q ∈ zT_L_insert_0, zmono q.2 := List.forall_mem_cons.mpr ⟨zm_aload 4 2, List.forall_mem_cons.mpr ⟨zm_iconst 0 3, List.forall_mem_cons.mpr ⟨zm_aload 0 4, List.forall_mem_cons.mpr ⟨zm_iload 1 5, List.forall_mem_cons.mpr ⟨zm_iload 2 6, List.forall_mem_cons.mpr ⟨zm_iload 3 7, List.forall_mem_cons.mpr ⟨zm_callx 6 78 4 1 6 (1, 6) [(2, 5, 17), (0, 5, 21), (1, 5, 25)] 10, List.forall_mem_cons.mpr ⟨zm_i2l 11, List.forall_mem_cons.mpr ⟨zm_last 12, List.forall_mem_cons.mpr ⟨zm_goto 27 [], List.forall_mem_cons.mpr ⟨zm_astore 5 17, List.forall_mem_cons.mpr ⟨zm_iconst 1 18, List.forall_mem_cons.mpr ⟨zm_iret, List.forall_mem_cons.mpr ⟨zm_astore 5 21, List.forall_mem_cons.mpr ⟨zm_iconst 2 22, List.forall_mem_cons.mpr ⟨zm_iret, List.forall_mem_cons.mpr ⟨zm_astore 5 25, List.forall_mem_cons.mpr ⟨zm_iconst 3 26, List.forall_mem_cons.mpr ⟨zm_iret, List.forall_mem_cons.mpr ⟨zm_iconst 0 28, List.forall_mem_cons.mpr ⟨zm_iret, fun _ h9 => nomatch h9⟩⟩⟩⟩⟩⟩⟩⟩⟩⟩⟩⟩⟩⟩⟩⟩⟩⟩⟩⟩⟩
theorem zE_L_insert : ∀ L ∈ zT_L_insert, ∀ q ∈ L, zEnt yL_insert cL_insert 6 (some .int) [(0, 12, 15, 21), (0, 12, 19, 13), (0, 12, 23, 15)] { frames := 7, cells := 1, slots := 6, locals := 152 } q := List.forall_mem_cons.mpr ⟨zE_L_insert_0, fun _ h9 => nomatch h9⟩
theorem zG_L_insert : ∀ L ∈ zT_L_insert, ∀ q ∈ L, zmono q.2 := List.forall_mem_cons.mpr ⟨zG_L_insert_0, fun _ h9 => nomatch h9⟩
set_option maxRecDepth 100000 in
theorem zE_L_remove_0 : ∀ q ∈ zT_L_remove_0, zEnt yL_remove cL_remove 5 (some .int) [(0, 10, 13, 21)] { frames := 7, cells := 1, slots := 6, locals := 150 } q := List.forall_mem_cons.mpr ⟨fun X => zs_aload_n X.1 dL_remove_0 rfl rfl,
  List.forall_mem_cons.mpr ⟨fun X => zs_iconst X.1 dL_remove_1 (by decide) rfl,
  List.forall_mem_cons.mpr ⟨fun X => zs_aload_n X.1 dL_remove_2 rfl rfl,
  List.forall_mem_cons.mpr ⟨fun X => zs_iload_n X.1 dL_remove_3 rfl rfl,
  List.forall_mem_cons.mpr ⟨fun X => zs_iload_n X.1 dL_remove_4 rfl rfl,
  List.forall_mem_cons.mpr ⟨fun X => zs_callX (Cn := RX6) X.1 zNw_ok (fun _ h9 => Or.inr h9) X.2.2.2.2.2.1 X.2.2.2.2.2.2.1 zcal_79 rfl ⟨Nat.le_refl _, Nat.le_refl _⟩ ⟨rfl, rfl⟩ wm_535 rfl wm_536 wm_537 (List.forall_mem_cons.mpr ⟨⟨[], ⟨0, 10, 13, 21⟩, [], X.2.2.2.2.1, (fun _ h9 => nomatch h9), rfl, by decide, wm_526, by decide +kernel, by decide, Or.inr ⟨dL_remove_13, rfl⟩⟩, (fun _ h9 => nomatch h9)⟩) dL_remove_5 rfl,
  List.forall_mem_cons.mpr ⟨fun X => zs_i2l X.1 dL_remove_8 rfl,
  List.forall_mem_cons.mpr ⟨fun X => zs_last X.1 X.2.2.2.2.2.1 dL_remove_9 rfl,
  List.forall_mem_cons.mpr ⟨fun X => zs_goto X.1 dL_remove_10 (by decide),
  List.forall_mem_cons.mpr ⟨fun X => zs_astore X.1 dL_remove_13 (Nat.le_of_ble_eq_true rfl) rfl,
  List.forall_mem_cons.mpr ⟨fun X => zs_iconst X.1 dL_remove_15 (by decide) rfl,
  List.forall_mem_cons.mpr ⟨fun X => zs_iret X.1 X.2.1 X.2.2.1 dL_remove_16,
  List.forall_mem_cons.mpr ⟨fun X => zs_iconst X.1 dL_remove_17 (by decide) rfl,
  List.forall_mem_cons.mpr ⟨fun X => zs_iret X.1 X.2.1 X.2.2.1 dL_remove_18,
  fun _ h9 => nomatch h9⟩⟩⟩⟩⟩⟩⟩⟩⟩⟩⟩⟩⟩⟩
theorem zG_L_remove_0 : ∀ q ∈ zT_L_remove_0, zmono q.2 := List.forall_mem_cons.mpr ⟨zm_aload 3 1, List.forall_mem_cons.mpr ⟨zm_iconst 0 2, List.forall_mem_cons.mpr ⟨zm_aload 0 3, List.forall_mem_cons.mpr ⟨zm_iload 1 4, List.forall_mem_cons.mpr ⟨zm_iload 2 5, List.forall_mem_cons.mpr ⟨zm_callx 6 79 3 1 6 (1, 6) [(2, 4, 15)] 8, List.forall_mem_cons.mpr ⟨zm_i2l 9, List.forall_mem_cons.mpr ⟨zm_last 10, List.forall_mem_cons.mpr ⟨zm_goto 17 [], List.forall_mem_cons.mpr ⟨zm_astore 4 15, List.forall_mem_cons.mpr ⟨zm_iconst 1 16, List.forall_mem_cons.mpr ⟨zm_iret, List.forall_mem_cons.mpr ⟨zm_iconst 0 18, List.forall_mem_cons.mpr ⟨zm_iret, fun _ h9 => nomatch h9⟩⟩⟩⟩⟩⟩⟩⟩⟩⟩⟩⟩⟩⟩
theorem zE_L_remove : ∀ L ∈ zT_L_remove, ∀ q ∈ L, zEnt yL_remove cL_remove 5 (some .int) [(0, 10, 13, 21)] { frames := 7, cells := 1, slots := 6, locals := 150 } q := List.forall_mem_cons.mpr ⟨zE_L_remove_0, fun _ h9 => nomatch h9⟩
theorem zG_L_remove : ∀ L ∈ zT_L_remove, ∀ q ∈ L, zmono q.2 := List.forall_mem_cons.mpr ⟨zG_L_remove_0, fun _ h9 => nomatch h9⟩
set_option maxRecDepth 100000 in
theorem zE_L_size_0 : ∀ q ∈ zT_L_size_0, zEnt yL_size cL_size 4 (some .int) [(0, 9, 12, 21)] { frames := 7, cells := 1, slots := 6, locals := 103 } q := List.forall_mem_cons.mpr ⟨fun X => zs_aload_n X.1 dL_size_0 rfl rfl,
  List.forall_mem_cons.mpr ⟨fun X => zs_iconst X.1 dL_size_1 (by decide) rfl,
  List.forall_mem_cons.mpr ⟨fun X => zs_aload_n X.1 dL_size_2 rfl rfl,
  List.forall_mem_cons.mpr ⟨fun X => zs_iload_n X.1 dL_size_3 rfl rfl,
  List.forall_mem_cons.mpr ⟨fun X => zs_callX (Cn := RX6) X.1 zNw_ok (fun _ h9 => Or.inr h9) X.2.2.2.2.2.1 X.2.2.2.2.2.2.1 zcal_81 rfl ⟨Nat.le_refl _, Nat.le_refl _⟩ ⟨rfl, rfl⟩ wm_538 rfl wm_539 wm_540 (List.forall_mem_cons.mpr ⟨⟨[], ⟨0, 9, 12, 21⟩, [], X.2.2.2.2.1, (fun _ h9 => nomatch h9), rfl, by decide, wm_526, by decide +kernel, by decide, Or.inl ⟨3, rfl, dL_size_12, rfl⟩⟩, (fun _ h9 => nomatch h9)⟩) dL_size_4 rfl,
  List.forall_mem_cons.mpr ⟨fun X => zs_i2l X.1 dL_size_7 rfl,
  List.forall_mem_cons.mpr ⟨fun X => zs_last X.1 X.2.2.2.2.2.1 dL_size_8 rfl,
  List.forall_mem_cons.mpr ⟨fun X => zs_goto X.1 dL_size_9 (by decide),
  List.forall_mem_cons.mpr ⟨fun X => zs_astore_n X.1 dL_size_12 rfl (Nat.le_of_ble_eq_true rfl) rfl,
  List.forall_mem_cons.mpr ⟨fun X => zs_iconst X.1 dL_size_13 (by decide) rfl,
  List.forall_mem_cons.mpr ⟨fun X => zs_iret X.1 X.2.1 X.2.2.1 dL_size_14,
  List.forall_mem_cons.mpr ⟨fun X => zs_iconst X.1 dL_size_15 (by decide) rfl,
  List.forall_mem_cons.mpr ⟨fun X => zs_iret X.1 X.2.1 X.2.2.1 dL_size_16,
  fun _ h9 => nomatch h9⟩⟩⟩⟩⟩⟩⟩⟩⟩⟩⟩⟩⟩
theorem zG_L_size_0 : ∀ q ∈ zT_L_size_0, zmono q.2 := List.forall_mem_cons.mpr ⟨zm_aload 2 1, List.forall_mem_cons.mpr ⟨zm_iconst 0 2, List.forall_mem_cons.mpr ⟨zm_aload 0 3, List.forall_mem_cons.mpr ⟨zm_iload 1 4, List.forall_mem_cons.mpr ⟨zm_callx 6 81 2 1 6 (1, 6) [(2, 3, 13)] 7, List.forall_mem_cons.mpr ⟨zm_i2l 8, List.forall_mem_cons.mpr ⟨zm_last 9, List.forall_mem_cons.mpr ⟨zm_goto 15 [], List.forall_mem_cons.mpr ⟨zm_astore 3 13, List.forall_mem_cons.mpr ⟨zm_iconst 1 14, List.forall_mem_cons.mpr ⟨zm_iret, List.forall_mem_cons.mpr ⟨zm_iconst 0 16, List.forall_mem_cons.mpr ⟨zm_iret, fun _ h9 => nomatch h9⟩⟩⟩⟩⟩⟩⟩⟩⟩⟩⟩⟩⟩
theorem zE_L_size : ∀ L ∈ zT_L_size, ∀ q ∈ L, zEnt yL_size cL_size 4 (some .int) [(0, 9, 12, 21)] { frames := 7, cells := 1, slots := 6, locals := 103 } q := List.forall_mem_cons.mpr ⟨zE_L_size_0, fun _ h9 => nomatch h9⟩
theorem zG_L_size : ∀ L ∈ zT_L_size, ∀ q ∈ L, zmono q.2 := List.forall_mem_cons.mpr ⟨zG_L_size_0, fun _ h9 => nomatch h9⟩
set_option maxRecDepth 100000 in
theorem zE_L_block_0 : ∀ q ∈ zT_L_block_0, zEnt yL_block cL_block 5 (some .int) [(0, 10, 13, 21)] { frames := 7, cells := 1, slots := 6, locals := 104 } q := List.forall_mem_cons.mpr ⟨fun X => zs_aload_n X.1 dL_block_0 rfl rfl,
  List.forall_mem_cons.mpr ⟨fun X => zs_iconst X.1 dL_block_1 (by decide) rfl,
  List.forall_mem_cons.mpr ⟨fun X => zs_aload_n X.1 dL_block_2 rfl rfl,
  List.forall_mem_cons.mpr ⟨fun X => zs_iload_n X.1 dL_block_3 rfl rfl,
  List.forall_mem_cons.mpr ⟨fun X => zs_iload_n X.1 dL_block_4 rfl rfl,
  List.forall_mem_cons.mpr ⟨fun X => zs_callX (Cn := RX6) X.1 zNw_ok (fun _ h9 => Or.inr h9) X.2.2.2.2.2.1 X.2.2.2.2.2.2.1 zcal_82 rfl ⟨Nat.le_refl _, Nat.le_refl _⟩ ⟨rfl, rfl⟩ wm_541 rfl wm_542 wm_543 (List.forall_mem_cons.mpr ⟨⟨[], ⟨0, 10, 13, 21⟩, [], X.2.2.2.2.1, (fun _ h9 => nomatch h9), rfl, by decide, wm_526, by decide +kernel, by decide, Or.inr ⟨dL_block_13, rfl⟩⟩, (fun _ h9 => nomatch h9)⟩) dL_block_5 rfl,
  List.forall_mem_cons.mpr ⟨fun X => zs_i2l X.1 dL_block_8 rfl,
  List.forall_mem_cons.mpr ⟨fun X => zs_last X.1 X.2.2.2.2.2.1 dL_block_9 rfl,
  List.forall_mem_cons.mpr ⟨fun X => zs_goto X.1 dL_block_10 (by decide),
  List.forall_mem_cons.mpr ⟨fun X => zs_astore X.1 dL_block_13 (Nat.le_of_ble_eq_true rfl) rfl,
  List.forall_mem_cons.mpr ⟨fun X => zs_iconst X.1 dL_block_15 (by decide) rfl,
  List.forall_mem_cons.mpr ⟨fun X => zs_iret X.1 X.2.1 X.2.2.1 dL_block_16,
  List.forall_mem_cons.mpr ⟨fun X => zs_iconst X.1 dL_block_17 (by decide) rfl,
  List.forall_mem_cons.mpr ⟨fun X => zs_iret X.1 X.2.1 X.2.2.1 dL_block_18,
  fun _ h9 => nomatch h9⟩⟩⟩⟩⟩⟩⟩⟩⟩⟩⟩⟩⟩⟩
theorem zG_L_block_0 : ∀ q ∈ zT_L_block_0, zmono q.2 := List.forall_mem_cons.mpr ⟨zm_aload 3 1, List.forall_mem_cons.mpr ⟨zm_iconst 0 2, List.forall_mem_cons.mpr ⟨zm_aload 0 3, List.forall_mem_cons.mpr ⟨zm_iload 1 4, List.forall_mem_cons.mpr ⟨zm_iload 2 5, List.forall_mem_cons.mpr ⟨zm_callx 6 82 3 1 6 (1, 6) [(2, 4, 15)] 8, List.forall_mem_cons.mpr ⟨zm_i2l 9, List.forall_mem_cons.mpr ⟨zm_last 10, List.forall_mem_cons.mpr ⟨zm_goto 17 [], List.forall_mem_cons.mpr ⟨zm_astore 4 15, List.forall_mem_cons.mpr ⟨zm_iconst 1 16, List.forall_mem_cons.mpr ⟨zm_iret, List.forall_mem_cons.mpr ⟨zm_iconst 0 18, List.forall_mem_cons.mpr ⟨zm_iret, fun _ h9 => nomatch h9⟩⟩⟩⟩⟩⟩⟩⟩⟩⟩⟩⟩⟩⟩
theorem zE_L_block : ∀ L ∈ zT_L_block, ∀ q ∈ L, zEnt yL_block cL_block 5 (some .int) [(0, 10, 13, 21)] { frames := 7, cells := 1, slots := 6, locals := 104 } q := List.forall_mem_cons.mpr ⟨zE_L_block_0, fun _ h9 => nomatch h9⟩
theorem zG_L_block : ∀ L ∈ zT_L_block, ∀ q ∈ L, zmono q.2 := List.forall_mem_cons.mpr ⟨zG_L_block_0, fun _ h9 => nomatch h9⟩
set_option maxRecDepth 100000 in
theorem zE_L_content_0 : ∀ q ∈ zT_L_content_0, zEnt yL_content cL_content 5 (some .int) [(0, 10, 13, 21)] { frames := 7, cells := 1, slots := 6, locals := 104 } q := List.forall_mem_cons.mpr ⟨fun X => zs_aload_n X.1 dL_content_0 rfl rfl,
  List.forall_mem_cons.mpr ⟨fun X => zs_iconst X.1 dL_content_1 (by decide) rfl,
  List.forall_mem_cons.mpr ⟨fun X => zs_aload_n X.1 dL_content_2 rfl rfl,
  List.forall_mem_cons.mpr ⟨fun X => zs_iload_n X.1 dL_content_3 rfl rfl,
  List.forall_mem_cons.mpr ⟨fun X => zs_iload_n X.1 dL_content_4 rfl rfl,
  List.forall_mem_cons.mpr ⟨fun X => zs_callX (Cn := RX6) X.1 zNw_ok (fun _ h9 => Or.inr h9) X.2.2.2.2.2.1 X.2.2.2.2.2.2.1 zcal_83 rfl ⟨Nat.le_refl _, Nat.le_refl _⟩ ⟨rfl, rfl⟩ wm_544 rfl wm_545 wm_546 (List.forall_mem_cons.mpr ⟨⟨[], ⟨0, 10, 13, 21⟩, [], X.2.2.2.2.1, (fun _ h9 => nomatch h9), rfl, by decide, wm_526, by decide +kernel, by decide, Or.inr ⟨dL_content_13, rfl⟩⟩, (fun _ h9 => nomatch h9)⟩) dL_content_5 rfl,
  List.forall_mem_cons.mpr ⟨fun X => zs_i2l X.1 dL_content_8 rfl,
  List.forall_mem_cons.mpr ⟨fun X => zs_last X.1 X.2.2.2.2.2.1 dL_content_9 rfl,
  List.forall_mem_cons.mpr ⟨fun X => zs_goto X.1 dL_content_10 (by decide),
  List.forall_mem_cons.mpr ⟨fun X => zs_astore X.1 dL_content_13 (Nat.le_of_ble_eq_true rfl) rfl,
  List.forall_mem_cons.mpr ⟨fun X => zs_iconst X.1 dL_content_15 (by decide) rfl,
  List.forall_mem_cons.mpr ⟨fun X => zs_iret X.1 X.2.1 X.2.2.1 dL_content_16,
  List.forall_mem_cons.mpr ⟨fun X => zs_iconst X.1 dL_content_17 (by decide) rfl,
  List.forall_mem_cons.mpr ⟨fun X => zs_iret X.1 X.2.1 X.2.2.1 dL_content_18,
  fun _ h9 => nomatch h9⟩⟩⟩⟩⟩⟩⟩⟩⟩⟩⟩⟩⟩⟩
theorem zG_L_content_0 : ∀ q ∈ zT_L_content_0, zmono q.2 := List.forall_mem_cons.mpr ⟨zm_aload 3 1, List.forall_mem_cons.mpr ⟨zm_iconst 0 2, List.forall_mem_cons.mpr ⟨zm_aload 0 3, List.forall_mem_cons.mpr ⟨zm_iload 1 4, List.forall_mem_cons.mpr ⟨zm_iload 2 5, List.forall_mem_cons.mpr ⟨zm_callx 6 83 3 1 6 (1, 6) [(2, 4, 15)] 8, List.forall_mem_cons.mpr ⟨zm_i2l 9, List.forall_mem_cons.mpr ⟨zm_last 10, List.forall_mem_cons.mpr ⟨zm_goto 17 [], List.forall_mem_cons.mpr ⟨zm_astore 4 15, List.forall_mem_cons.mpr ⟨zm_iconst 1 16, List.forall_mem_cons.mpr ⟨zm_iret, List.forall_mem_cons.mpr ⟨zm_iconst 0 18, List.forall_mem_cons.mpr ⟨zm_iret, fun _ h9 => nomatch h9⟩⟩⟩⟩⟩⟩⟩⟩⟩⟩⟩⟩⟩⟩
theorem zE_L_content : ∀ L ∈ zT_L_content, ∀ q ∈ L, zEnt yL_content cL_content 5 (some .int) [(0, 10, 13, 21)] { frames := 7, cells := 1, slots := 6, locals := 104 } q := List.forall_mem_cons.mpr ⟨zE_L_content_0, fun _ h9 => nomatch h9⟩
theorem zG_L_content : ∀ L ∈ zT_L_content, ∀ q ∈ L, zmono q.2 := List.forall_mem_cons.mpr ⟨zG_L_content_0, fun _ h9 => nomatch h9⟩
set_option maxRecDepth 100000 in
theorem zE_L_change_0 : ∀ q ∈ zT_L_change_0, zEnt yL_change cL_change 5 (some .int) [(0, 10, 13, 21)] { frames := 8, cells := 1, slots := 6, locals := 177 } q := List.forall_mem_cons.mpr ⟨fun X => zs_aload_n X.1 dL_change_0 rfl rfl,
  List.forall_mem_cons.mpr ⟨fun X => zs_iconst X.1 dL_change_1 (by decide) rfl,
  List.forall_mem_cons.mpr ⟨fun X => zs_aload_n X.1 dL_change_2 rfl rfl,
  List.forall_mem_cons.mpr ⟨fun X => zs_iload_n X.1 dL_change_3 rfl rfl,
  List.forall_mem_cons.mpr ⟨fun X => zs_iload_n X.1 dL_change_4 rfl rfl,
  List.forall_mem_cons.mpr ⟨fun X => zs_callX (Cn := RX6) X.1 zNw_ok (fun _ h9 => Or.inr h9) X.2.2.2.2.2.1 X.2.2.2.2.2.2.1 zcal_84 rfl ⟨Nat.le_refl _, Nat.le_refl _⟩ ⟨rfl, rfl⟩ wm_547 rfl wm_548 wm_549 (List.forall_mem_cons.mpr ⟨⟨[], ⟨0, 10, 13, 21⟩, [], X.2.2.2.2.1, (fun _ h9 => nomatch h9), rfl, by decide, wm_526, by decide +kernel, by decide, Or.inr ⟨dL_change_13, rfl⟩⟩, (fun _ h9 => nomatch h9)⟩) dL_change_5 rfl,
  List.forall_mem_cons.mpr ⟨fun X => zs_i2l X.1 dL_change_8 rfl,
  List.forall_mem_cons.mpr ⟨fun X => zs_last X.1 X.2.2.2.2.2.1 dL_change_9 rfl,
  List.forall_mem_cons.mpr ⟨fun X => zs_goto X.1 dL_change_10 (by decide),
  List.forall_mem_cons.mpr ⟨fun X => zs_astore X.1 dL_change_13 (Nat.le_of_ble_eq_true rfl) rfl,
  List.forall_mem_cons.mpr ⟨fun X => zs_iconst X.1 dL_change_15 (by decide) rfl,
  List.forall_mem_cons.mpr ⟨fun X => zs_iret X.1 X.2.1 X.2.2.1 dL_change_16,
  List.forall_mem_cons.mpr ⟨fun X => zs_iconst X.1 dL_change_17 (by decide) rfl,
  List.forall_mem_cons.mpr ⟨fun X => zs_iret X.1 X.2.1 X.2.2.1 dL_change_18,
  fun _ h9 => nomatch h9⟩⟩⟩⟩⟩⟩⟩⟩⟩⟩⟩⟩⟩⟩
theorem zG_L_change_0 : ∀ q ∈ zT_L_change_0, zmono q.2 := List.forall_mem_cons.mpr ⟨zm_aload 3 1, List.forall_mem_cons.mpr ⟨zm_iconst 0 2, List.forall_mem_cons.mpr ⟨zm_aload 0 3, List.forall_mem_cons.mpr ⟨zm_iload 1 4, List.forall_mem_cons.mpr ⟨zm_iload 2 5, List.forall_mem_cons.mpr ⟨zm_callx 6 84 3 1 6 (1, 6) [(2, 4, 15)] 8, List.forall_mem_cons.mpr ⟨zm_i2l 9, List.forall_mem_cons.mpr ⟨zm_last 10, List.forall_mem_cons.mpr ⟨zm_goto 17 [], List.forall_mem_cons.mpr ⟨zm_astore 4 15, List.forall_mem_cons.mpr ⟨zm_iconst 1 16, List.forall_mem_cons.mpr ⟨zm_iret, List.forall_mem_cons.mpr ⟨zm_iconst 0 18, List.forall_mem_cons.mpr ⟨zm_iret, fun _ h9 => nomatch h9⟩⟩⟩⟩⟩⟩⟩⟩⟩⟩⟩⟩⟩⟩
theorem zE_L_change : ∀ L ∈ zT_L_change, ∀ q ∈ L, zEnt yL_change cL_change 5 (some .int) [(0, 10, 13, 21)] { frames := 8, cells := 1, slots := 6, locals := 177 } q := List.forall_mem_cons.mpr ⟨zE_L_change_0, fun _ h9 => nomatch h9⟩
theorem zG_L_change : ∀ L ∈ zT_L_change, ∀ q ∈ L, zmono q.2 := List.forall_mem_cons.mpr ⟨zG_L_change_0, fun _ h9 => nomatch h9⟩
set_option maxRecDepth 100000 in
theorem zE_L_moves_0 : ∀ q ∈ zT_L_moves_0, zEnt yL_moves cL_moves 4 (some .int) [(0, 9, 12, 21)] { frames := 8, cells := 1, slots := 6, locals := 176 } q := List.forall_mem_cons.mpr ⟨fun X => zs_aload_n X.1 dL_moves_0 rfl rfl,
  List.forall_mem_cons.mpr ⟨fun X => zs_iconst X.1 dL_moves_1 (by decide) rfl,
  List.forall_mem_cons.mpr ⟨fun X => zs_aload_n X.1 dL_moves_2 rfl rfl,
  List.forall_mem_cons.mpr ⟨fun X => zs_iload_n X.1 dL_moves_3 rfl rfl,
  List.forall_mem_cons.mpr ⟨fun X => zs_callX (Cn := RX6) X.1 zNw_ok (fun _ h9 => Or.inr h9) X.2.2.2.2.2.1 X.2.2.2.2.2.2.1 zcal_85 rfl ⟨Nat.le_refl _, Nat.le_refl _⟩ ⟨rfl, rfl⟩ wm_550 rfl wm_551 wm_552 (List.forall_mem_cons.mpr ⟨⟨[], ⟨0, 9, 12, 21⟩, [], X.2.2.2.2.1, (fun _ h9 => nomatch h9), rfl, by decide, wm_526, by decide +kernel, by decide, Or.inl ⟨3, rfl, dL_moves_12, rfl⟩⟩, (fun _ h9 => nomatch h9)⟩) dL_moves_4 rfl,
  List.forall_mem_cons.mpr ⟨fun X => zs_i2l X.1 dL_moves_7 rfl,
  List.forall_mem_cons.mpr ⟨fun X => zs_last X.1 X.2.2.2.2.2.1 dL_moves_8 rfl,
  List.forall_mem_cons.mpr ⟨fun X => zs_goto X.1 dL_moves_9 (by decide),
  List.forall_mem_cons.mpr ⟨fun X => zs_astore_n X.1 dL_moves_12 rfl (Nat.le_of_ble_eq_true rfl) rfl,
  List.forall_mem_cons.mpr ⟨fun X => zs_iconst X.1 dL_moves_13 (by decide) rfl,
  List.forall_mem_cons.mpr ⟨fun X => zs_iret X.1 X.2.1 X.2.2.1 dL_moves_14,
  List.forall_mem_cons.mpr ⟨fun X => zs_iconst X.1 dL_moves_15 (by decide) rfl,
  List.forall_mem_cons.mpr ⟨fun X => zs_iret X.1 X.2.1 X.2.2.1 dL_moves_16,
  fun _ h9 => nomatch h9⟩⟩⟩⟩⟩⟩⟩⟩⟩⟩⟩⟩⟩
theorem zG_L_moves_0 : ∀ q ∈ zT_L_moves_0, zmono q.2 := List.forall_mem_cons.mpr ⟨zm_aload 2 1, List.forall_mem_cons.mpr ⟨zm_iconst 0 2, List.forall_mem_cons.mpr ⟨zm_aload 0 3, List.forall_mem_cons.mpr ⟨zm_iload 1 4, List.forall_mem_cons.mpr ⟨zm_callx 6 85 2 1 6 (1, 6) [(2, 3, 13)] 7, List.forall_mem_cons.mpr ⟨zm_i2l 8, List.forall_mem_cons.mpr ⟨zm_last 9, List.forall_mem_cons.mpr ⟨zm_goto 15 [], List.forall_mem_cons.mpr ⟨zm_astore 3 13, List.forall_mem_cons.mpr ⟨zm_iconst 1 14, List.forall_mem_cons.mpr ⟨zm_iret, List.forall_mem_cons.mpr ⟨zm_iconst 0 16, List.forall_mem_cons.mpr ⟨zm_iret, fun _ h9 => nomatch h9⟩⟩⟩⟩⟩⟩⟩⟩⟩⟩⟩⟩⟩
theorem zE_L_moves : ∀ L ∈ zT_L_moves, ∀ q ∈ L, zEnt yL_moves cL_moves 4 (some .int) [(0, 9, 12, 21)] { frames := 8, cells := 1, slots := 6, locals := 176 } q := List.forall_mem_cons.mpr ⟨zE_L_moves_0, fun _ h9 => nomatch h9⟩
theorem zG_L_moves : ∀ L ∈ zT_L_moves, ∀ q ∈ L, zmono q.2 := List.forall_mem_cons.mpr ⟨zG_L_moves_0, fun _ h9 => nomatch h9⟩
set_option maxRecDepth 100000 in
theorem zE_L_mergedBlock_0 : ∀ q ∈ zT_L_mergedBlock_0, zEnt yL_mergedBlock cL_mergedBlock 4 (some .int) [(0, 9, 12, 21)] { frames := 8, cells := 1, slots := 6, locals := 176 } q := List.forall_mem_cons.mpr ⟨fun X => zs_aload_n X.1 dL_mergedBlock_0 rfl rfl,
  List.forall_mem_cons.mpr ⟨fun X => zs_iconst X.1 dL_mergedBlock_1 (by decide) rfl,
  List.forall_mem_cons.mpr ⟨fun X => zs_aload_n X.1 dL_mergedBlock_2 rfl rfl,
  List.forall_mem_cons.mpr ⟨fun X => zs_iload_n X.1 dL_mergedBlock_3 rfl rfl,
  List.forall_mem_cons.mpr ⟨fun X => zs_callX (Cn := RX6) X.1 zNw_ok (fun _ h9 => Or.inr h9) X.2.2.2.2.2.1 X.2.2.2.2.2.2.1 zcal_87 rfl ⟨Nat.le_refl _, Nat.le_refl _⟩ ⟨rfl, rfl⟩ wm_553 rfl wm_554 wm_555 (List.forall_mem_cons.mpr ⟨⟨[], ⟨0, 9, 12, 21⟩, [], X.2.2.2.2.1, (fun _ h9 => nomatch h9), rfl, by decide, wm_526, by decide +kernel, by decide, Or.inl ⟨3, rfl, dL_mergedBlock_12, rfl⟩⟩, (fun _ h9 => nomatch h9)⟩) dL_mergedBlock_4 rfl,
  List.forall_mem_cons.mpr ⟨fun X => zs_i2l X.1 dL_mergedBlock_7 rfl,
  List.forall_mem_cons.mpr ⟨fun X => zs_last X.1 X.2.2.2.2.2.1 dL_mergedBlock_8 rfl,
  List.forall_mem_cons.mpr ⟨fun X => zs_goto X.1 dL_mergedBlock_9 (by decide),
  List.forall_mem_cons.mpr ⟨fun X => zs_astore_n X.1 dL_mergedBlock_12 rfl (Nat.le_of_ble_eq_true rfl) rfl,
  List.forall_mem_cons.mpr ⟨fun X => zs_iconst X.1 dL_mergedBlock_13 (by decide) rfl,
  List.forall_mem_cons.mpr ⟨fun X => zs_iret X.1 X.2.1 X.2.2.1 dL_mergedBlock_14,
  List.forall_mem_cons.mpr ⟨fun X => zs_iconst X.1 dL_mergedBlock_15 (by decide) rfl,
  List.forall_mem_cons.mpr ⟨fun X => zs_iret X.1 X.2.1 X.2.2.1 dL_mergedBlock_16,
  fun _ h9 => nomatch h9⟩⟩⟩⟩⟩⟩⟩⟩⟩⟩⟩⟩⟩
theorem zG_L_mergedBlock_0 : ∀ q ∈ zT_L_mergedBlock_0, zmono q.2 := List.forall_mem_cons.mpr ⟨zm_aload 2 1, List.forall_mem_cons.mpr ⟨zm_iconst 0 2, List.forall_mem_cons.mpr ⟨zm_aload 0 3, List.forall_mem_cons.mpr ⟨zm_iload 1 4, List.forall_mem_cons.mpr ⟨zm_callx 6 87 2 1 6 (1, 6) [(2, 3, 13)] 7, List.forall_mem_cons.mpr ⟨zm_i2l 8, List.forall_mem_cons.mpr ⟨zm_last 9, List.forall_mem_cons.mpr ⟨zm_goto 15 [], List.forall_mem_cons.mpr ⟨zm_astore 3 13, List.forall_mem_cons.mpr ⟨zm_iconst 1 14, List.forall_mem_cons.mpr ⟨zm_iret, List.forall_mem_cons.mpr ⟨zm_iconst 0 16, List.forall_mem_cons.mpr ⟨zm_iret, fun _ h9 => nomatch h9⟩⟩⟩⟩⟩⟩⟩⟩⟩⟩⟩⟩⟩
theorem zE_L_mergedBlock : ∀ L ∈ zT_L_mergedBlock, ∀ q ∈ L, zEnt yL_mergedBlock cL_mergedBlock 4 (some .int) [(0, 9, 12, 21)] { frames := 8, cells := 1, slots := 6, locals := 176 } q := List.forall_mem_cons.mpr ⟨zE_L_mergedBlock_0, fun _ h9 => nomatch h9⟩
theorem zG_L_mergedBlock : ∀ L ∈ zT_L_mergedBlock, ∀ q ∈ L, zmono q.2 := List.forall_mem_cons.mpr ⟨zG_L_mergedBlock_0, fun _ h9 => nomatch h9⟩
set_option maxRecDepth 100000 in
theorem zE_L_mergedContent_0 : ∀ q ∈ zT_L_mergedContent_0, zEnt yL_mergedContent cL_mergedContent 4 (some .int) [(0, 9, 12, 21)] { frames := 8, cells := 1, slots := 6, locals := 176 } q := List.forall_mem_cons.mpr ⟨fun X => zs_aload_n X.1 dL_mergedContent_0 rfl rfl,
  List.forall_mem_cons.mpr ⟨fun X => zs_iconst X.1 dL_mergedContent_1 (by decide) rfl,
  List.forall_mem_cons.mpr ⟨fun X => zs_aload_n X.1 dL_mergedContent_2 rfl rfl,
  List.forall_mem_cons.mpr ⟨fun X => zs_iload_n X.1 dL_mergedContent_3 rfl rfl,
  List.forall_mem_cons.mpr ⟨fun X => zs_callX (Cn := RX6) X.1 zNw_ok (fun _ h9 => Or.inr h9) X.2.2.2.2.2.1 X.2.2.2.2.2.2.1 zcal_88 rfl ⟨Nat.le_refl _, Nat.le_refl _⟩ ⟨rfl, rfl⟩ wm_556 rfl wm_557 wm_558 (List.forall_mem_cons.mpr ⟨⟨[], ⟨0, 9, 12, 21⟩, [], X.2.2.2.2.1, (fun _ h9 => nomatch h9), rfl, by decide, wm_526, by decide +kernel, by decide, Or.inl ⟨3, rfl, dL_mergedContent_12, rfl⟩⟩, (fun _ h9 => nomatch h9)⟩) dL_mergedContent_4 rfl,
  List.forall_mem_cons.mpr ⟨fun X => zs_i2l X.1 dL_mergedContent_7 rfl,
  List.forall_mem_cons.mpr ⟨fun X => zs_last X.1 X.2.2.2.2.2.1 dL_mergedContent_8 rfl,
  List.forall_mem_cons.mpr ⟨fun X => zs_goto X.1 dL_mergedContent_9 (by decide),
  List.forall_mem_cons.mpr ⟨fun X => zs_astore_n X.1 dL_mergedContent_12 rfl (Nat.le_of_ble_eq_true rfl) rfl,
  List.forall_mem_cons.mpr ⟨fun X => zs_iconst X.1 dL_mergedContent_13 (by decide) rfl,
  List.forall_mem_cons.mpr ⟨fun X => zs_iret X.1 X.2.1 X.2.2.1 dL_mergedContent_14,
  List.forall_mem_cons.mpr ⟨fun X => zs_iconst X.1 dL_mergedContent_15 (by decide) rfl,
  List.forall_mem_cons.mpr ⟨fun X => zs_iret X.1 X.2.1 X.2.2.1 dL_mergedContent_16,
  fun _ h9 => nomatch h9⟩⟩⟩⟩⟩⟩⟩⟩⟩⟩⟩⟩⟩
theorem zG_L_mergedContent_0 : ∀ q ∈ zT_L_mergedContent_0, zmono q.2 := List.forall_mem_cons.mpr ⟨zm_aload 2 1, List.forall_mem_cons.mpr ⟨zm_iconst 0 2, List.forall_mem_cons.mpr ⟨zm_aload 0 3, List.forall_mem_cons.mpr ⟨zm_iload 1 4, List.forall_mem_cons.mpr ⟨zm_callx 6 88 2 1 6 (1, 6) [(2, 3, 13)] 7, List.forall_mem_cons.mpr ⟨zm_i2l 8, List.forall_mem_cons.mpr ⟨zm_last 9, List.forall_mem_cons.mpr ⟨zm_goto 15 [], List.forall_mem_cons.mpr ⟨zm_astore 3 13, List.forall_mem_cons.mpr ⟨zm_iconst 1 14, List.forall_mem_cons.mpr ⟨zm_iret, List.forall_mem_cons.mpr ⟨zm_iconst 0 16, List.forall_mem_cons.mpr ⟨zm_iret, fun _ h9 => nomatch h9⟩⟩⟩⟩⟩⟩⟩⟩⟩⟩⟩⟩⟩
theorem zE_L_mergedContent : ∀ L ∈ zT_L_mergedContent, ∀ q ∈ L, zEnt yL_mergedContent cL_mergedContent 4 (some .int) [(0, 9, 12, 21)] { frames := 8, cells := 1, slots := 6, locals := 176 } q := List.forall_mem_cons.mpr ⟨zE_L_mergedContent_0, fun _ h9 => nomatch h9⟩
theorem zG_L_mergedContent : ∀ L ∈ zT_L_mergedContent, ∀ q ∈ L, zmono q.2 := List.forall_mem_cons.mpr ⟨zG_L_mergedContent_0, fun _ h9 => nomatch h9⟩
set_option maxRecDepth 100000 in
theorem zE_L_conflictBlock_0 : ∀ q ∈ zT_L_conflictBlock_0, zEnt yL_conflictBlock cL_conflictBlock 4 (some .int) [(0, 9, 12, 21)] { frames := 8, cells := 1, slots := 6, locals := 176 } q := List.forall_mem_cons.mpr ⟨fun X => zs_aload_n X.1 dL_conflictBlock_0 rfl rfl,
  List.forall_mem_cons.mpr ⟨fun X => zs_iconst X.1 dL_conflictBlock_1 (by decide) rfl,
  List.forall_mem_cons.mpr ⟨fun X => zs_aload_n X.1 dL_conflictBlock_2 rfl rfl,
  List.forall_mem_cons.mpr ⟨fun X => zs_iload_n X.1 dL_conflictBlock_3 rfl rfl,
  List.forall_mem_cons.mpr ⟨fun X => zs_callX (Cn := RX6) X.1 zNw_ok (fun _ h9 => Or.inr h9) X.2.2.2.2.2.1 X.2.2.2.2.2.2.1 zcal_90 rfl ⟨Nat.le_refl _, Nat.le_refl _⟩ ⟨rfl, rfl⟩ wm_559 rfl wm_560 wm_561 (List.forall_mem_cons.mpr ⟨⟨[], ⟨0, 9, 12, 21⟩, [], X.2.2.2.2.1, (fun _ h9 => nomatch h9), rfl, by decide, wm_526, by decide +kernel, by decide, Or.inl ⟨3, rfl, dL_conflictBlock_12, rfl⟩⟩, (fun _ h9 => nomatch h9)⟩) dL_conflictBlock_4 rfl,
  List.forall_mem_cons.mpr ⟨fun X => zs_i2l X.1 dL_conflictBlock_7 rfl,
  List.forall_mem_cons.mpr ⟨fun X => zs_last X.1 X.2.2.2.2.2.1 dL_conflictBlock_8 rfl,
  List.forall_mem_cons.mpr ⟨fun X => zs_goto X.1 dL_conflictBlock_9 (by decide),
  List.forall_mem_cons.mpr ⟨fun X => zs_astore_n X.1 dL_conflictBlock_12 rfl (Nat.le_of_ble_eq_true rfl) rfl,
  List.forall_mem_cons.mpr ⟨fun X => zs_iconst X.1 dL_conflictBlock_13 (by decide) rfl,
  List.forall_mem_cons.mpr ⟨fun X => zs_iret X.1 X.2.1 X.2.2.1 dL_conflictBlock_14,
  List.forall_mem_cons.mpr ⟨fun X => zs_iconst X.1 dL_conflictBlock_15 (by decide) rfl,
  List.forall_mem_cons.mpr ⟨fun X => zs_iret X.1 X.2.1 X.2.2.1 dL_conflictBlock_16,
  fun _ h9 => nomatch h9⟩⟩⟩⟩⟩⟩⟩⟩⟩⟩⟩⟩⟩
theorem zG_L_conflictBlock_0 : ∀ q ∈ zT_L_conflictBlock_0, zmono q.2 := List.forall_mem_cons.mpr ⟨zm_aload 2 1, List.forall_mem_cons.mpr ⟨zm_iconst 0 2, List.forall_mem_cons.mpr ⟨zm_aload 0 3, List.forall_mem_cons.mpr ⟨zm_iload 1 4, List.forall_mem_cons.mpr ⟨zm_callx 6 90 2 1 6 (1, 6) [(2, 3, 13)] 7, List.forall_mem_cons.mpr ⟨zm_i2l 8, List.forall_mem_cons.mpr ⟨zm_last 9, List.forall_mem_cons.mpr ⟨zm_goto 15 [], List.forall_mem_cons.mpr ⟨zm_astore 3 13, List.forall_mem_cons.mpr ⟨zm_iconst 1 14, List.forall_mem_cons.mpr ⟨zm_iret, List.forall_mem_cons.mpr ⟨zm_iconst 0 16, List.forall_mem_cons.mpr ⟨zm_iret, fun _ h9 => nomatch h9⟩⟩⟩⟩⟩⟩⟩⟩⟩⟩⟩⟩⟩
theorem zE_L_conflictBlock : ∀ L ∈ zT_L_conflictBlock, ∀ q ∈ L, zEnt yL_conflictBlock cL_conflictBlock 4 (some .int) [(0, 9, 12, 21)] { frames := 8, cells := 1, slots := 6, locals := 176 } q := List.forall_mem_cons.mpr ⟨zE_L_conflictBlock_0, fun _ h9 => nomatch h9⟩
theorem zG_L_conflictBlock : ∀ L ∈ zT_L_conflictBlock, ∀ q ∈ L, zmono q.2 := List.forall_mem_cons.mpr ⟨zG_L_conflictBlock_0, fun _ h9 => nomatch h9⟩
set_option maxRecDepth 100000 in
theorem zE_L_conflictKind_0 : ∀ q ∈ zT_L_conflictKind_0, zEnt yL_conflictKind cL_conflictKind 4 (some .int) [(0, 9, 12, 21)] { frames := 8, cells := 1, slots := 6, locals := 176 } q := List.forall_mem_cons.mpr ⟨fun X => zs_aload_n X.1 dL_conflictKind_0 rfl rfl,
  List.forall_mem_cons.mpr ⟨fun X => zs_iconst X.1 dL_conflictKind_1 (by decide) rfl,
  List.forall_mem_cons.mpr ⟨fun X => zs_aload_n X.1 dL_conflictKind_2 rfl rfl,
  List.forall_mem_cons.mpr ⟨fun X => zs_iload_n X.1 dL_conflictKind_3 rfl rfl,
  List.forall_mem_cons.mpr ⟨fun X => zs_callX (Cn := RX6) X.1 zNw_ok (fun _ h9 => Or.inr h9) X.2.2.2.2.2.1 X.2.2.2.2.2.2.1 zcal_91 rfl ⟨Nat.le_refl _, Nat.le_refl _⟩ ⟨rfl, rfl⟩ wm_562 rfl wm_563 wm_564 (List.forall_mem_cons.mpr ⟨⟨[], ⟨0, 9, 12, 21⟩, [], X.2.2.2.2.1, (fun _ h9 => nomatch h9), rfl, by decide, wm_526, by decide +kernel, by decide, Or.inl ⟨3, rfl, dL_conflictKind_12, rfl⟩⟩, (fun _ h9 => nomatch h9)⟩) dL_conflictKind_4 rfl,
  List.forall_mem_cons.mpr ⟨fun X => zs_i2l X.1 dL_conflictKind_7 rfl,
  List.forall_mem_cons.mpr ⟨fun X => zs_last X.1 X.2.2.2.2.2.1 dL_conflictKind_8 rfl,
  List.forall_mem_cons.mpr ⟨fun X => zs_goto X.1 dL_conflictKind_9 (by decide),
  List.forall_mem_cons.mpr ⟨fun X => zs_astore_n X.1 dL_conflictKind_12 rfl (Nat.le_of_ble_eq_true rfl) rfl,
  List.forall_mem_cons.mpr ⟨fun X => zs_iconst X.1 dL_conflictKind_13 (by decide) rfl,
  List.forall_mem_cons.mpr ⟨fun X => zs_iret X.1 X.2.1 X.2.2.1 dL_conflictKind_14,
  List.forall_mem_cons.mpr ⟨fun X => zs_iconst X.1 dL_conflictKind_15 (by decide) rfl,
  List.forall_mem_cons.mpr ⟨fun X => zs_iret X.1 X.2.1 X.2.2.1 dL_conflictKind_16,
  fun _ h9 => nomatch h9⟩⟩⟩⟩⟩⟩⟩⟩⟩⟩⟩⟩⟩
theorem zG_L_conflictKind_0 : ∀ q ∈ zT_L_conflictKind_0, zmono q.2 := List.forall_mem_cons.mpr ⟨zm_aload 2 1, List.forall_mem_cons.mpr ⟨zm_iconst 0 2, List.forall_mem_cons.mpr ⟨zm_aload 0 3, List.forall_mem_cons.mpr ⟨zm_iload 1 4, List.forall_mem_cons.mpr ⟨zm_callx 6 91 2 1 6 (1, 6) [(2, 3, 13)] 7, List.forall_mem_cons.mpr ⟨zm_i2l 8, List.forall_mem_cons.mpr ⟨zm_last 9, List.forall_mem_cons.mpr ⟨zm_goto 15 [], List.forall_mem_cons.mpr ⟨zm_astore 3 13, List.forall_mem_cons.mpr ⟨zm_iconst 1 14, List.forall_mem_cons.mpr ⟨zm_iret, List.forall_mem_cons.mpr ⟨zm_iconst 0 16, List.forall_mem_cons.mpr ⟨zm_iret, fun _ h9 => nomatch h9⟩⟩⟩⟩⟩⟩⟩⟩⟩⟩⟩⟩⟩
theorem zE_L_conflictKind : ∀ L ∈ zT_L_conflictKind, ∀ q ∈ L, zEnt yL_conflictKind cL_conflictKind 4 (some .int) [(0, 9, 12, 21)] { frames := 8, cells := 1, slots := 6, locals := 176 } q := List.forall_mem_cons.mpr ⟨zE_L_conflictKind_0, fun _ h9 => nomatch h9⟩
theorem zG_L_conflictKind : ∀ L ∈ zT_L_conflictKind, ∀ q ∈ L, zmono q.2 := List.forall_mem_cons.mpr ⟨zG_L_conflictKind_0, fun _ h9 => nomatch h9⟩
set_option maxRecDepth 100000 in
theorem zE_L_choose_0 : ∀ q ∈ zT_L_choose_0, zEnt yL_choose cL_choose 5 (some .int) [(0, 10, 13, 21), (0, 10, 17, 13)] { frames := 8, cells := 1, slots := 6, locals := 177 } q := List.forall_mem_cons.mpr ⟨fun X => zs_aload_n X.1 dL_choose_0 rfl rfl,
  List.forall_mem_cons.mpr ⟨fun X => zs_iconst X.1 dL_choose_1 (by decide) rfl,
  List.forall_mem_cons.mpr ⟨fun X => zs_aload_n X.1 dL_choose_2 rfl rfl,
  List.forall_mem_cons.mpr ⟨fun X => zs_iload_n X.1 dL_choose_3 rfl rfl,
  List.forall_mem_cons.mpr ⟨fun X => zs_iload_n X.1 dL_choose_4 rfl rfl,
  List.forall_mem_cons.mpr ⟨fun X => zs_callX (Cn := RX6) X.1 zNw_ok (fun _ h9 => Or.inr h9) X.2.2.2.2.2.1 X.2.2.2.2.2.2.1 zcal_92 rfl ⟨Nat.le_refl _, Nat.le_refl _⟩ ⟨rfl, rfl⟩ wm_565 rfl wm_566 wm_567 (List.forall_mem_cons.mpr ⟨⟨[], ⟨0, 10, 13, 21⟩, [⟨0, 10, 17, 13⟩], X.2.2.2.2.1, (fun _ h9 => nomatch h9), rfl, by decide, wm_526, by decide +kernel, by decide, Or.inr ⟨dL_choose_13, rfl⟩⟩, (List.forall_mem_cons.mpr ⟨⟨[⟨0, 10, 13, 21⟩], ⟨0, 10, 17, 13⟩, [], X.2.2.2.2.1, (List.forall_mem_cons.mpr ⟨(Or.inr ⟨by decide, _, wm_526, by decide +kernel⟩), (fun _ h9 => nomatch h9)⟩), rfl, by decide, wm_521, by decide +kernel, by decide, Or.inr ⟨dL_choose_17, rfl⟩⟩, (fun _ h9 => nomatch h9)⟩)⟩) dL_choose_5 rfl,
  List.forall_mem_cons.mpr ⟨fun X => zs_i2l X.1 dL_choose_8 rfl,
  List.forall_mem_cons.mpr ⟨fun X => zs_last X.1 X.2.2.2.2.2.1 dL_choose_9 rfl,
  List.forall_mem_cons.mpr ⟨fun X => zs_goto X.1 dL_choose_10 (by decide),
  List.forall_mem_cons.mpr ⟨fun X => zs_astore X.1 dL_choose_13 (Nat.le_of_ble_eq_true rfl) rfl,
  List.forall_mem_cons.mpr ⟨fun X => zs_iconst X.1 dL_choose_15 (by decide) rfl,
  List.forall_mem_cons.mpr ⟨fun X => zs_iret X.1 X.2.1 X.2.2.1 dL_choose_16,
  List.forall_mem_cons.mpr ⟨fun X => zs_astore X.1 dL_choose_17 (Nat.le_of_ble_eq_true rfl) rfl,
  List.forall_mem_cons.mpr ⟨fun X => zs_iconst X.1 dL_choose_19 (by decide) rfl,
  List.forall_mem_cons.mpr ⟨fun X => zs_iret X.1 X.2.1 X.2.2.1 dL_choose_20,
  List.forall_mem_cons.mpr ⟨fun X => zs_iconst X.1 dL_choose_21 (by decide) rfl,
  List.forall_mem_cons.mpr ⟨fun X => zs_iret X.1 X.2.1 X.2.2.1 dL_choose_22,
  fun _ h9 => nomatch h9⟩⟩⟩⟩⟩⟩⟩⟩⟩⟩⟩⟩⟩⟩⟩⟩⟩
theorem zG_L_choose_0 : ∀ q ∈ zT_L_choose_0, zmono q.2 := List.forall_mem_cons.mpr ⟨zm_aload 3 1, List.forall_mem_cons.mpr ⟨zm_iconst 0 2, List.forall_mem_cons.mpr ⟨zm_aload 0 3, List.forall_mem_cons.mpr ⟨zm_iload 1 4, List.forall_mem_cons.mpr ⟨zm_iload 2 5, List.forall_mem_cons.mpr ⟨zm_callx 6 92 3 1 6 (1, 6) [(2, 4, 15), (0, 4, 19)] 8, List.forall_mem_cons.mpr ⟨zm_i2l 9, List.forall_mem_cons.mpr ⟨zm_last 10, List.forall_mem_cons.mpr ⟨zm_goto 21 [], List.forall_mem_cons.mpr ⟨zm_astore 4 15, List.forall_mem_cons.mpr ⟨zm_iconst 1 16, List.forall_mem_cons.mpr ⟨zm_iret, List.forall_mem_cons.mpr ⟨zm_astore 4 19, List.forall_mem_cons.mpr ⟨zm_iconst 2 20, List.forall_mem_cons.mpr ⟨zm_iret, List.forall_mem_cons.mpr ⟨zm_iconst 0 22, List.forall_mem_cons.mpr ⟨zm_iret, fun _ h9 => nomatch h9⟩⟩⟩⟩⟩⟩⟩⟩⟩⟩⟩⟩⟩⟩⟩⟩⟩
theorem zE_L_choose : ∀ L ∈ zT_L_choose, ∀ q ∈ L, zEnt yL_choose cL_choose 5 (some .int) [(0, 10, 13, 21), (0, 10, 17, 13)] { frames := 8, cells := 1, slots := 6, locals := 177 } q := List.forall_mem_cons.mpr ⟨zE_L_choose_0, fun _ h9 => nomatch h9⟩
theorem zG_L_choose : ∀ L ∈ zT_L_choose, ∀ q ∈ L, zmono q.2 := List.forall_mem_cons.mpr ⟨zG_L_choose_0, fun _ h9 => nomatch h9⟩
set_option maxRecDepth 100000 in
theorem zE_L_prefer_0 : ∀ q ∈ zT_L_prefer_0, zEnt yL_prefer cL_prefer 4 (some .int) [(0, 9, 12, 21)] { frames := 7, cells := 1, slots := 6, locals := 150 } q := List.forall_mem_cons.mpr ⟨fun X => zs_aload_n X.1 dL_prefer_0 rfl rfl,
  List.forall_mem_cons.mpr ⟨fun X => zs_iconst X.1 dL_prefer_1 (by decide) rfl,
  List.forall_mem_cons.mpr ⟨fun X => zs_aload_n X.1 dL_prefer_2 rfl rfl,
  List.forall_mem_cons.mpr ⟨fun X => zs_iload_n X.1 dL_prefer_3 rfl rfl,
  List.forall_mem_cons.mpr ⟨fun X => zs_callX (Cn := RX6) X.1 zNw_ok (fun _ h9 => Or.inr h9) X.2.2.2.2.2.1 X.2.2.2.2.2.2.1 zcal_93 rfl ⟨Nat.le_refl _, Nat.le_refl _⟩ ⟨rfl, rfl⟩ wm_568 rfl wm_569 wm_570 (List.forall_mem_cons.mpr ⟨⟨[], ⟨0, 9, 12, 21⟩, [], X.2.2.2.2.1, (fun _ h9 => nomatch h9), rfl, by decide, wm_526, by decide +kernel, by decide, Or.inl ⟨3, rfl, dL_prefer_12, rfl⟩⟩, (fun _ h9 => nomatch h9)⟩) dL_prefer_4 rfl,
  List.forall_mem_cons.mpr ⟨fun X => zs_i2l X.1 dL_prefer_7 rfl,
  List.forall_mem_cons.mpr ⟨fun X => zs_last X.1 X.2.2.2.2.2.1 dL_prefer_8 rfl,
  List.forall_mem_cons.mpr ⟨fun X => zs_goto X.1 dL_prefer_9 (by decide),
  List.forall_mem_cons.mpr ⟨fun X => zs_astore_n X.1 dL_prefer_12 rfl (Nat.le_of_ble_eq_true rfl) rfl,
  List.forall_mem_cons.mpr ⟨fun X => zs_iconst X.1 dL_prefer_13 (by decide) rfl,
  List.forall_mem_cons.mpr ⟨fun X => zs_iret X.1 X.2.1 X.2.2.1 dL_prefer_14,
  List.forall_mem_cons.mpr ⟨fun X => zs_iconst X.1 dL_prefer_15 (by decide) rfl,
  List.forall_mem_cons.mpr ⟨fun X => zs_iret X.1 X.2.1 X.2.2.1 dL_prefer_16,
  fun _ h9 => nomatch h9⟩⟩⟩⟩⟩⟩⟩⟩⟩⟩⟩⟩⟩
theorem zG_L_prefer_0 : ∀ q ∈ zT_L_prefer_0, zmono q.2 := List.forall_mem_cons.mpr ⟨zm_aload 2 1, List.forall_mem_cons.mpr ⟨zm_iconst 0 2, List.forall_mem_cons.mpr ⟨zm_aload 0 3, List.forall_mem_cons.mpr ⟨zm_iload 1 4, List.forall_mem_cons.mpr ⟨zm_callx 6 93 2 1 6 (1, 6) [(2, 3, 13)] 7, List.forall_mem_cons.mpr ⟨zm_i2l 8, List.forall_mem_cons.mpr ⟨zm_last 9, List.forall_mem_cons.mpr ⟨zm_goto 15 [], List.forall_mem_cons.mpr ⟨zm_astore 3 13, List.forall_mem_cons.mpr ⟨zm_iconst 1 14, List.forall_mem_cons.mpr ⟨zm_iret, List.forall_mem_cons.mpr ⟨zm_iconst 0 16, List.forall_mem_cons.mpr ⟨zm_iret, fun _ h9 => nomatch h9⟩⟩⟩⟩⟩⟩⟩⟩⟩⟩⟩⟩⟩
theorem zE_L_prefer : ∀ L ∈ zT_L_prefer, ∀ q ∈ L, zEnt yL_prefer cL_prefer 4 (some .int) [(0, 9, 12, 21)] { frames := 7, cells := 1, slots := 6, locals := 150 } q := List.forall_mem_cons.mpr ⟨zE_L_prefer_0, fun _ h9 => nomatch h9⟩
theorem zG_L_prefer : ∀ L ∈ zT_L_prefer, ∀ q ∈ L, zmono q.2 := List.forall_mem_cons.mpr ⟨zG_L_prefer_0, fun _ h9 => nomatch h9⟩
set_option maxRecDepth 100000 in
theorem zE_L_accept_0 : ∀ q ∈ zT_L_accept_0, zEnt yL_accept cL_accept 3 (some .int) [(0, 8, 11, 15)] { frames := 8, cells := 1, slots := 6, locals := 175 } q := List.forall_mem_cons.mpr ⟨fun X => zs_aload_n X.1 dL_accept_0 rfl rfl,
  List.forall_mem_cons.mpr ⟨fun X => zs_iconst X.1 dL_accept_1 (by decide) rfl,
  List.forall_mem_cons.mpr ⟨fun X => zs_aload_n X.1 dL_accept_2 rfl rfl,
  List.forall_mem_cons.mpr ⟨fun X => zs_callX (Cn := RX6) X.1 zNw_ok (fun _ h9 => Or.inr h9) X.2.2.2.2.2.1 X.2.2.2.2.2.2.1 zcal_95 rfl ⟨Nat.le_refl _, Nat.le_refl _⟩ ⟨rfl, rfl⟩ wm_571 rfl wm_572 wm_573 (List.forall_mem_cons.mpr ⟨⟨[], ⟨0, 8, 11, 15⟩, [], X.2.2.2.2.1, (fun _ h9 => nomatch h9), rfl, by decide, wm_522, by decide +kernel, by decide, Or.inl ⟨2, rfl, dL_accept_11, rfl⟩⟩, (fun _ h9 => nomatch h9)⟩) dL_accept_3 rfl,
  List.forall_mem_cons.mpr ⟨fun X => zs_i2l X.1 dL_accept_6 rfl,
  List.forall_mem_cons.mpr ⟨fun X => zs_last X.1 X.2.2.2.2.2.1 dL_accept_7 rfl,
  List.forall_mem_cons.mpr ⟨fun X => zs_goto X.1 dL_accept_8 (by decide),
  List.forall_mem_cons.mpr ⟨fun X => zs_astore_n X.1 dL_accept_11 rfl (Nat.le_of_ble_eq_true rfl) rfl,
  List.forall_mem_cons.mpr ⟨fun X => zs_iconst X.1 dL_accept_12 (by decide) rfl,
  List.forall_mem_cons.mpr ⟨fun X => zs_iret X.1 X.2.1 X.2.2.1 dL_accept_13,
  List.forall_mem_cons.mpr ⟨fun X => zs_iconst X.1 dL_accept_14 (by decide) rfl,
  List.forall_mem_cons.mpr ⟨fun X => zs_iret X.1 X.2.1 X.2.2.1 dL_accept_15,
  fun _ h9 => nomatch h9⟩⟩⟩⟩⟩⟩⟩⟩⟩⟩⟩⟩
theorem zG_L_accept_0 : ∀ q ∈ zT_L_accept_0, zmono q.2 := List.forall_mem_cons.mpr ⟨zm_aload 1 1, List.forall_mem_cons.mpr ⟨zm_iconst 0 2, List.forall_mem_cons.mpr ⟨zm_aload 0 3, List.forall_mem_cons.mpr ⟨zm_callx 6 95 1 1 6 (1, 6) [(1, 2, 12)] 6, List.forall_mem_cons.mpr ⟨zm_i2l 7, List.forall_mem_cons.mpr ⟨zm_last 8, List.forall_mem_cons.mpr ⟨zm_goto 14 [], List.forall_mem_cons.mpr ⟨zm_astore 2 12, List.forall_mem_cons.mpr ⟨zm_iconst 1 13, List.forall_mem_cons.mpr ⟨zm_iret, List.forall_mem_cons.mpr ⟨zm_iconst 0 15, List.forall_mem_cons.mpr ⟨zm_iret, fun _ h9 => nomatch h9⟩⟩⟩⟩⟩⟩⟩⟩⟩⟩⟩⟩
theorem zE_L_accept : ∀ L ∈ zT_L_accept, ∀ q ∈ L, zEnt yL_accept cL_accept 3 (some .int) [(0, 8, 11, 15)] { frames := 8, cells := 1, slots := 6, locals := 175 } q := List.forall_mem_cons.mpr ⟨zE_L_accept_0, fun _ h9 => nomatch h9⟩
theorem zG_L_accept : ∀ L ∈ zT_L_accept, ∀ q ∈ L, zmono q.2 := List.forall_mem_cons.mpr ⟨zG_L_accept_0, fun _ h9 => nomatch h9⟩
set_option maxRecDepth 100000 in
theorem zE_L_similarity_0 : ∀ q ∈ zT_L_similarity_0, zEnt yL_similarity cL_similarity 4 (some .int) [(0, 8, 11, 21)] { frames := 8, cells := 1, slots := 6, locals := 178 } q := List.forall_mem_cons.mpr ⟨fun X => zs_aload_n X.1 dL_similarity_0 rfl rfl,
  List.forall_mem_cons.mpr ⟨fun X => zs_iconst X.1 dL_similarity_1 (by decide) rfl,
  List.forall_mem_cons.mpr ⟨fun X => zs_aload_n X.1 dL_similarity_2 rfl rfl,
  List.forall_mem_cons.mpr ⟨fun X => zs_iload_n X.1 dL_similarity_3 rfl rfl,
  List.forall_mem_cons.mpr ⟨fun X => zs_callX (Cn := RX6) X.1 zNw_ok (fun _ h9 => Or.inr h9) X.2.2.2.2.2.1 X.2.2.2.2.2.2.1 zcal_97 rfl ⟨Nat.le_refl _, Nat.le_refl _⟩ ⟨rfl, rfl⟩ wm_574 rfl wm_575 wm_576 (List.forall_mem_cons.mpr ⟨⟨[], ⟨0, 8, 11, 21⟩, [], X.2.2.2.2.1, (fun _ h9 => nomatch h9), rfl, by decide, wm_526, by decide +kernel, by decide, Or.inl ⟨3, rfl, dL_similarity_11, rfl⟩⟩, (fun _ h9 => nomatch h9)⟩) dL_similarity_4 rfl,
  List.forall_mem_cons.mpr ⟨fun X => zs_dast X.1 X.2.2.2.2.2.1 dL_similarity_7 rfl,
  List.forall_mem_cons.mpr ⟨fun X => zs_goto X.1 dL_similarity_8 (by decide),
  List.forall_mem_cons.mpr ⟨fun X => zs_astore_n X.1 dL_similarity_11 rfl (Nat.le_of_ble_eq_true rfl) rfl,
  List.forall_mem_cons.mpr ⟨fun X => zs_iconst X.1 dL_similarity_12 (by decide) rfl,
  List.forall_mem_cons.mpr ⟨fun X => zs_iret X.1 X.2.1 X.2.2.1 dL_similarity_13,
  List.forall_mem_cons.mpr ⟨fun X => zs_iconst X.1 dL_similarity_14 (by decide) rfl,
  List.forall_mem_cons.mpr ⟨fun X => zs_iret X.1 X.2.1 X.2.2.1 dL_similarity_15,
  fun _ h9 => nomatch h9⟩⟩⟩⟩⟩⟩⟩⟩⟩⟩⟩⟩
theorem zG_L_similarity_0 : ∀ q ∈ zT_L_similarity_0, zmono q.2 := List.forall_mem_cons.mpr ⟨zm_aload 2 1, List.forall_mem_cons.mpr ⟨zm_iconst 0 2, List.forall_mem_cons.mpr ⟨zm_aload 0 3, List.forall_mem_cons.mpr ⟨zm_iload 1 4, List.forall_mem_cons.mpr ⟨zm_callx 6 97 2 1 6 (1, 6) [(2, 3, 12)] 7, List.forall_mem_cons.mpr ⟨zm_dast 8, List.forall_mem_cons.mpr ⟨zm_goto 14 [], List.forall_mem_cons.mpr ⟨zm_astore 3 12, List.forall_mem_cons.mpr ⟨zm_iconst 1 13, List.forall_mem_cons.mpr ⟨zm_iret, List.forall_mem_cons.mpr ⟨zm_iconst 0 15, List.forall_mem_cons.mpr ⟨zm_iret, fun _ h9 => nomatch h9⟩⟩⟩⟩⟩⟩⟩⟩⟩⟩⟩⟩
theorem zE_L_similarity : ∀ L ∈ zT_L_similarity, ∀ q ∈ L, zEnt yL_similarity cL_similarity 4 (some .int) [(0, 8, 11, 21)] { frames := 8, cells := 1, slots := 6, locals := 178 } q := List.forall_mem_cons.mpr ⟨zE_L_similarity_0, fun _ h9 => nomatch h9⟩
theorem zG_L_similarity : ∀ L ∈ zT_L_similarity, ∀ q ∈ L, zmono q.2 := List.forall_mem_cons.mpr ⟨zG_L_similarity_0, fun _ h9 => nomatch h9⟩
set_option maxRecDepth 100000 in
theorem zE_L_append_0 : ∀ q ∈ zT_L_append_0, zEnt yL_append cL_append 4 (some .int) [(0, 9, 12, 13), (0, 9, 15, 15)] { frames := 7, cells := 1, slots := 6, locals := 103 } q := List.forall_mem_cons.mpr ⟨fun X => zs_aload_n X.1 dL_append_0 rfl rfl,
  List.forall_mem_cons.mpr ⟨fun X => zs_iconst X.1 dL_append_1 (by decide) rfl,
  List.forall_mem_cons.mpr ⟨fun X => zs_aload_n X.1 dL_append_2 rfl rfl,
  List.forall_mem_cons.mpr ⟨fun X => zs_iload_n X.1 dL_append_3 rfl rfl,
  List.forall_mem_cons.mpr ⟨fun X => zs_callX (Cn := RX6) X.1 zNw_ok (fun _ h9 => Or.inr h9) X.2.2.2.2.2.1 X.2.2.2.2.2.2.1 zcal_98 rfl ⟨Nat.le_refl _, Nat.le_refl _⟩ ⟨rfl, rfl⟩ wm_577 rfl wm_578 wm_579 (List.forall_mem_cons.mpr ⟨⟨[], ⟨0, 9, 12, 13⟩, [⟨0, 9, 15, 15⟩], X.2.2.2.2.1, (fun _ h9 => nomatch h9), rfl, by decide, wm_521, by decide +kernel, by decide, Or.inl ⟨3, rfl, dL_append_12, rfl⟩⟩, (List.forall_mem_cons.mpr ⟨⟨[⟨0, 9, 12, 13⟩], ⟨0, 9, 15, 15⟩, [], X.2.2.2.2.1, (List.forall_mem_cons.mpr ⟨(Or.inr ⟨by decide, _, wm_521, by decide +kernel⟩), (fun _ h9 => nomatch h9)⟩), rfl, by decide, wm_522, by decide +kernel, by decide, Or.inl ⟨3, rfl, dL_append_15, rfl⟩⟩, (fun _ h9 => nomatch h9)⟩)⟩) dL_append_4 rfl,
  List.forall_mem_cons.mpr ⟨fun X => zs_i2l X.1 dL_append_7 rfl,
  List.forall_mem_cons.mpr ⟨fun X => zs_last X.1 X.2.2.2.2.2.1 dL_append_8 rfl,
  List.forall_mem_cons.mpr ⟨fun X => zs_goto X.1 dL_append_9 (by decide),
  List.forall_mem_cons.mpr ⟨fun X => zs_astore_n X.1 dL_append_12 rfl (Nat.le_of_ble_eq_true rfl) rfl,
  List.forall_mem_cons.mpr ⟨fun X => zs_iconst X.1 dL_append_13 (by decide) rfl,
  List.forall_mem_cons.mpr ⟨fun X => zs_iret X.1 X.2.1 X.2.2.1 dL_append_14,
  List.forall_mem_cons.mpr ⟨fun X => zs_astore_n X.1 dL_append_15 rfl (Nat.le_of_ble_eq_true rfl) rfl,
  List.forall_mem_cons.mpr ⟨fun X => zs_iconst X.1 dL_append_16 (by decide) rfl,
  List.forall_mem_cons.mpr ⟨fun X => zs_iret X.1 X.2.1 X.2.2.1 dL_append_17,
  List.forall_mem_cons.mpr ⟨fun X => zs_iconst X.1 dL_append_18 (by decide) rfl,
  List.forall_mem_cons.mpr ⟨fun X => zs_iret X.1 X.2.1 X.2.2.1 dL_append_19,
  fun _ h9 => nomatch h9⟩⟩⟩⟩⟩⟩⟩⟩⟩⟩⟩⟩⟩⟩⟩⟩
theorem zG_L_append_0 : ∀ q ∈ zT_L_append_0, zmono q.2 := List.forall_mem_cons.mpr ⟨zm_aload 2 1, List.forall_mem_cons.mpr ⟨zm_iconst 0 2, List.forall_mem_cons.mpr ⟨zm_aload 0 3, List.forall_mem_cons.mpr ⟨zm_iload 1 4, List.forall_mem_cons.mpr ⟨zm_callx 6 98 2 1 6 (1, 6) [(0, 3, 13), (1, 3, 16)] 7, List.forall_mem_cons.mpr ⟨zm_i2l 8, List.forall_mem_cons.mpr ⟨zm_last 9, List.forall_mem_cons.mpr ⟨zm_goto 18 [], List.forall_mem_cons.mpr ⟨zm_astore 3 13, List.forall_mem_cons.mpr ⟨zm_iconst 1 14, List.forall_mem_cons.mpr ⟨zm_iret, List.forall_mem_cons.mpr ⟨zm_astore 3 16, List.forall_mem_cons.mpr ⟨zm_iconst 2 17, List.forall_mem_cons.mpr ⟨zm_iret, List.forall_mem_cons.mpr ⟨zm_iconst 0 19, List.forall_mem_cons.mpr ⟨zm_iret, fun _ h9 => nomatch h9⟩⟩⟩⟩⟩⟩⟩⟩⟩⟩⟩⟩⟩⟩⟩⟩
theorem zE_L_append : ∀ L ∈ zT_L_append, ∀ q ∈ L, zEnt yL_append cL_append 4 (some .int) [(0, 9, 12, 13), (0, 9, 15, 15)] { frames := 7, cells := 1, slots := 6, locals := 103 } q := List.forall_mem_cons.mpr ⟨zE_L_append_0, fun _ h9 => nomatch h9⟩
theorem zG_L_append : ∀ L ∈ zT_L_append, ∀ q ∈ L, zmono q.2 := List.forall_mem_cons.mpr ⟨zG_L_append_0, fun _ h9 => nomatch h9⟩
set_option maxRecDepth 100000 in
theorem zE_L_run_0 : ∀ q ∈ zT_L_run_0, zEnt yL_run cL_run 3 (some .int) [(0, 8, 11, 13)] { frames := 7, cells := 1, slots := 6, locals := 156 } q := List.forall_mem_cons.mpr ⟨fun X => zs_aload_n X.1 dL_run_0 rfl rfl,
  List.forall_mem_cons.mpr ⟨fun X => zs_iconst X.1 dL_run_1 (by decide) rfl,
  List.forall_mem_cons.mpr ⟨fun X => zs_aload_n X.1 dL_run_2 rfl rfl,
  List.forall_mem_cons.mpr ⟨fun X => zs_callX (Cn := RX6) X.1 zNw_ok (fun _ h9 => Or.inr h9) X.2.2.2.2.2.1 X.2.2.2.2.2.2.1 zcal_101 rfl ⟨Nat.le_refl _, Nat.le_refl _⟩ ⟨rfl, rfl⟩ wm_580 rfl wm_581 wm_582 (List.forall_mem_cons.mpr ⟨⟨[], ⟨0, 8, 11, 13⟩, [], X.2.2.2.2.1, (fun _ h9 => nomatch h9), rfl, by decide, wm_521, by decide +kernel, by decide, Or.inl ⟨2, rfl, dL_run_11, rfl⟩⟩, (fun _ h9 => nomatch h9)⟩) dL_run_3 rfl,
  List.forall_mem_cons.mpr ⟨fun X => zs_i2l X.1 dL_run_6 rfl,
  List.forall_mem_cons.mpr ⟨fun X => zs_last X.1 X.2.2.2.2.2.1 dL_run_7 rfl,
  List.forall_mem_cons.mpr ⟨fun X => zs_goto X.1 dL_run_8 (by decide),
  List.forall_mem_cons.mpr ⟨fun X => zs_astore_n X.1 dL_run_11 rfl (Nat.le_of_ble_eq_true rfl) rfl,
  List.forall_mem_cons.mpr ⟨fun X => zs_iconst X.1 dL_run_12 (by decide) rfl,
  List.forall_mem_cons.mpr ⟨fun X => zs_iret X.1 X.2.1 X.2.2.1 dL_run_13,
  List.forall_mem_cons.mpr ⟨fun X => zs_iconst X.1 dL_run_14 (by decide) rfl,
  List.forall_mem_cons.mpr ⟨fun X => zs_iret X.1 X.2.1 X.2.2.1 dL_run_15,
  fun _ h9 => nomatch h9⟩⟩⟩⟩⟩⟩⟩⟩⟩⟩⟩⟩
theorem zG_L_run_0 : ∀ q ∈ zT_L_run_0, zmono q.2 := List.forall_mem_cons.mpr ⟨zm_aload 1 1, List.forall_mem_cons.mpr ⟨zm_iconst 0 2, List.forall_mem_cons.mpr ⟨zm_aload 0 3, List.forall_mem_cons.mpr ⟨zm_callx 6 101 1 1 6 (1, 6) [(0, 2, 12)] 6, List.forall_mem_cons.mpr ⟨zm_i2l 7, List.forall_mem_cons.mpr ⟨zm_last 8, List.forall_mem_cons.mpr ⟨zm_goto 14 [], List.forall_mem_cons.mpr ⟨zm_astore 2 12, List.forall_mem_cons.mpr ⟨zm_iconst 1 13, List.forall_mem_cons.mpr ⟨zm_iret, List.forall_mem_cons.mpr ⟨zm_iconst 0 15, List.forall_mem_cons.mpr ⟨zm_iret, fun _ h9 => nomatch h9⟩⟩⟩⟩⟩⟩⟩⟩⟩⟩⟩⟩
theorem zE_L_run : ∀ L ∈ zT_L_run, ∀ q ∈ L, zEnt yL_run cL_run 3 (some .int) [(0, 8, 11, 13)] { frames := 7, cells := 1, slots := 6, locals := 156 } q := List.forall_mem_cons.mpr ⟨zE_L_run_0, fun _ h9 => nomatch h9⟩
theorem zG_L_run : ∀ L ∈ zT_L_run, ∀ q ∈ L, zmono q.2 := List.forall_mem_cons.mpr ⟨zG_L_run_0, fun _ h9 => nomatch h9⟩
set_option maxRecDepth 100000 in
theorem zE_L_undo_0 : ∀ q ∈ zT_L_undo_0, zEnt yL_undo cL_undo 3 (some .int) [(0, 8, 11, 15)] { frames := 7, cells := 1, slots := 6, locals := 148 } q := List.forall_mem_cons.mpr ⟨fun X => zs_aload_n X.1 dL_undo_0 rfl rfl,
  List.forall_mem_cons.mpr ⟨fun X => zs_iconst X.1 dL_undo_1 (by decide) rfl,
  List.forall_mem_cons.mpr ⟨fun X => zs_aload_n X.1 dL_undo_2 rfl rfl,
  List.forall_mem_cons.mpr ⟨fun X => zs_callX (Cn := RX6) X.1 zNw_ok (fun _ h9 => Or.inr h9) X.2.2.2.2.2.1 X.2.2.2.2.2.2.1 zcal_102 rfl ⟨Nat.le_refl _, Nat.le_refl _⟩ ⟨rfl, rfl⟩ wm_583 rfl wm_584 wm_585 (List.forall_mem_cons.mpr ⟨⟨[], ⟨0, 8, 11, 15⟩, [], X.2.2.2.2.1, (fun _ h9 => nomatch h9), rfl, by decide, wm_522, by decide +kernel, by decide, Or.inl ⟨2, rfl, dL_undo_11, rfl⟩⟩, (fun _ h9 => nomatch h9)⟩) dL_undo_3 rfl,
  List.forall_mem_cons.mpr ⟨fun X => zs_i2l X.1 dL_undo_6 rfl,
  List.forall_mem_cons.mpr ⟨fun X => zs_last X.1 X.2.2.2.2.2.1 dL_undo_7 rfl,
  List.forall_mem_cons.mpr ⟨fun X => zs_goto X.1 dL_undo_8 (by decide),
  List.forall_mem_cons.mpr ⟨fun X => zs_astore_n X.1 dL_undo_11 rfl (Nat.le_of_ble_eq_true rfl) rfl,
  List.forall_mem_cons.mpr ⟨fun X => zs_iconst X.1 dL_undo_12 (by decide) rfl,
  List.forall_mem_cons.mpr ⟨fun X => zs_iret X.1 X.2.1 X.2.2.1 dL_undo_13,
  List.forall_mem_cons.mpr ⟨fun X => zs_iconst X.1 dL_undo_14 (by decide) rfl,
  List.forall_mem_cons.mpr ⟨fun X => zs_iret X.1 X.2.1 X.2.2.1 dL_undo_15,
  fun _ h9 => nomatch h9⟩⟩⟩⟩⟩⟩⟩⟩⟩⟩⟩⟩
theorem zG_L_undo_0 : ∀ q ∈ zT_L_undo_0, zmono q.2 := List.forall_mem_cons.mpr ⟨zm_aload 1 1, List.forall_mem_cons.mpr ⟨zm_iconst 0 2, List.forall_mem_cons.mpr ⟨zm_aload 0 3, List.forall_mem_cons.mpr ⟨zm_callx 6 102 1 1 6 (1, 6) [(1, 2, 12)] 6, List.forall_mem_cons.mpr ⟨zm_i2l 7, List.forall_mem_cons.mpr ⟨zm_last 8, List.forall_mem_cons.mpr ⟨zm_goto 14 [], List.forall_mem_cons.mpr ⟨zm_astore 2 12, List.forall_mem_cons.mpr ⟨zm_iconst 1 13, List.forall_mem_cons.mpr ⟨zm_iret, List.forall_mem_cons.mpr ⟨zm_iconst 0 15, List.forall_mem_cons.mpr ⟨zm_iret, fun _ h9 => nomatch h9⟩⟩⟩⟩⟩⟩⟩⟩⟩⟩⟩⟩
theorem zE_L_undo : ∀ L ∈ zT_L_undo, ∀ q ∈ L, zEnt yL_undo cL_undo 3 (some .int) [(0, 8, 11, 15)] { frames := 7, cells := 1, slots := 6, locals := 148 } q := List.forall_mem_cons.mpr ⟨zE_L_undo_0, fun _ h9 => nomatch h9⟩
theorem zG_L_undo : ∀ L ∈ zT_L_undo, ∀ q ∈ L, zmono q.2 := List.forall_mem_cons.mpr ⟨zG_L_undo_0, fun _ h9 => nomatch h9⟩
