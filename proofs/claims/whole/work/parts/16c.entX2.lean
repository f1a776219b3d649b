/-! every entry of the tables of X2 is sound, and grows -/
set_option maxRecDepth 100000 in
theorem zE_X2_init_0 : ∀ q ∈ zT_X2_init_0, zEnt yX2_init cX2_init 1 none [] { frames := 1, cells := 2, slots := 25, locals := 20 } q := List.forall_mem_cons.mpr ⟨fun X => zs_aload_n X.1 dX2_init_0 rfl rfl,
  List.forall_mem_cons.mpr ⟨fun X => zs_objinit X.1 wm_71 wm_1 wm_2 ⟨Nat.le_of_ble_eq_true rfl, Nat.le_of_ble_eq_true rfl⟩ dX2_init_1 rfl,
  List.forall_mem_cons.mpr ⟨fun X => zs_aload_n X.1 dX2_init_4 rfl rfl,
  List.forall_mem_cons.mpr ⟨fun X => zs_bipush X.1 dX2_init_5 (by decide) rfl,
  List.forall_mem_cons.mpr ⟨fun X => zs_newi X.1 X.2.2.2.2.2.1 (fun _ h9 => Or.inr h9) ⟨Nat.le_refl _, Nat.le_refl _⟩ wm_34 dX2_init_7 rfl,
  List.forall_mem_cons.mpr ⟨fun X => zs_putfF (T := TX2) (N := 2) (k := 0) X.1 X.2.2.2.2.2.1 uX2_in tyX2 tyX2_ok nmX2 rfl (by decide) wm_72 rfl rfl X.2.2.2.1 rfl (tyX2_ok 0 (by decide)) dX2_init_9 rfl,
  List.forall_mem_cons.mpr ⟨fun X => zs_aload_n X.1 dX2_init_12 rfl rfl,
  List.forall_mem_cons.mpr ⟨fun X => zs_bipush X.1 dX2_init_13 (by decide) rfl,
  List.forall_mem_cons.mpr ⟨fun X => zs_newi X.1 X.2.2.2.2.2.1 (fun _ h9 => Or.inr h9) ⟨Nat.le_refl _, Nat.le_refl _⟩ wm_34 dX2_init_15 rfl,
  List.forall_mem_cons.mpr ⟨fun X => zs_putfF (T := TX2) (N := 2) (k := 1) X.1 X.2.2.2.2.2.1 uX2_in tyX2 tyX2_ok nmX2 rfl (by decide) wm_73 rfl rfl X.2.2.2.1 rfl (tyX2_ok 1 (by decide)) dX2_init_17 rfl,
  List.forall_mem_cons.mpr ⟨fun X => zs_vret X.1 X.2.1 X.2.2.1 dX2_init_20,
  fun _ h9 => nomatch h9⟩⟩⟩⟩⟩⟩⟩⟩⟩⟩⟩
theorem zG_X2_init_0 : ∀ q ∈ zT_X2_init_0, zmono q.2 := List.forall_mem_cons.mpr ⟨zm_aload 0 1, List.forall_mem_cons.mpr ⟨zm_objinit 4, List.forall_mem_cons.mpr ⟨zm_aload 0 5, List.forall_mem_cons.mpr ⟨zm_iconst 10 7, List.forall_mem_cons.mpr ⟨zm_newi (2, 25) 9, List.forall_mem_cons.mpr ⟨zm_putf 2 0 (.array .int) 12, List.forall_mem_cons.mpr ⟨zm_aload 0 13, List.forall_mem_cons.mpr ⟨zm_iconst 15 15, List.forall_mem_cons.mpr ⟨zm_newi (2, 25) 17, List.forall_mem_cons.mpr ⟨zm_putf 2 1 (.array .int) 20, List.forall_mem_cons.mpr ⟨zm_vret, fun _ h9 => nomatch h9⟩⟩⟩⟩⟩⟩⟩⟩⟩⟩⟩
theorem zE_X2_init : ∀ L ∈ zT_X2_init, ∀ q ∈ L, zEnt yX2_init cX2_init 1 none [] { frames := 1, cells := 2, slots := 25, locals := 20 } q := List.forall_mem_cons.mpr ⟨zE_X2_init_0, fun _ h9 => nomatch h9⟩
theorem zG_X2_init : ∀ L ∈ zT_X2_init, ∀ q ∈ L, zmono q.2 := List.forall_mem_cons.mpr ⟨zG_X2_init_0, fun _ h9 => nomatch h9⟩
set_option maxRecDepth 100000 in
theorem zE_X2_of_0 : ∀ q ∈ zT_X2_of_0, zEnt yX2_of cX2_of 2 (some .int) [] { frames := 1, cells := 0, slots := 0, locals := 21 } q := List.forall_mem_cons.mpr ⟨fun X => zs_aload_n X.1 dX2_of_0 rfl rfl,
  List.forall_mem_cons.mpr ⟨fun X => zs_getf (T := TX2) (N := 2) (k := 0) X.1 X.2.2.2.2.2.1 uX2_in rfl (by decide) wm_72 rfl dX2_of_1 rfl,
  List.forall_mem_cons.mpr ⟨fun X => zs_iload_n X.1 dX2_of_4 rfl rfl,
  List.forall_mem_cons.mpr ⟨fun X => zs_callSN (host := "DraftMerge") X.1 zNw_ok (fun _ h9 => Or.inr h9) X.2.2.2.2.2.1 X.2.2.2.2.2.2.1 zcal_116 rfl ⟨rfl, rfl⟩ (by decide +kernel) wm_9 dX2_of_5 rfl,
  List.forall_mem_cons.mpr ⟨fun X => zs_iret X.1 X.2.1 X.2.2.1 dX2_of_8,
  fun _ h9 => nomatch h9⟩⟩⟩⟩⟩
theorem zG_X2_of_0 : ∀ q ∈ zT_X2_of_0, zmono q.2 := List.forall_mem_cons.mpr ⟨zm_aload 0 1, List.forall_mem_cons.mpr ⟨zm_getf 2 0 4, List.forall_mem_cons.mpr ⟨zm_iload 1 5, List.forall_mem_cons.mpr ⟨zm_call 116 2 8, List.forall_mem_cons.mpr ⟨zm_iret, fun _ h9 => nomatch h9⟩⟩⟩⟩⟩
theorem zE_X2_of : ∀ L ∈ zT_X2_of, ∀ q ∈ L, zEnt yX2_of cX2_of 2 (some .int) [] { frames := 1, cells := 0, slots := 0, locals := 21 } q := List.forall_mem_cons.mpr ⟨zE_X2_of_0, fun _ h9 => nomatch h9⟩
theorem zG_X2_of : ∀ L ∈ zT_X2_of, ∀ q ∈ L, zmono q.2 := List.forall_mem_cons.mpr ⟨zG_X2_of_0, fun _ h9 => nomatch h9⟩
set_option maxRecDepth 100000 in
theorem zE_X2_edits_0 : ∀ q ∈ zT_X2_edits_0, zEnt yX2_edits cX2_edits 2 (some .boolean) [] { frames := 2, cells := 0, slots := 0, locals := 42 } q := List.forall_mem_cons.mpr ⟨fun X => zs_aload_n X.1 dX2_edits_0 rfl rfl,
  List.forall_mem_cons.mpr ⟨fun X => zs_iload_n X.1 dX2_edits_1 rfl rfl,
  List.forall_mem_cons.mpr ⟨fun X => zs_callV (Cn := RX2) X.1 zNw_ok (fun _ h9 => Or.inr h9) X.2.2.2.2.2.1 X.2.2.2.2.2.2.1 zcal_31 rfl ⟨rfl, rfl⟩ wm_74 rfl wm_75 wm_76 dX2_edits_2 rfl,
  List.forall_mem_cons.mpr ⟨fun X => zs_iconst X.1 dX2_edits_5 (by decide) rfl,
  List.forall_mem_cons.mpr ⟨fun X => zs_iand X.1 dX2_edits_6 rfl,
  List.forall_mem_cons.mpr ⟨fun X => zs_ifeq X.1 dX2_edits_7 (by decide) rfl,
  List.forall_mem_cons.mpr ⟨fun X => zs_iconst X.1 dX2_edits_10 (by decide) rfl,
  List.forall_mem_cons.mpr ⟨fun X => zs_goto X.1 dX2_edits_11 (by decide),
  List.forall_mem_cons.mpr ⟨fun X => zs_iconst X.1 dX2_edits_14 (by decide) rfl,
  List.forall_mem_cons.mpr ⟨fun X => zs_zret X.1 X.2.1 X.2.2.1 dX2_edits_15,
  fun _ h9 => nomatch h9⟩⟩⟩⟩⟩⟩⟩⟩⟩⟩
theorem zG_X2_edits_0 : ∀ q ∈ zT_X2_edits_0, zmono q.2 := List.forall_mem_cons.mpr ⟨zm_aload 0 1, List.forall_mem_cons.mpr ⟨zm_iload 1 2, List.forall_mem_cons.mpr ⟨zm_callv 2 31 2 5, List.forall_mem_cons.mpr ⟨zm_iconst 1 6, List.forall_mem_cons.mpr ⟨zm_iand 7, List.forall_mem_cons.mpr ⟨zm_ifeq 14 10, List.forall_mem_cons.mpr ⟨zm_iconst 1 11, List.forall_mem_cons.mpr ⟨zm_goto 15 [], List.forall_mem_cons.mpr ⟨zm_iconst 0 15, List.forall_mem_cons.mpr ⟨zm_zret, fun _ h9 => nomatch h9⟩⟩⟩⟩⟩⟩⟩⟩⟩⟩
theorem zE_X2_edits : ∀ L ∈ zT_X2_edits, ∀ q ∈ L, zEnt yX2_edits cX2_edits 2 (some .boolean) [] { frames := 2, cells := 0, slots := 0, locals := 42 } q := List.forall_mem_cons.mpr ⟨zE_X2_edits_0, fun _ h9 => nomatch h9⟩
theorem zG_X2_edits : ∀ L ∈ zT_X2_edits, ∀ q ∈ L, zmono q.2 := List.forall_mem_cons.mpr ⟨zG_X2_edits_0, fun _ h9 => nomatch h9⟩
set_option maxRecDepth 100000 in
theorem zE_X2_moved_0 : ∀ q ∈ zT_X2_moved_0, zEnt yX2_moved cX2_moved 2 (some .boolean) [] { frames := 2, cells := 0, slots := 0, locals := 42 } q := List.forall_mem_cons.mpr ⟨fun X => zs_aload_n X.1 dX2_moved_0 rfl rfl,
  List.forall_mem_cons.mpr ⟨fun X => zs_iload_n X.1 dX2_moved_1 rfl rfl,
  List.forall_mem_cons.mpr ⟨fun X => zs_callV (Cn := RX2) X.1 zNw_ok (fun _ h9 => Or.inr h9) X.2.2.2.2.2.1 X.2.2.2.2.2.2.1 zcal_31 rfl ⟨rfl, rfl⟩ wm_74 rfl wm_75 wm_76 dX2_moved_2 rfl,
  List.forall_mem_cons.mpr ⟨fun X => zs_iconst X.1 dX2_moved_5 (by decide) rfl,
  List.forall_mem_cons.mpr ⟨fun X => zs_iand X.1 dX2_moved_6 rfl,
  List.forall_mem_cons.mpr ⟨fun X => zs_ifeq X.1 dX2_moved_7 (by decide) rfl,
  List.forall_mem_cons.mpr ⟨fun X => zs_iconst X.1 dX2_moved_10 (by decide) rfl,
  List.forall_mem_cons.mpr ⟨fun X => zs_goto X.1 dX2_moved_11 (by decide),
  List.forall_mem_cons.mpr ⟨fun X => zs_iconst X.1 dX2_moved_14 (by decide) rfl,
  List.forall_mem_cons.mpr ⟨fun X => zs_zret X.1 X.2.1 X.2.2.1 dX2_moved_15,
  fun _ h9 => nomatch h9⟩⟩⟩⟩⟩⟩⟩⟩⟩⟩
theorem zG_X2_moved_0 : ∀ q ∈ zT_X2_moved_0, zmono q.2 := List.forall_mem_cons.mpr ⟨zm_aload 0 1, List.forall_mem_cons.mpr ⟨zm_iload 1 2, List.forall_mem_cons.mpr ⟨zm_callv 2 31 2 5, List.forall_mem_cons.mpr ⟨zm_iconst 2 6, List.forall_mem_cons.mpr ⟨zm_iand 7, List.forall_mem_cons.mpr ⟨zm_ifeq 14 10, List.forall_mem_cons.mpr ⟨zm_iconst 1 11, List.forall_mem_cons.mpr ⟨zm_goto 15 [], List.forall_mem_cons.mpr ⟨zm_iconst 0 15, List.forall_mem_cons.mpr ⟨zm_zret, fun _ h9 => nomatch h9⟩⟩⟩⟩⟩⟩⟩⟩⟩⟩
theorem zE_X2_moved : ∀ L ∈ zT_X2_moved, ∀ q ∈ L, zEnt yX2_moved cX2_moved 2 (some .boolean) [] { frames := 2, cells := 0, slots := 0, locals := 42 } q := List.forall_mem_cons.mpr ⟨zE_X2_moved_0, fun _ h9 => nomatch h9⟩
theorem zG_X2_moved : ∀ L ∈ zT_X2_moved, ∀ q ∈ L, zmono q.2 := List.forall_mem_cons.mpr ⟨zG_X2_moved_0, fun _ h9 => nomatch h9⟩
set_option maxRecDepth 100000 in
theorem zE_X2_removes_0 : ∀ q ∈ zT_X2_removes_0, zEnt yX2_removes cX2_removes 2 (some .boolean) [] { frames := 2, cells := 0, slots := 0, locals := 42 } q := List.forall_mem_cons.mpr ⟨fun X => zs_aload_n X.1 dX2_removes_0 rfl rfl,
  List.forall_mem_cons.mpr ⟨fun X => zs_iload_n X.1 dX2_removes_1 rfl rfl,
  List.forall_mem_cons.mpr ⟨fun X => zs_callV (Cn := RX2) X.1 zNw_ok (fun _ h9 => Or.inr h9) X.2.2.2.2.2.1 X.2.2.2.2.2.2.1 zcal_31 rfl ⟨rfl, rfl⟩ wm_74 rfl wm_75 wm_76 dX2_removes_2 rfl,
  List.forall_mem_cons.mpr ⟨fun X => zs_iconst X.1 dX2_removes_5 (by decide) rfl,
  List.forall_mem_cons.mpr ⟨fun X => zs_icmpne X.1 dX2_removes_6 (by decide) rfl,
  List.forall_mem_cons.mpr ⟨fun X => zs_iconst X.1 dX2_removes_9 (by decide) rfl,
  List.forall_mem_cons.mpr ⟨fun X => zs_goto X.1 dX2_removes_10 (by decide),
  List.forall_mem_cons.mpr ⟨fun X => zs_iconst X.1 dX2_removes_13 (by decide) rfl,
  List.forall_mem_cons.mpr ⟨fun X => zs_zret X.1 X.2.1 X.2.2.1 dX2_removes_14,
  fun _ h9 => nomatch h9⟩⟩⟩⟩⟩⟩⟩⟩⟩
theorem zG_X2_removes_0 : ∀ q ∈ zT_X2_removes_0, zmono q.2 := List.forall_mem_cons.mpr ⟨zm_aload 0 1, List.forall_mem_cons.mpr ⟨zm_iload 1 2, List.forall_mem_cons.mpr ⟨zm_callv 2 31 2 5, List.forall_mem_cons.mpr ⟨zm_iconst 4 6, List.forall_mem_cons.mpr ⟨zm_icmpne 13 9, List.forall_mem_cons.mpr ⟨zm_iconst 1 10, List.forall_mem_cons.mpr ⟨zm_goto 14 [], List.forall_mem_cons.mpr ⟨zm_iconst 0 14, List.forall_mem_cons.mpr ⟨zm_zret, fun _ h9 => nomatch h9⟩⟩⟩⟩⟩⟩⟩⟩⟩
theorem zE_X2_removes : ∀ L ∈ zT_X2_removes, ∀ q ∈ L, zEnt yX2_removes cX2_removes 2 (some .boolean) [] { frames := 2, cells := 0, slots := 0, locals := 42 } q := List.forall_mem_cons.mpr ⟨zE_X2_removes_0, fun _ h9 => nomatch h9⟩
theorem zG_X2_removes : ∀ L ∈ zT_X2_removes, ∀ q ∈ L, zmono q.2 := List.forall_mem_cons.mpr ⟨zG_X2_removes_0, fun _ h9 => nomatch h9⟩
set_option maxRecDepth 100000 in
theorem zE_X2_countMoved_0 : ∀ q ∈ zT_X2_countMoved_0, zEnt yX2_countMoved cX2_countMoved 4 (some .int) [] { frames := 3, cells := 0, slots := 0, locals := 63 } q := List.forall_mem_cons.mpr ⟨fun X => zs_iconst X.1 dX2_countMoved_0 (by decide) rfl,
  List.forall_mem_cons.mpr ⟨fun X => zs_istore_n X.1 dX2_countMoved_1 rfl (Nat.le_of_ble_eq_true rfl) rfl,
  List.forall_mem_cons.mpr ⟨fun X => zs_iconst X.1 dX2_countMoved_2 (by decide) rfl,
  List.forall_mem_cons.mpr ⟨fun X => zs_istore_n X.1 dX2_countMoved_3 rfl (Nat.le_of_ble_eq_true rfl) rfl,
  List.forall_mem_cons.mpr ⟨fun X => zs_iload_n X.1 dX2_countMoved_4 rfl rfl,
  List.forall_mem_cons.mpr ⟨fun X => zs_iload_n X.1 dX2_countMoved_5 rfl rfl,
  List.forall_mem_cons.mpr ⟨fun X => zs_icmpge X.1 dX2_countMoved_6 (by decide) rfl,
  List.forall_mem_cons.mpr ⟨fun X => zs_iload_n X.1 dX2_countMoved_9 rfl rfl,
  List.forall_mem_cons.mpr ⟨fun X => zs_aload_n X.1 dX2_countMoved_10 rfl rfl,
  List.forall_mem_cons.mpr ⟨fun X => zs_iload_n X.1 dX2_countMoved_11 rfl rfl,
  List.forall_mem_cons.mpr ⟨fun X => zs_callV (Cn := RX2) X.1 zNw_ok (fun _ h9 => Or.inr h9) X.2.2.2.2.2.1 X.2.2.2.2.2.2.1 zcal_33 rfl ⟨rfl, rfl⟩ wm_77 rfl wm_78 wm_79 dX2_countMoved_12 rfl,
  List.forall_mem_cons.mpr ⟨fun X => zs_ifeq X.1 dX2_countMoved_15 (by decide) rfl,
  List.forall_mem_cons.mpr ⟨fun X => zs_iconst X.1 dX2_countMoved_18 (by decide) rfl,
  List.forall_mem_cons.mpr ⟨fun X => zs_goto X.1 dX2_countMoved_19 (by decide),
  List.forall_mem_cons.mpr ⟨fun X => zs_iconst X.1 dX2_countMoved_22 (by decide) rfl,
  List.forall_mem_cons.mpr ⟨fun X => zs_iadd X.1 dX2_countMoved_23 rfl,
  List.forall_mem_cons.mpr ⟨fun X => zs_istore_n X.1 dX2_countMoved_24 rfl (Nat.le_of_ble_eq_true rfl) rfl,
  List.forall_mem_cons.mpr ⟨fun X => zs_iinc X.1 dX2_countMoved_25 (Nat.le_of_ble_eq_true rfl) rfl,
  List.forall_mem_cons.mpr ⟨fun X => zs_goto X.1 dX2_countMoved_28 (by decide),
  List.forall_mem_cons.mpr ⟨fun X => zs_iload_n X.1 dX2_countMoved_31 rfl rfl,
  List.forall_mem_cons.mpr ⟨fun X => zs_iret X.1 X.2.1 X.2.2.1 dX2_countMoved_32,
  fun _ h9 => nomatch h9⟩⟩⟩⟩⟩⟩⟩⟩⟩⟩⟩⟩⟩⟩⟩⟩⟩⟩⟩⟩⟩
theorem zG_X2_countMoved_0 : ∀ q ∈ zT_X2_countMoved_0, zmono q.2 := List.forall_mem_cons.mpr ⟨zm_iconst 0 1, List.forall_mem_cons.mpr ⟨zm_istore 2 2, List.forall_mem_cons.mpr ⟨zm_iconst 0 3, List.forall_mem_cons.mpr ⟨zm_istore 3 4, List.forall_mem_cons.mpr ⟨zm_iload 3 5, List.forall_mem_cons.mpr ⟨zm_iload 1 6, List.forall_mem_cons.mpr ⟨zm_icmpge 31 9, List.forall_mem_cons.mpr ⟨zm_iload 2 10, List.forall_mem_cons.mpr ⟨zm_aload 0 11, List.forall_mem_cons.mpr ⟨zm_iload 3 12, List.forall_mem_cons.mpr ⟨zm_callv 2 33 2 15, List.forall_mem_cons.mpr ⟨zm_ifeq 22 18, List.forall_mem_cons.mpr ⟨zm_iconst 1 19, List.forall_mem_cons.mpr ⟨zm_goto 23 [], List.forall_mem_cons.mpr ⟨zm_iconst 0 23, List.forall_mem_cons.mpr ⟨zm_iadd 24, List.forall_mem_cons.mpr ⟨zm_istore 2 25, List.forall_mem_cons.mpr ⟨zm_iinc 3 1 28, List.forall_mem_cons.mpr ⟨zm_goto 4 [], List.forall_mem_cons.mpr ⟨zm_iload 2 32, List.forall_mem_cons.mpr ⟨zm_iret, fun _ h9 => nomatch h9⟩⟩⟩⟩⟩⟩⟩⟩⟩⟩⟩⟩⟩⟩⟩⟩⟩⟩⟩⟩⟩
theorem zE_X2_countMoved : ∀ L ∈ zT_X2_countMoved, ∀ q ∈ L, zEnt yX2_countMoved cX2_countMoved 4 (some .int) [] { frames := 3, cells := 0, slots := 0, locals := 63 } q := List.forall_mem_cons.mpr ⟨zE_X2_countMoved_0, fun _ h9 => nomatch h9⟩
theorem zG_X2_countMoved : ∀ L ∈ zT_X2_countMoved, ∀ q ∈ L, zmono q.2 := List.forall_mem_cons.mpr ⟨zG_X2_countMoved_0, fun _ h9 => nomatch h9⟩
set_option maxRecDepth 100000 in
theorem zE_X2_compare_0 : ∀ q ∈ zT_X2_compare_0, zEnt yX2_compare cX2_compare 4 none [] { frames := 4, cells := 0, slots := 0, locals := 96 } q := List.forall_mem_cons.mpr ⟨fun X => zs_iconst X.1 dX2_compare_0 (by decide) rfl,
  List.forall_mem_cons.mpr ⟨fun X => zs_istore_n X.1 dX2_compare_1 rfl (Nat.le_of_ble_eq_true rfl) rfl,
  List.forall_mem_cons.mpr ⟨fun X => zs_iload_n X.1 dX2_compare_2 rfl rfl,
  List.forall_mem_cons.mpr ⟨fun X => zs_aload_n X.1 dX2_compare_3 rfl rfl,
  List.forall_mem_cons.mpr ⟨fun X => zs_getf (T := TX0) (N := 3) (k := 2) X.1 X.2.2.2.2.2.1 uX0_in rfl (by decide) wm_80 rfl dX2_compare_4 rfl,
  List.forall_mem_cons.mpr ⟨fun X => zs_icmpge X.1 dX2_compare_7 (by decide) rfl,
  List.forall_mem_cons.mpr ⟨fun X => zs_aload_n X.1 dX2_compare_10 rfl rfl,
  List.forall_mem_cons.mpr ⟨fun X => zs_getf (T := TX2) (N := 2) (k := 0) X.1 X.2.2.2.2.2.1 uX2_in rfl (by decide) wm_72 rfl dX2_compare_11 rfl,
  List.forall_mem_cons.mpr ⟨fun X => zs_iload_n X.1 dX2_compare_14 rfl rfl,
  List.forall_mem_cons.mpr ⟨fun X => zs_iload_n X.1 dX2_compare_15 rfl rfl,
  List.forall_mem_cons.mpr ⟨fun X => zs_aload_n X.1 dX2_compare_16 rfl rfl,
  List.forall_mem_cons.mpr ⟨fun X => zs_aload_n X.1 dX2_compare_17 rfl rfl,
  List.forall_mem_cons.mpr ⟨fun X => zs_callS X.1 zNw_ok (fun _ h9 => Or.inr h9) X.2.2.2.2.2.1 X.2.2.2.2.2.2.1 zcal_37 rfl ⟨rfl, rfl⟩ wm_81 wm_82 dX2_compare_18 rfl,
  List.forall_mem_cons.mpr ⟨fun X => zs_callSN (host := "DraftMerge") X.1 zNw_ok (fun _ h9 => Or.inr h9) X.2.2.2.2.2.1 X.2.2.2.2.2.2.1 zcal_117 rfl ⟨rfl, rfl⟩ (by decide +kernel) wm_19 dX2_compare_21 rfl,
  List.forall_mem_cons.mpr ⟨fun X => zs_iinc X.1 dX2_compare_24 (Nat.le_of_ble_eq_true rfl) rfl,
  List.forall_mem_cons.mpr ⟨fun X => zs_goto X.1 dX2_compare_27 (by decide),
  List.forall_mem_cons.mpr ⟨fun X => zs_aload_n X.1 dX2_compare_30 rfl rfl,
  List.forall_mem_cons.mpr ⟨fun X => zs_aload_n X.1 dX2_compare_31 rfl rfl,
  List.forall_mem_cons.mpr ⟨fun X => zs_getf (T := TX0) (N := 3) (k := 2) X.1 X.2.2.2.2.2.1 uX0_in rfl (by decide) wm_80 rfl dX2_compare_32 rfl,
  List.forall_mem_cons.mpr ⟨fun X => zs_aload_n X.1 dX2_compare_35 rfl rfl,
  List.forall_mem_cons.mpr ⟨fun X => zs_callV (Cn := RX2) X.1 zNw_ok (fun _ h9 => Or.inr h9) X.2.2.2.2.2.1 X.2.2.2.2.2.2.1 zcal_38 rfl ⟨rfl, rfl⟩ wm_83 rfl wm_84 wm_85 dX2_compare_36 rfl,
  List.forall_mem_cons.mpr ⟨fun X => zs_istore_n X.1 dX2_compare_39 rfl (Nat.le_of_ble_eq_true rfl) rfl,
  List.forall_mem_cons.mpr ⟨fun X => zs_aload_n X.1 dX2_compare_40 rfl rfl,
  List.forall_mem_cons.mpr ⟨fun X => zs_iload_n X.1 dX2_compare_41 rfl rfl,
  List.forall_mem_cons.mpr ⟨fun X => zs_aload_n X.1 dX2_compare_42 rfl rfl,
  List.forall_mem_cons.mpr ⟨fun X => zs_getf (T := TX0) (N := 3) (k := 2) X.1 X.2.2.2.2.2.1 uX0_in rfl (by decide) wm_80 rfl dX2_compare_43 rfl,
  List.forall_mem_cons.mpr ⟨fun X => zs_aload_n X.1 dX2_compare_46 rfl rfl,
  List.forall_mem_cons.mpr ⟨fun X => zs_callV (Cn := RX2) X.1 zNw_ok (fun _ h9 => Or.inr h9) X.2.2.2.2.2.1 X.2.2.2.2.2.2.1 zcal_40 rfl ⟨rfl, rfl⟩ wm_86 rfl wm_87 wm_88 dX2_compare_47 rfl,
  List.forall_mem_cons.mpr ⟨fun X => zs_vret X.1 X.2.1 X.2.2.1 dX2_compare_50,
  fun _ h9 => nomatch h9⟩⟩⟩⟩⟩⟩⟩⟩⟩⟩⟩⟩⟩⟩⟩⟩⟩⟩⟩⟩⟩⟩⟩⟩⟩⟩⟩⟩⟩
theorem zG_X2_compare_0 : ∀ q ∈ zT_X2_compare_0, zmono q.2 := List.forall_mem_cons.mpr ⟨zm_iconst 0 1, List.forall_mem_cons.mpr ⟨zm_istore 3 2, List.forall_mem_cons.mpr ⟨zm_iload 3 3, List.forall_mem_cons.mpr ⟨zm_aload 1 4, List.forall_mem_cons.mpr ⟨zm_getf 0 2 7, List.forall_mem_cons.mpr ⟨zm_icmpge 30 10, List.forall_mem_cons.mpr ⟨zm_aload 0 11, List.forall_mem_cons.mpr ⟨zm_getf 2 0 14, List.forall_mem_cons.mpr ⟨zm_iload 3 15, List.forall_mem_cons.mpr ⟨zm_iload 3 16, List.forall_mem_cons.mpr ⟨zm_aload 1 17, List.forall_mem_cons.mpr ⟨zm_aload 2 18, List.forall_mem_cons.mpr ⟨zm_call 37 3 21, List.forall_mem_cons.mpr ⟨zm_call 117 3 24, List.forall_mem_cons.mpr ⟨zm_iinc 3 1 27, List.forall_mem_cons.mpr ⟨zm_goto 2 [], List.forall_mem_cons.mpr ⟨zm_aload 0 31, List.forall_mem_cons.mpr ⟨zm_aload 1 32, List.forall_mem_cons.mpr ⟨zm_getf 0 2 35, List.forall_mem_cons.mpr ⟨zm_aload 2 36, List.forall_mem_cons.mpr ⟨zm_callv 2 38 3 39, List.forall_mem_cons.mpr ⟨zm_istore 3 40, List.forall_mem_cons.mpr ⟨zm_aload 0 41, List.forall_mem_cons.mpr ⟨zm_iload 3 42, List.forall_mem_cons.mpr ⟨zm_aload 1 43, List.forall_mem_cons.mpr ⟨zm_getf 0 2 46, List.forall_mem_cons.mpr ⟨zm_aload 2 47, List.forall_mem_cons.mpr ⟨zm_callv 2 40 4 50, List.forall_mem_cons.mpr ⟨zm_vret, fun _ h9 => nomatch h9⟩⟩⟩⟩⟩⟩⟩⟩⟩⟩⟩⟩⟩⟩⟩⟩⟩⟩⟩⟩⟩⟩⟩⟩⟩⟩⟩⟩⟩
theorem zE_X2_compare : ∀ L ∈ zT_X2_compare, ∀ q ∈ L, zEnt yX2_compare cX2_compare 4 none [] { frames := 4, cells := 0, slots := 0, locals := 96 } q := List.forall_mem_cons.mpr ⟨zE_X2_compare_0, fun _ h9 => nomatch h9⟩
theorem zG_X2_compare : ∀ L ∈ zT_X2_compare, ∀ q ∈ L, zmono q.2 := List.forall_mem_cons.mpr ⟨zG_X2_compare_0, fun _ h9 => nomatch h9⟩
set_option maxRecDepth 100000 in
theorem zE_X2_changeUnlessKept_0 : ∀ q ∈ zT_X2_changeUnlessKept_0, zEnt yX2_changeUnlessKept cX2_changeUnlessKept 4 (some .int) [] { frames := 3, cells := 0, slots := 0, locals := 64 } q := List.forall_mem_cons.mpr ⟨fun X => zs_aload_n X.1 dX2_changeUnlessKept_0 rfl rfl,
  List.forall_mem_cons.mpr ⟨fun X => zs_iload_n X.1 dX2_changeUnlessKept_1 rfl rfl,
  List.forall_mem_cons.mpr ⟨fun X => zs_callV (Cn := RX0) X.1 zNw_ok (fun _ h9 => Or.inr h9) X.2.2.2.2.2.1 X.2.2.2.2.2.2.1 zcal_5 rfl ⟨rfl, rfl⟩ wm_89 rfl wm_14 wm_15 dX2_changeUnlessKept_2 rfl,
  List.forall_mem_cons.mpr ⟨fun X => zs_istore_n X.1 dX2_changeUnlessKept_5 rfl (Nat.le_of_ble_eq_true rfl) rfl,
  List.forall_mem_cons.mpr ⟨fun X => zs_iload_n X.1 dX2_changeUnlessKept_6 rfl rfl,
  List.forall_mem_cons.mpr ⟨fun X => zs_iconst X.1 dX2_changeUnlessKept_7 (by decide) rfl,
  List.forall_mem_cons.mpr ⟨fun X => zs_icmpne X.1 dX2_changeUnlessKept_8 (by decide) rfl,
  List.forall_mem_cons.mpr ⟨fun X => zs_iconst X.1 dX2_changeUnlessKept_11 (by decide) rfl,
  List.forall_mem_cons.mpr ⟨fun X => zs_iret X.1 X.2.1 X.2.2.1 dX2_changeUnlessKept_12,
  List.forall_mem_cons.mpr ⟨fun X => zs_aload_n X.1 dX2_changeUnlessKept_13 rfl rfl,
  List.forall_mem_cons.mpr ⟨fun X => zs_iload_n X.1 dX2_changeUnlessKept_14 rfl rfl,
  List.forall_mem_cons.mpr ⟨fun X => zs_callV (Cn := RX0) X.1 zNw_ok (fun _ h9 => Or.inr h9) X.2.2.2.2.2.1 X.2.2.2.2.2.2.1 zcal_4 rfl ⟨rfl, rfl⟩ wm_90 rfl wm_17 wm_18 dX2_changeUnlessKept_15 rfl,
  List.forall_mem_cons.mpr ⟨fun X => zs_aload_n X.1 dX2_changeUnlessKept_18 rfl rfl,
  List.forall_mem_cons.mpr ⟨fun X => zs_iload_n X.1 dX2_changeUnlessKept_19 rfl rfl,
  List.forall_mem_cons.mpr ⟨fun X => zs_callV (Cn := RX0) X.1 zNw_ok (fun _ h9 => Or.inr h9) X.2.2.2.2.2.1 X.2.2.2.2.2.2.1 zcal_4 rfl ⟨rfl, rfl⟩ wm_90 rfl wm_17 wm_18 dX2_changeUnlessKept_20 rfl,
  List.forall_mem_cons.mpr ⟨fun X => zs_icmpne X.1 dX2_changeUnlessKept_23 (by decide) rfl,
  List.forall_mem_cons.mpr ⟨fun X => zs_iconst X.1 dX2_changeUnlessKept_26 (by decide) rfl,
  List.forall_mem_cons.mpr ⟨fun X => zs_goto X.1 dX2_changeUnlessKept_27 (by decide),
  List.forall_mem_cons.mpr ⟨fun X => zs_iconst X.1 dX2_changeUnlessKept_30 (by decide) rfl,
  List.forall_mem_cons.mpr ⟨fun X => zs_iret X.1 X.2.1 X.2.2.1 dX2_changeUnlessKept_31,
  fun _ h9 => nomatch h9⟩⟩⟩⟩⟩⟩⟩⟩⟩⟩⟩⟩⟩⟩⟩⟩⟩⟩⟩⟩
theorem zG_X2_changeUnlessKept_0 : ∀ q ∈ zT_X2_changeUnlessKept_0, zmono q.2 := List.forall_mem_cons.mpr ⟨zm_aload 2 1, List.forall_mem_cons.mpr ⟨zm_iload 0 2, List.forall_mem_cons.mpr ⟨zm_callv 0 5 2 5, List.forall_mem_cons.mpr ⟨zm_istore 3 6, List.forall_mem_cons.mpr ⟨zm_iload 3 7, List.forall_mem_cons.mpr ⟨zm_iconst (-1) 8, List.forall_mem_cons.mpr ⟨zm_icmpne 13 11, List.forall_mem_cons.mpr ⟨zm_iconst 4 12, List.forall_mem_cons.mpr ⟨zm_iret, List.forall_mem_cons.mpr ⟨zm_aload 2 14, List.forall_mem_cons.mpr ⟨zm_iload 3 15, List.forall_mem_cons.mpr ⟨zm_callv 0 4 2 18, List.forall_mem_cons.mpr ⟨zm_aload 1 19, List.forall_mem_cons.mpr ⟨zm_iload 0 20, List.forall_mem_cons.mpr ⟨zm_callv 0 4 2 23, List.forall_mem_cons.mpr ⟨zm_icmpne 30 26, List.forall_mem_cons.mpr ⟨zm_iconst 2 27, List.forall_mem_cons.mpr ⟨zm_goto 31 [], List.forall_mem_cons.mpr ⟨zm_iconst 3 31, List.forall_mem_cons.mpr ⟨zm_iret, fun _ h9 => nomatch h9⟩⟩⟩⟩⟩⟩⟩⟩⟩⟩⟩⟩⟩⟩⟩⟩⟩⟩⟩⟩
theorem zE_X2_changeUnlessKept : ∀ L ∈ zT_X2_changeUnlessKept, ∀ q ∈ L, zEnt yX2_changeUnlessKept cX2_changeUnlessKept 4 (some .int) [] { frames := 3, cells := 0, slots := 0, locals := 64 } q := List.forall_mem_cons.mpr ⟨zE_X2_changeUnlessKept_0, fun _ h9 => nomatch h9⟩
theorem zG_X2_changeUnlessKept : ∀ L ∈ zT_X2_changeUnlessKept, ∀ q ∈ L, zmono q.2 := List.forall_mem_cons.mpr ⟨zG_X2_changeUnlessKept_0, fun _ h9 => nomatch h9⟩
set_option maxRecDepth 100000 in
theorem zE_X2_measureAscending_0 : ∀ q ∈ zT_X2_measureAscending_0, zEnt yX2_measureAscending cX2_measureAscending 6 (some .int) [] { frames := 3, cells := 0, slots := 0, locals := 68 } q := List.forall_mem_cons.mpr ⟨fun X => zs_iconst X.1 dX2_measureAscending_0 (by decide) rfl,
  List.forall_mem_cons.mpr ⟨fun X => zs_istore_n X.1 dX2_measureAscending_1 rfl (Nat.le_of_ble_eq_true rfl) rfl,
  List.forall_mem_cons.mpr ⟨fun X => zs_aload_n X.1 dX2_measureAscending_2 rfl rfl,
  List.forall_mem_cons.mpr ⟨fun X => zs_getf (T := TX0) (N := 3) (k := 2) X.1 X.2.2.2.2.2.1 uX0_in rfl (by decide) wm_80 rfl dX2_measureAscending_3 rfl,
  List.forall_mem_cons.mpr ⟨fun X => zs_iconst X.1 dX2_measureAscending_6 (by decide) rfl,
  List.forall_mem_cons.mpr ⟨fun X => zs_isub X.1 dX2_measureAscending_7 rfl,
  List.forall_mem_cons.mpr ⟨fun X => zs_istore X.1 dX2_measureAscending_8 (Nat.le_of_ble_eq_true rfl) rfl,
  List.forall_mem_cons.mpr ⟨fun X => zs_iload X.1 dX2_measureAscending_10 rfl,
  List.forall_mem_cons.mpr ⟨fun X => zs_iflt X.1 dX2_measureAscending_12 (by decide) rfl,
  List.forall_mem_cons.mpr ⟨fun X => zs_aload_n X.1 dX2_measureAscending_15 rfl rfl,
  List.forall_mem_cons.mpr ⟨fun X => zs_iload X.1 dX2_measureAscending_16 rfl,
  List.forall_mem_cons.mpr ⟨fun X => zs_iload_n X.1 dX2_measureAscending_18 rfl rfl,
  List.forall_mem_cons.mpr ⟨fun X => zs_aload_n X.1 dX2_measureAscending_19 rfl rfl,
  List.forall_mem_cons.mpr ⟨fun X => zs_callV (Cn := RX2) X.1 zNw_ok (fun _ h9 => Or.inr h9) X.2.2.2.2.2.1 X.2.2.2.2.2.2.1 zcal_39 rfl ⟨rfl, rfl⟩ wm_91 rfl wm_92 wm_93 dX2_measureAscending_20 rfl,
  List.forall_mem_cons.mpr ⟨fun X => zs_istore X.1 dX2_measureAscending_23 (Nat.le_of_ble_eq_true rfl) rfl,
  List.forall_mem_cons.mpr ⟨fun X => zs_aload_n X.1 dX2_measureAscending_25 rfl rfl,
  List.forall_mem_cons.mpr ⟨fun X => zs_getf (T := TX2) (N := 2) (k := 1) X.1 X.2.2.2.2.2.1 uX2_in rfl (by decide) wm_73 rfl dX2_measureAscending_26 rfl,
  List.forall_mem_cons.mpr ⟨fun X => zs_iload X.1 dX2_measureAscending_29 rfl,
  List.forall_mem_cons.mpr ⟨fun X => zs_iload X.1 dX2_measureAscending_31 rfl,
  List.forall_mem_cons.mpr ⟨fun X => zs_callSN (host := "DraftMerge") X.1 zNw_ok (fun _ h9 => Or.inr h9) X.2.2.2.2.2.1 X.2.2.2.2.2.2.1 zcal_117 rfl ⟨rfl, rfl⟩ (by decide +kernel) wm_19 dX2_measureAscending_33 rfl,
  List.forall_mem_cons.mpr ⟨fun X => zs_iload_n X.1 dX2_measureAscending_36 rfl rfl,
  List.forall_mem_cons.mpr ⟨fun X => zs_iload X.1 dX2_measureAscending_37 rfl,
  List.forall_mem_cons.mpr ⟨fun X => zs_imax X.1 wm_94 wm_95 wm_31 wm_96 ⟨Nat.le_of_ble_eq_true rfl, Nat.le_of_ble_eq_true rfl⟩ dX2_measureAscending_39 rfl,
  List.forall_mem_cons.mpr ⟨fun X => zs_istore_n X.1 dX2_measureAscending_42 rfl (Nat.le_of_ble_eq_true rfl) rfl,
  List.forall_mem_cons.mpr ⟨fun X => zs_iinc X.1 dX2_measureAscending_43 (Nat.le_of_ble_eq_true rfl) rfl,
  List.forall_mem_cons.mpr ⟨fun X => zs_goto X.1 dX2_measureAscending_46 (by decide),
  List.forall_mem_cons.mpr ⟨fun X => zs_iload_n X.1 dX2_measureAscending_49 rfl rfl,
  List.forall_mem_cons.mpr ⟨fun X => zs_iret X.1 X.2.1 X.2.2.1 dX2_measureAscending_50,
  fun _ h9 => nomatch h9⟩⟩⟩⟩⟩⟩⟩⟩⟩⟩⟩⟩⟩⟩⟩⟩⟩⟩⟩⟩⟩⟩⟩⟩⟩⟩⟩⟩
theorem zG_X2_measureAscending_0 : ∀ q ∈ zT_X2_measureAscending_0, zmono q.2 := List.forall_mem_cons.mpr ⟨zm_iconst 0 1, List.forall_mem_cons.mpr ⟨zm_istore 3 2, List.forall_mem_cons.mpr ⟨zm_aload 2 3, List.forall_mem_cons.mpr ⟨zm_getf 0 2 6, List.forall_mem_cons.mpr ⟨zm_iconst 1 7, List.forall_mem_cons.mpr ⟨zm_isub 8, List.forall_mem_cons.mpr ⟨zm_istore 4 10, List.forall_mem_cons.mpr ⟨zm_iload 4 12, List.forall_mem_cons.mpr ⟨zm_iflt 49 15, List.forall_mem_cons.mpr ⟨zm_aload 0 16, List.forall_mem_cons.mpr ⟨zm_iload 4 18, List.forall_mem_cons.mpr ⟨zm_iload 1 19, List.forall_mem_cons.mpr ⟨zm_aload 2 20, List.forall_mem_cons.mpr ⟨zm_callv 2 39 4 23, List.forall_mem_cons.mpr ⟨zm_istore 5 25, List.forall_mem_cons.mpr ⟨zm_aload 0 26, List.forall_mem_cons.mpr ⟨zm_getf 2 1 29, List.forall_mem_cons.mpr ⟨zm_iload 4 31, List.forall_mem_cons.mpr ⟨zm_iload 5 33, List.forall_mem_cons.mpr ⟨zm_call 117 3 36, List.forall_mem_cons.mpr ⟨zm_iload 3 37, List.forall_mem_cons.mpr ⟨zm_iload 5 39, List.forall_mem_cons.mpr ⟨zm_imax 42, List.forall_mem_cons.mpr ⟨zm_istore 3 43, List.forall_mem_cons.mpr ⟨zm_iinc 4 (-1) 46, List.forall_mem_cons.mpr ⟨zm_goto 10 [], List.forall_mem_cons.mpr ⟨zm_iload 3 50, List.forall_mem_cons.mpr ⟨zm_iret, fun _ h9 => nomatch h9⟩⟩⟩⟩⟩⟩⟩⟩⟩⟩⟩⟩⟩⟩⟩⟩⟩⟩⟩⟩⟩⟩⟩⟩⟩⟩⟩⟩
theorem zE_X2_measureAscending : ∀ L ∈ zT_X2_measureAscending, ∀ q ∈ L, zEnt yX2_measureAscending cX2_measureAscending 6 (some .int) [] { frames := 3, cells := 0, slots := 0, locals := 68 } q := List.forall_mem_cons.mpr ⟨zE_X2_measureAscending_0, fun _ h9 => nomatch h9⟩
theorem zG_X2_measureAscending : ∀ L ∈ zT_X2_measureAscending, ∀ q ∈ L, zmono q.2 := List.forall_mem_cons.mpr ⟨zG_X2_measureAscending_0, fun _ h9 => nomatch h9⟩
set_option maxRecDepth 100000 in
theorem zE_X2_lengthFrom_0 : ∀ q ∈ zT_X2_lengthFrom_0, zEnt yX2_lengthFrom cX2_lengthFrom 7 (some .int) [] { frames := 2, cells := 0, slots := 0, locals := 42 } q := List.forall_mem_cons.mpr ⟨fun X => zs_aload_n X.1 dX2_lengthFrom_0 rfl rfl,
  List.forall_mem_cons.mpr ⟨fun X => zs_iload_n X.1 dX2_lengthFrom_1 rfl rfl,
  List.forall_mem_cons.mpr ⟨fun X => zs_callV (Cn := RX0) X.1 zNw_ok (fun _ h9 => Or.inr h9) X.2.2.2.2.2.1 X.2.2.2.2.2.2.1 zcal_3 rfl ⟨rfl, rfl⟩ wm_97 rfl wm_11 wm_12 dX2_lengthFrom_2 rfl,
  List.forall_mem_cons.mpr ⟨fun X => zs_istore X.1 dX2_lengthFrom_5 (Nat.le_of_ble_eq_true rfl) rfl,
  List.forall_mem_cons.mpr ⟨fun X => zs_iload X.1 dX2_lengthFrom_7 rfl,
  List.forall_mem_cons.mpr ⟨fun X => zs_iload_n X.1 dX2_lengthFrom_9 rfl rfl,
  List.forall_mem_cons.mpr ⟨fun X => zs_icmplt X.1 dX2_lengthFrom_10 (by decide) rfl,
  List.forall_mem_cons.mpr ⟨fun X => zs_iconst X.1 dX2_lengthFrom_13 (by decide) rfl,
  List.forall_mem_cons.mpr ⟨fun X => zs_iret X.1 X.2.1 X.2.2.1 dX2_lengthFrom_14,
  List.forall_mem_cons.mpr ⟨fun X => zs_iconst X.1 dX2_lengthFrom_15 (by decide) rfl,
  List.forall_mem_cons.mpr ⟨fun X => zs_istore X.1 dX2_lengthFrom_16 (Nat.le_of_ble_eq_true rfl) rfl,
  List.forall_mem_cons.mpr ⟨fun X => zs_iload_n X.1 dX2_lengthFrom_18 rfl rfl,
  List.forall_mem_cons.mpr ⟨fun X => zs_iconst X.1 dX2_lengthFrom_19 (by decide) rfl,
  List.forall_mem_cons.mpr ⟨fun X => zs_iadd X.1 dX2_lengthFrom_20 rfl,
  List.forall_mem_cons.mpr ⟨fun X => zs_istore X.1 dX2_lengthFrom_21 (Nat.le_of_ble_eq_true rfl) rfl,
  List.forall_mem_cons.mpr ⟨fun X => zs_iload X.1 dX2_lengthFrom_23 rfl,
  List.forall_mem_cons.mpr ⟨fun X => zs_aload_n X.1 dX2_lengthFrom_25 rfl rfl,
  List.forall_mem_cons.mpr ⟨fun X => zs_getf (T := TX0) (N := 3) (k := 2) X.1 X.2.2.2.2.2.1 uX0_in rfl (by decide) wm_80 rfl dX2_lengthFrom_26 rfl,
  List.forall_mem_cons.mpr ⟨fun X => zs_icmpge X.1 dX2_lengthFrom_29 (by decide) rfl,
  List.forall_mem_cons.mpr ⟨fun X => zs_aload_n X.1 dX2_lengthFrom_32 rfl rfl,
  List.forall_mem_cons.mpr ⟨fun X => zs_iload X.1 dX2_lengthFrom_33 rfl,
  List.forall_mem_cons.mpr ⟨fun X => zs_callV (Cn := RX0) X.1 zNw_ok (fun _ h9 => Or.inr h9) X.2.2.2.2.2.1 X.2.2.2.2.2.2.1 zcal_3 rfl ⟨rfl, rfl⟩ wm_97 rfl wm_11 wm_12 dX2_lengthFrom_35 rfl,
  List.forall_mem_cons.mpr ⟨fun X => zs_iload X.1 dX2_lengthFrom_38 rfl,
  List.forall_mem_cons.mpr ⟨fun X => zs_icmple X.1 dX2_lengthFrom_40 (by decide) rfl,
  List.forall_mem_cons.mpr ⟨fun X => zs_iload X.1 dX2_lengthFrom_43 rfl,
  List.forall_mem_cons.mpr ⟨fun X => zs_aload_n X.1 dX2_lengthFrom_45 rfl rfl,
  List.forall_mem_cons.mpr ⟨fun X => zs_getf (T := TX2) (N := 2) (k := 1) X.1 X.2.2.2.2.2.1 uX2_in rfl (by decide) wm_73 rfl dX2_lengthFrom_46 rfl,
  List.forall_mem_cons.mpr ⟨fun X => zs_iload X.1 dX2_lengthFrom_49 rfl,
  List.forall_mem_cons.mpr ⟨fun X => zs_callSN (host := "DraftMerge") X.1 zNw_ok (fun _ h9 => Or.inr h9) X.2.2.2.2.2.1 X.2.2.2.2.2.2.1 zcal_116 rfl ⟨rfl, rfl⟩ (by decide +kernel) wm_9 dX2_lengthFrom_51 rfl,
  List.forall_mem_cons.mpr ⟨fun X => zs_imax X.1 wm_94 wm_95 wm_31 wm_96 ⟨Nat.le_of_ble_eq_true rfl, Nat.le_of_ble_eq_true rfl⟩ dX2_lengthFrom_54 rfl,
  List.forall_mem_cons.mpr ⟨fun X => zs_istore X.1 dX2_lengthFrom_57 (Nat.le_of_ble_eq_true rfl) rfl,
  List.forall_mem_cons.mpr ⟨fun X => zs_iinc X.1 dX2_lengthFrom_59 (Nat.le_of_ble_eq_true rfl) rfl,
  List.forall_mem_cons.mpr ⟨fun X => zs_goto X.1 dX2_lengthFrom_62 (by decide),
  fun _ h9 => nomatch h9⟩⟩⟩⟩⟩⟩⟩⟩⟩⟩⟩⟩⟩⟩⟩⟩⟩⟩⟩⟩⟩⟩⟩⟩⟩⟩⟩⟩⟩⟩⟩⟩⟩
theorem zG_X2_lengthFrom_0 : ∀ q ∈ zT_X2_lengthFrom_0, zmono q.2 := List.forall_mem_cons.mpr ⟨zm_aload 3 1, List.forall_mem_cons.mpr ⟨zm_iload 1 2, List.forall_mem_cons.mpr ⟨zm_callv 0 3 2 5, List.forall_mem_cons.mpr ⟨zm_istore 4 7, List.forall_mem_cons.mpr ⟨zm_iload 4 9, List.forall_mem_cons.mpr ⟨zm_iload 2 10, List.forall_mem_cons.mpr ⟨zm_icmplt 15 13, List.forall_mem_cons.mpr ⟨zm_iconst 0 14, List.forall_mem_cons.mpr ⟨zm_iret, List.forall_mem_cons.mpr ⟨zm_iconst 0 16, List.forall_mem_cons.mpr ⟨zm_istore 5 18, List.forall_mem_cons.mpr ⟨zm_iload 1 19, List.forall_mem_cons.mpr ⟨zm_iconst 1 20, List.forall_mem_cons.mpr ⟨zm_iadd 21, List.forall_mem_cons.mpr ⟨zm_istore 6 23, List.forall_mem_cons.mpr ⟨zm_iload 6 25, List.forall_mem_cons.mpr ⟨zm_aload 3 26, List.forall_mem_cons.mpr ⟨zm_getf 0 2 29, List.forall_mem_cons.mpr ⟨zm_icmpge 65 32, List.forall_mem_cons.mpr ⟨zm_aload 3 33, List.forall_mem_cons.mpr ⟨zm_iload 6 35, List.forall_mem_cons.mpr ⟨zm_callv 0 3 2 38, List.forall_mem_cons.mpr ⟨zm_iload 4 40, List.forall_mem_cons.mpr ⟨zm_icmple 59 43, List.forall_mem_cons.mpr ⟨zm_iload 5 45, List.forall_mem_cons.mpr ⟨zm_aload 0 46, List.forall_mem_cons.mpr ⟨zm_getf 2 1 49, List.forall_mem_cons.mpr ⟨zm_iload 6 51, List.forall_mem_cons.mpr ⟨zm_call 116 2 54, List.forall_mem_cons.mpr ⟨zm_imax 57, List.forall_mem_cons.mpr ⟨zm_istore 5 59, List.forall_mem_cons.mpr ⟨zm_iinc 6 1 62, List.forall_mem_cons.mpr ⟨zm_goto 23 [], fun _ h9 => nomatch h9⟩⟩⟩⟩⟩⟩⟩⟩⟩⟩⟩⟩⟩⟩⟩⟩⟩⟩⟩⟩⟩⟩⟩⟩⟩⟩⟩⟩⟩⟩⟩⟩⟩
set_option maxRecDepth 100000 in
theorem zE_X2_lengthFrom_1 : ∀ q ∈ zT_X2_lengthFrom_1, zEnt yX2_lengthFrom cX2_lengthFrom 7 (some .int) [] { frames := 2, cells := 0, slots := 0, locals := 42 } q := List.forall_mem_cons.mpr ⟨fun X => zs_iload X.1 dX2_lengthFrom_65 rfl,
  List.forall_mem_cons.mpr ⟨fun X => zs_iconst X.1 dX2_lengthFrom_67 (by decide) rfl,
  List.forall_mem_cons.mpr ⟨fun X => zs_iadd X.1 dX2_lengthFrom_68 rfl,
  List.forall_mem_cons.mpr ⟨fun X => zs_iret X.1 X.2.1 X.2.2.1 dX2_lengthFrom_69,
  fun _ h9 => nomatch h9⟩⟩⟩⟩
theorem zG_X2_lengthFrom_1 : ∀ q ∈ zT_X2_lengthFrom_1, zmono q.2 := List.forall_mem_cons.mpr ⟨zm_iload 5 67, List.forall_mem_cons.mpr ⟨zm_iconst 1 68, List.forall_mem_cons.mpr ⟨zm_iadd 69, List.forall_mem_cons.mpr ⟨zm_iret, fun _ h9 => nomatch h9⟩⟩⟩⟩
theorem zE_X2_lengthFrom : ∀ L ∈ zT_X2_lengthFrom, ∀ q ∈ L, zEnt yX2_lengthFrom cX2_lengthFrom 7 (some .int) [] { frames := 2, cells := 0, slots := 0, locals := 42 } q := List.forall_mem_cons.mpr ⟨zE_X2_lengthFrom_0, List.forall_mem_cons.mpr ⟨zE_X2_lengthFrom_1, fun _ h9 => nomatch h9⟩⟩
theorem zG_X2_lengthFrom : ∀ L ∈ zT_X2_lengthFrom, ∀ q ∈ L, zmono q.2 := List.forall_mem_cons.mpr ⟨zG_X2_lengthFrom_0, List.forall_mem_cons.mpr ⟨zG_X2_lengthFrom_1, fun _ h9 => nomatch h9⟩⟩
set_option maxRecDepth 100000 in
theorem zE_X2_markKept_0 : ∀ q ∈ zT_X2_markKept_0, zEnt yX2_markKept cX2_markKept 8 none [] { frames := 3, cells := 0, slots := 0, locals := 69 } q := List.forall_mem_cons.mpr ⟨fun X => zs_iconst X.1 dX2_markKept_0 (by decide) rfl,
  List.forall_mem_cons.mpr ⟨fun X => zs_istore X.1 dX2_markKept_1 (Nat.le_of_ble_eq_true rfl) rfl,
  List.forall_mem_cons.mpr ⟨fun X => zs_iconst X.1 dX2_markKept_3 (by decide) rfl,
  List.forall_mem_cons.mpr ⟨fun X => zs_istore X.1 dX2_markKept_4 (Nat.le_of_ble_eq_true rfl) rfl,
  List.forall_mem_cons.mpr ⟨fun X => zs_iload_n X.1 dX2_markKept_6 rfl rfl,
  List.forall_mem_cons.mpr ⟨fun X => zs_istore X.1 dX2_markKept_7 (Nat.le_of_ble_eq_true rfl) rfl,
  List.forall_mem_cons.mpr ⟨fun X => zs_iload X.1 dX2_markKept_9 rfl,
  List.forall_mem_cons.mpr ⟨fun X => zs_ifle X.1 dX2_markKept_11 (by decide) rfl,
  List.forall_mem_cons.mpr ⟨fun X => zs_aload_n X.1 dX2_markKept_14 rfl rfl,
  List.forall_mem_cons.mpr ⟨fun X => zs_iload X.1 dX2_markKept_15 rfl,
  List.forall_mem_cons.mpr ⟨fun X => zs_iload X.1 dX2_markKept_17 rfl,
  List.forall_mem_cons.mpr ⟨fun X => zs_iload X.1 dX2_markKept_19 rfl,
  List.forall_mem_cons.mpr ⟨fun X => zs_aload_n X.1 dX2_markKept_21 rfl rfl,
  List.forall_mem_cons.mpr ⟨fun X => zs_callV (Cn := RX2) X.1 zNw_ok (fun _ h9 => Or.inr h9) X.2.2.2.2.2.1 X.2.2.2.2.2.2.1 zcal_41 rfl ⟨rfl, rfl⟩ wm_98 rfl wm_99 wm_100 dX2_markKept_22 rfl,
  List.forall_mem_cons.mpr ⟨fun X => zs_istore X.1 dX2_markKept_25 (Nat.le_of_ble_eq_true rfl) rfl,
  List.forall_mem_cons.mpr ⟨fun X => zs_aload_n X.1 dX2_markKept_27 rfl rfl,
  List.forall_mem_cons.mpr ⟨fun X => zs_iload X.1 dX2_markKept_28 rfl,
  List.forall_mem_cons.mpr ⟨fun X => zs_callV (Cn := RX0) X.1 zNw_ok (fun _ h9 => Or.inr h9) X.2.2.2.2.2.1 X.2.2.2.2.2.2.1 zcal_3 rfl ⟨rfl, rfl⟩ wm_97 rfl wm_11 wm_12 dX2_markKept_30 rfl,
  List.forall_mem_cons.mpr ⟨fun X => zs_istore X.1 dX2_markKept_33 (Nat.le_of_ble_eq_true rfl) rfl,
  List.forall_mem_cons.mpr ⟨fun X => zs_iload X.1 dX2_markKept_35 rfl,
  List.forall_mem_cons.mpr ⟨fun X => zs_iconst X.1 dX2_markKept_37 (by decide) rfl,
  List.forall_mem_cons.mpr ⟨fun X => zs_iadd X.1 dX2_markKept_38 rfl,
  List.forall_mem_cons.mpr ⟨fun X => zs_istore X.1 dX2_markKept_39 (Nat.le_of_ble_eq_true rfl) rfl,
  List.forall_mem_cons.mpr ⟨fun X => zs_aload_n X.1 dX2_markKept_41 rfl rfl,
  List.forall_mem_cons.mpr ⟨fun X => zs_getf (T := TX2) (N := 2) (k := 0) X.1 X.2.2.2.2.2.1 uX2_in rfl (by decide) wm_72 rfl dX2_markKept_42 rfl,
  List.forall_mem_cons.mpr ⟨fun X => zs_iload X.1 dX2_markKept_45 rfl,
  List.forall_mem_cons.mpr ⟨fun X => zs_aload_n X.1 dX2_markKept_47 rfl rfl,
  List.forall_mem_cons.mpr ⟨fun X => zs_iload X.1 dX2_markKept_48 rfl,
  List.forall_mem_cons.mpr ⟨fun X => zs_callV (Cn := RX2) X.1 zNw_ok (fun _ h9 => Or.inr h9) X.2.2.2.2.2.1 X.2.2.2.2.2.2.1 zcal_31 rfl ⟨rfl, rfl⟩ wm_74 rfl wm_75 wm_76 dX2_markKept_50 rfl,
  List.forall_mem_cons.mpr ⟨fun X => zs_bipush X.1 dX2_markKept_53 (by decide) rfl,
  List.forall_mem_cons.mpr ⟨fun X => zs_iand X.1 dX2_markKept_55 rfl,
  List.forall_mem_cons.mpr ⟨fun X => zs_callSN (host := "DraftMerge") X.1 zNw_ok (fun _ h9 => Or.inr h9) X.2.2.2.2.2.1 X.2.2.2.2.2.2.1 zcal_117 rfl ⟨rfl, rfl⟩ (by decide +kernel) wm_19 dX2_markKept_56 rfl,
  List.forall_mem_cons.mpr ⟨fun X => zs_iinc X.1 dX2_markKept_59 (Nat.le_of_ble_eq_true rfl) rfl,
  List.forall_mem_cons.mpr ⟨fun X => zs_goto X.1 dX2_markKept_62 (by decide),
  fun _ h9 => nomatch h9⟩⟩⟩⟩⟩⟩⟩⟩⟩⟩⟩⟩⟩⟩⟩⟩⟩⟩⟩⟩⟩⟩⟩⟩⟩⟩⟩⟩⟩⟩⟩⟩⟩⟩
theorem zG_X2_markKept_0 : ∀ q ∈ zT_X2_markKept_0, zmono q.2 := List.forall_mem_cons.mpr ⟨zm_iconst (-1) 1, List.forall_mem_cons.mpr ⟨zm_istore 4 3, List.forall_mem_cons.mpr ⟨zm_iconst 0 4, List.forall_mem_cons.mpr ⟨zm_istore 5 6, List.forall_mem_cons.mpr ⟨zm_iload 1 7, List.forall_mem_cons.mpr ⟨zm_istore 6 9, List.forall_mem_cons.mpr ⟨zm_iload 6 11, List.forall_mem_cons.mpr ⟨zm_ifle 65 14, List.forall_mem_cons.mpr ⟨zm_aload 0 15, List.forall_mem_cons.mpr ⟨zm_iload 6 17, List.forall_mem_cons.mpr ⟨zm_iload 4 19, List.forall_mem_cons.mpr ⟨zm_iload 5 21, List.forall_mem_cons.mpr ⟨zm_aload 3 22, List.forall_mem_cons.mpr ⟨zm_callv 2 41 5 25, List.forall_mem_cons.mpr ⟨zm_istore 7 27, List.forall_mem_cons.mpr ⟨zm_aload 3 28, List.forall_mem_cons.mpr ⟨zm_iload 7 30, List.forall_mem_cons.mpr ⟨zm_callv 0 3 2 33, List.forall_mem_cons.mpr ⟨zm_istore 4 35, List.forall_mem_cons.mpr ⟨zm_iload 7 37, List.forall_mem_cons.mpr ⟨zm_iconst 1 38, List.forall_mem_cons.mpr ⟨zm_iadd 39, List.forall_mem_cons.mpr ⟨zm_istore 5 41, List.forall_mem_cons.mpr ⟨zm_aload 0 42, List.forall_mem_cons.mpr ⟨zm_getf 2 0 45, List.forall_mem_cons.mpr ⟨zm_iload 4 47, List.forall_mem_cons.mpr ⟨zm_aload 0 48, List.forall_mem_cons.mpr ⟨zm_iload 4 50, List.forall_mem_cons.mpr ⟨zm_callv 2 31 2 53, List.forall_mem_cons.mpr ⟨zm_iconst (-3) 55, List.forall_mem_cons.mpr ⟨zm_iand 56, List.forall_mem_cons.mpr ⟨zm_call 117 3 59, List.forall_mem_cons.mpr ⟨zm_iinc 6 (-1) 62, List.forall_mem_cons.mpr ⟨zm_goto 9 [], fun _ h9 => nomatch h9⟩⟩⟩⟩⟩⟩⟩⟩⟩⟩⟩⟩⟩⟩⟩⟩⟩⟩⟩⟩⟩⟩⟩⟩⟩⟩⟩⟩⟩⟩⟩⟩⟩⟩
set_option maxRecDepth 100000 in
theorem zE_X2_markKept_1 : ∀ q ∈ zT_X2_markKept_1, zEnt yX2_markKept cX2_markKept 8 none [] { frames := 3, cells := 0, slots := 0, locals := 69 } q := List.forall_mem_cons.mpr ⟨fun X => zs_vret X.1 X.2.1 X.2.2.1 dX2_markKept_65,
  fun _ h9 => nomatch h9⟩
theorem zG_X2_markKept_1 : ∀ q ∈ zT_X2_markKept_1, zmono q.2 := List.forall_mem_cons.mpr ⟨zm_vret, fun _ h9 => nomatch h9⟩
theorem zE_X2_markKept : ∀ L ∈ zT_X2_markKept, ∀ q ∈ L, zEnt yX2_markKept cX2_markKept 8 none [] { frames := 3, cells := 0, slots := 0, locals := 69 } q := List.forall_mem_cons.mpr ⟨zE_X2_markKept_0, List.forall_mem_cons.mpr ⟨zE_X2_markKept_1, fun _ h9 => nomatch h9⟩⟩
theorem zG_X2_markKept : ∀ L ∈ zT_X2_markKept, ∀ q ∈ L, zmono q.2 := List.forall_mem_cons.mpr ⟨zG_X2_markKept_0, List.forall_mem_cons.mpr ⟨zG_X2_markKept_1, fun _ h9 => nomatch h9⟩⟩
set_option maxRecDepth 100000 in
theorem zE_X2_leastStart_0 : ∀ q ∈ zT_X2_leastStart_0, zEnt yX2_leastStart cX2_leastStart 8 (some .int) [] { frames := 2, cells := 0, slots := 0, locals := 42 } q := List.forall_mem_cons.mpr ⟨fun X => zs_iconst X.1 dX2_leastStart_0 (by decide) rfl,
  List.forall_mem_cons.mpr ⟨fun X => zs_istore X.1 dX2_leastStart_1 (Nat.le_of_ble_eq_true rfl) rfl,
  List.forall_mem_cons.mpr ⟨fun X => zs_iload_n X.1 dX2_leastStart_3 rfl rfl,
  List.forall_mem_cons.mpr ⟨fun X => zs_istore X.1 dX2_leastStart_4 (Nat.le_of_ble_eq_true rfl) rfl,
  List.forall_mem_cons.mpr ⟨fun X => zs_iload X.1 dX2_leastStart_6 rfl,
  List.forall_mem_cons.mpr ⟨fun X => zs_aload X.1 dX2_leastStart_8 rfl,
  List.forall_mem_cons.mpr ⟨fun X => zs_getf (T := TX0) (N := 3) (k := 2) X.1 X.2.2.2.2.2.1 uX0_in rfl (by decide) wm_80 rfl dX2_leastStart_10 rfl,
  List.forall_mem_cons.mpr ⟨fun X => zs_icmpge X.1 dX2_leastStart_13 (by decide) rfl,
  List.forall_mem_cons.mpr ⟨fun X => zs_aload X.1 dX2_leastStart_16 rfl,
  List.forall_mem_cons.mpr ⟨fun X => zs_iload X.1 dX2_leastStart_18 rfl,
  List.forall_mem_cons.mpr ⟨fun X => zs_callV (Cn := RX0) X.1 zNw_ok (fun _ h9 => Or.inr h9) X.2.2.2.2.2.1 X.2.2.2.2.2.2.1 zcal_3 rfl ⟨rfl, rfl⟩ wm_97 rfl wm_11 wm_12 dX2_leastStart_20 rfl,
  List.forall_mem_cons.mpr ⟨fun X => zs_istore X.1 dX2_leastStart_23 (Nat.le_of_ble_eq_true rfl) rfl,
  List.forall_mem_cons.mpr ⟨fun X => zs_aload_n X.1 dX2_leastStart_25 rfl rfl,
  List.forall_mem_cons.mpr ⟨fun X => zs_getf (T := TX2) (N := 2) (k := 1) X.1 X.2.2.2.2.2.1 uX2_in rfl (by decide) wm_73 rfl dX2_leastStart_26 rfl,
  List.forall_mem_cons.mpr ⟨fun X => zs_iload X.1 dX2_leastStart_29 rfl,
  List.forall_mem_cons.mpr ⟨fun X => zs_callSN (host := "DraftMerge") X.1 zNw_ok (fun _ h9 => Or.inr h9) X.2.2.2.2.2.1 X.2.2.2.2.2.2.1 zcal_116 rfl ⟨rfl, rfl⟩ (by decide +kernel) wm_9 dX2_leastStart_31 rfl,
  List.forall_mem_cons.mpr ⟨fun X => zs_iload_n X.1 dX2_leastStart_34 rfl rfl,
  List.forall_mem_cons.mpr ⟨fun X => zs_icmpne X.1 dX2_leastStart_35 (by decide) rfl,
  List.forall_mem_cons.mpr ⟨fun X => zs_iload X.1 dX2_leastStart_38 rfl,
  List.forall_mem_cons.mpr ⟨fun X => zs_iload_n X.1 dX2_leastStart_40 rfl rfl,
  List.forall_mem_cons.mpr ⟨fun X => zs_icmple X.1 dX2_leastStart_41 (by decide) rfl,
  List.forall_mem_cons.mpr ⟨fun X => zs_iload X.1 dX2_leastStart_44 rfl,
  List.forall_mem_cons.mpr ⟨fun X => zs_iconst X.1 dX2_leastStart_46 (by decide) rfl,
  List.forall_mem_cons.mpr ⟨fun X => zs_icmpeq X.1 dX2_leastStart_47 (by decide) rfl,
  List.forall_mem_cons.mpr ⟨fun X => zs_iload X.1 dX2_leastStart_50 rfl,
  List.forall_mem_cons.mpr ⟨fun X => zs_aload X.1 dX2_leastStart_52 rfl,
  List.forall_mem_cons.mpr ⟨fun X => zs_iload X.1 dX2_leastStart_54 rfl,
  List.forall_mem_cons.mpr ⟨fun X => zs_callV (Cn := RX0) X.1 zNw_ok (fun _ h9 => Or.inr h9) X.2.2.2.2.2.1 X.2.2.2.2.2.2.1 zcal_3 rfl ⟨rfl, rfl⟩ wm_97 rfl wm_11 wm_12 dX2_leastStart_56 rfl,
  List.forall_mem_cons.mpr ⟨fun X => zs_icmpge X.1 dX2_leastStart_59 (by decide) rfl,
  List.forall_mem_cons.mpr ⟨fun X => zs_iload X.1 dX2_leastStart_62 rfl,
  fun _ h9 => nomatch h9⟩⟩⟩⟩⟩⟩⟩⟩⟩⟩⟩⟩⟩⟩⟩⟩⟩⟩⟩⟩⟩⟩⟩⟩⟩⟩⟩⟩⟩⟩
theorem zG_X2_leastStart_0 : ∀ q ∈ zT_X2_leastStart_0, zmono q.2 := List.forall_mem_cons.mpr ⟨zm_iconst (-1) 1, List.forall_mem_cons.mpr ⟨zm_istore 5 3, List.forall_mem_cons.mpr ⟨zm_iload 3 4, List.forall_mem_cons.mpr ⟨zm_istore 6 6, List.forall_mem_cons.mpr ⟨zm_iload 6 8, List.forall_mem_cons.mpr ⟨zm_aload 4 10, List.forall_mem_cons.mpr ⟨zm_getf 0 2 13, List.forall_mem_cons.mpr ⟨zm_icmpge 72 16, List.forall_mem_cons.mpr ⟨zm_aload 4 18, List.forall_mem_cons.mpr ⟨zm_iload 6 20, List.forall_mem_cons.mpr ⟨zm_callv 0 3 2 23, List.forall_mem_cons.mpr ⟨zm_istore 7 25, List.forall_mem_cons.mpr ⟨zm_aload 0 26, List.forall_mem_cons.mpr ⟨zm_getf 2 1 29, List.forall_mem_cons.mpr ⟨zm_iload 6 31, List.forall_mem_cons.mpr ⟨zm_call 116 2 34, List.forall_mem_cons.mpr ⟨zm_iload 1 35, List.forall_mem_cons.mpr ⟨zm_icmpne 66 38, List.forall_mem_cons.mpr ⟨zm_iload 7 40, List.forall_mem_cons.mpr ⟨zm_iload 2 41, List.forall_mem_cons.mpr ⟨zm_icmple 66 44, List.forall_mem_cons.mpr ⟨zm_iload 5 46, List.forall_mem_cons.mpr ⟨zm_iconst (-1) 47, List.forall_mem_cons.mpr ⟨zm_icmpeq 62 50, List.forall_mem_cons.mpr ⟨zm_iload 7 52, List.forall_mem_cons.mpr ⟨zm_aload 4 54, List.forall_mem_cons.mpr ⟨zm_iload 5 56, List.forall_mem_cons.mpr ⟨zm_callv 0 3 2 59, List.forall_mem_cons.mpr ⟨zm_icmpge 66 62, List.forall_mem_cons.mpr ⟨zm_iload 6 64, fun _ h9 => nomatch h9⟩⟩⟩⟩⟩⟩⟩⟩⟩⟩⟩⟩⟩⟩⟩⟩⟩⟩⟩⟩⟩⟩⟩⟩⟩⟩⟩⟩⟩⟩
set_option maxRecDepth 100000 in
theorem zE_X2_leastStart_1 : ∀ q ∈ zT_X2_leastStart_1, zEnt yX2_leastStart cX2_leastStart 8 (some .int) [] { frames := 2, cells := 0, slots := 0, locals := 42 } q := List.forall_mem_cons.mpr ⟨fun X => zs_istore X.1 dX2_leastStart_64 (Nat.le_of_ble_eq_true rfl) rfl,
  List.forall_mem_cons.mpr ⟨fun X => zs_iinc X.1 dX2_leastStart_66 (Nat.le_of_ble_eq_true rfl) rfl,
  List.forall_mem_cons.mpr ⟨fun X => zs_goto X.1 dX2_leastStart_69 (by decide),
  List.forall_mem_cons.mpr ⟨fun X => zs_iload X.1 dX2_leastStart_72 rfl,
  List.forall_mem_cons.mpr ⟨fun X => zs_iret X.1 X.2.1 X.2.2.1 dX2_leastStart_74,
  fun _ h9 => nomatch h9⟩⟩⟩⟩⟩
theorem zG_X2_leastStart_1 : ∀ q ∈ zT_X2_leastStart_1, zmono q.2 := List.forall_mem_cons.mpr ⟨zm_istore 5 66, List.forall_mem_cons.mpr ⟨zm_iinc 6 1 69, List.forall_mem_cons.mpr ⟨zm_goto 6 [], List.forall_mem_cons.mpr ⟨zm_iload 5 74, List.forall_mem_cons.mpr ⟨zm_iret, fun _ h9 => nomatch h9⟩⟩⟩⟩⟩
theorem zE_X2_leastStart : ∀ L ∈ zT_X2_leastStart, ∀ q ∈ L, zEnt yX2_leastStart cX2_leastStart 8 (some .int) [] { frames := 2, cells := 0, slots := 0, locals := 42 } q := List.forall_mem_cons.mpr ⟨zE_X2_leastStart_0, List.forall_mem_cons.mpr ⟨zE_X2_leastStart_1, fun _ h9 => nomatch h9⟩⟩
theorem zG_X2_leastStart : ∀ L ∈ zT_X2_leastStart, ∀ q ∈ L, zmono q.2 := List.forall_mem_cons.mpr ⟨zG_X2_leastStart_0, List.forall_mem_cons.mpr ⟨zG_X2_leastStart_1, fun _ h9 => nomatch h9⟩⟩
