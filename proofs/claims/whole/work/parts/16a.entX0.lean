/-! every entry of the tables of X0 is sound, and grows -/
set_option maxRecDepth 100000 in
theorem zE_X0_init_0 : ∀ q ∈ zT_X0_init_0, zEnt yX0_init cX0_init 3 none [] { frames := 1, cells := 0, slots := 0, locals := 20 } q := List.forall_mem_cons.mpr ⟨fun X => zs_aload_n X.1 dX0_init_0 rfl rfl,
  List.forall_mem_cons.mpr ⟨fun X => zs_objinit X.1 wm_0 wm_1 wm_2 ⟨Nat.le_of_ble_eq_true rfl, Nat.le_of_ble_eq_true rfl⟩ dX0_init_1 rfl,
  List.forall_mem_cons.mpr ⟨fun X => zs_aload_n X.1 dX0_init_4 rfl rfl,
  List.forall_mem_cons.mpr ⟨fun X => zs_iconst X.1 dX0_init_5 (by decide) rfl,
  List.forall_mem_cons.mpr ⟨fun X => zs_putf (T := TX0) (N := 3) (k := 2) X.1 X.2.2.2.2.2.1 uX0_in tyX0 tyX0_ok nmX0 rfl (by decide) wm_3 rfl rfl (tyX0_ok 2 (by decide)) dX0_init_6 rfl,
  List.forall_mem_cons.mpr ⟨fun X => zs_aload_n X.1 dX0_init_9 rfl rfl,
  List.forall_mem_cons.mpr ⟨fun X => zs_aload_n X.1 dX0_init_10 rfl rfl,
  List.forall_mem_cons.mpr ⟨fun X => zs_putfF (T := TX0) (N := 3) (k := 0) X.1 X.2.2.2.2.2.1 uX0_in tyX0 tyX0_ok nmX0 rfl (by decide) wm_4 rfl rfl X.2.2.2.1 rfl (tyX0_ok 0 (by decide)) dX0_init_11 rfl,
  List.forall_mem_cons.mpr ⟨fun X => zs_aload_n X.1 dX0_init_14 rfl rfl,
  List.forall_mem_cons.mpr ⟨fun X => zs_aload_n X.1 dX0_init_15 rfl rfl,
  List.forall_mem_cons.mpr ⟨fun X => zs_putfF (T := TX0) (N := 3) (k := 1) X.1 X.2.2.2.2.2.1 uX0_in tyX0 tyX0_ok nmX0 rfl (by decide) wm_5 rfl rfl X.2.2.2.1 rfl (tyX0_ok 1 (by decide)) dX0_init_16 rfl,
  List.forall_mem_cons.mpr ⟨fun X => zs_vret X.1 X.2.1 X.2.2.1 dX0_init_19,
  fun _ h9 => nomatch h9⟩⟩⟩⟩⟩⟩⟩⟩⟩⟩⟩⟩
theorem zG_X0_init_0 : ∀ q ∈ zT_X0_init_0, zmono q.2 := List.forall_mem_cons.mpr ⟨zm_aload 0 1, List.forall_mem_cons.mpr ⟨zm_objinit 4, List.forall_mem_cons.mpr ⟨zm_aload 0 5, List.forall_mem_cons.mpr ⟨zm_iconst 0 6, List.forall_mem_cons.mpr ⟨zm_putf 0 2 .int 9, List.forall_mem_cons.mpr ⟨zm_aload 0 10, List.forall_mem_cons.mpr ⟨zm_aload 1 11, List.forall_mem_cons.mpr ⟨zm_putf 0 0 (.array .int) 14, List.forall_mem_cons.mpr ⟨zm_aload 0 15, List.forall_mem_cons.mpr ⟨zm_aload 2 16, List.forall_mem_cons.mpr ⟨zm_putf 0 1 (.array .int) 19, List.forall_mem_cons.mpr ⟨zm_vret, fun _ h9 => nomatch h9⟩⟩⟩⟩⟩⟩⟩⟩⟩⟩⟩⟩
theorem zE_X0_init : ∀ L ∈ zT_X0_init, ∀ q ∈ L, zEnt yX0_init cX0_init 3 none [] { frames := 1, cells := 0, slots := 0, locals := 20 } q := List.forall_mem_cons.mpr ⟨zE_X0_init_0, fun _ h9 => nomatch h9⟩
theorem zG_X0_init : ∀ L ∈ zT_X0_init, ∀ q ∈ L, zmono q.2 := List.forall_mem_cons.mpr ⟨zG_X0_init_0, fun _ h9 => nomatch h9⟩
set_option maxRecDepth 100000 in
theorem zE_X0_holds_0 : ∀ q ∈ zT_X0_holds_0, zEnt yX0_holds cX0_holds 2 (some .boolean) [] { frames := 0, cells := 0, slots := 0, locals := 0 } q := List.forall_mem_cons.mpr ⟨fun X => zs_iload_n X.1 dX0_holds_0 rfl rfl,
  List.forall_mem_cons.mpr ⟨fun X => zs_iflt X.1 dX0_holds_1 (by decide) rfl,
  List.forall_mem_cons.mpr ⟨fun X => zs_iload_n X.1 dX0_holds_4 rfl rfl,
  List.forall_mem_cons.mpr ⟨fun X => zs_aload_n X.1 dX0_holds_5 rfl rfl,
  List.forall_mem_cons.mpr ⟨fun X => zs_getf (T := TX0) (N := 3) (k := 2) X.1 X.2.2.2.2.2.1 uX0_in rfl (by decide) wm_3 rfl dX0_holds_6 rfl,
  List.forall_mem_cons.mpr ⟨fun X => zs_icmpge X.1 dX0_holds_9 (by decide) rfl,
  List.forall_mem_cons.mpr ⟨fun X => zs_iconst X.1 dX0_holds_12 (by decide) rfl,
  List.forall_mem_cons.mpr ⟨fun X => zs_goto X.1 dX0_holds_13 (by decide),
  List.forall_mem_cons.mpr ⟨fun X => zs_iconst X.1 dX0_holds_16 (by decide) rfl,
  List.forall_mem_cons.mpr ⟨fun X => zs_zret X.1 X.2.1 X.2.2.1 dX0_holds_17,
  fun _ h9 => nomatch h9⟩⟩⟩⟩⟩⟩⟩⟩⟩⟩
theorem zG_X0_holds_0 : ∀ q ∈ zT_X0_holds_0, zmono q.2 := List.forall_mem_cons.mpr ⟨zm_iload 1 1, List.forall_mem_cons.mpr ⟨zm_iflt 16 4, List.forall_mem_cons.mpr ⟨zm_iload 1 5, List.forall_mem_cons.mpr ⟨zm_aload 0 6, List.forall_mem_cons.mpr ⟨zm_getf 0 2 9, List.forall_mem_cons.mpr ⟨zm_icmpge 16 12, List.forall_mem_cons.mpr ⟨zm_iconst 1 13, List.forall_mem_cons.mpr ⟨zm_goto 17 [], List.forall_mem_cons.mpr ⟨zm_iconst 0 17, List.forall_mem_cons.mpr ⟨zm_zret, fun _ h9 => nomatch h9⟩⟩⟩⟩⟩⟩⟩⟩⟩⟩
theorem zE_X0_holds : ∀ L ∈ zT_X0_holds, ∀ q ∈ L, zEnt yX0_holds cX0_holds 2 (some .boolean) [] { frames := 0, cells := 0, slots := 0, locals := 0 } q := List.forall_mem_cons.mpr ⟨zE_X0_holds_0, fun _ h9 => nomatch h9⟩
theorem zG_X0_holds : ∀ L ∈ zT_X0_holds, ∀ q ∈ L, zmono q.2 := List.forall_mem_cons.mpr ⟨zG_X0_holds_0, fun _ h9 => nomatch h9⟩
set_option maxRecDepth 100000 in
theorem zE_X0_isFull_0 : ∀ q ∈ zT_X0_isFull_0, zEnt yX0_isFull cX0_isFull 1 (some .boolean) [] { frames := 0, cells := 0, slots := 0, locals := 0 } q := List.forall_mem_cons.mpr ⟨fun X => zs_aload_n X.1 dX0_isFull_0 rfl rfl,
  List.forall_mem_cons.mpr ⟨fun X => zs_getf (T := TX0) (N := 3) (k := 2) X.1 X.2.2.2.2.2.1 uX0_in rfl (by decide) wm_3 rfl dX0_isFull_1 rfl,
  List.forall_mem_cons.mpr ⟨fun X => zs_aload_n X.1 dX0_isFull_4 rfl rfl,
  List.forall_mem_cons.mpr ⟨fun X => zs_getf (T := TX0) (N := 3) (k := 0) X.1 X.2.2.2.2.2.1 uX0_in rfl (by decide) wm_4 rfl dX0_isFull_5 rfl,
  List.forall_mem_cons.mpr ⟨fun X => zs_alen X.1 X.2.2.2.2.2.1 dX0_isFull_8 rfl,
  List.forall_mem_cons.mpr ⟨fun X => zs_icmplt X.1 dX0_isFull_9 (by decide) rfl,
  List.forall_mem_cons.mpr ⟨fun X => zs_iconst X.1 dX0_isFull_12 (by decide) rfl,
  List.forall_mem_cons.mpr ⟨fun X => zs_goto X.1 dX0_isFull_13 (by decide),
  List.forall_mem_cons.mpr ⟨fun X => zs_iconst X.1 dX0_isFull_16 (by decide) rfl,
  List.forall_mem_cons.mpr ⟨fun X => zs_zret X.1 X.2.1 X.2.2.1 dX0_isFull_17,
  fun _ h9 => nomatch h9⟩⟩⟩⟩⟩⟩⟩⟩⟩⟩
theorem zG_X0_isFull_0 : ∀ q ∈ zT_X0_isFull_0, zmono q.2 := List.forall_mem_cons.mpr ⟨zm_aload 0 1, List.forall_mem_cons.mpr ⟨zm_getf 0 2 4, List.forall_mem_cons.mpr ⟨zm_aload 0 5, List.forall_mem_cons.mpr ⟨zm_getf 0 0 8, List.forall_mem_cons.mpr ⟨zm_alen 9, List.forall_mem_cons.mpr ⟨zm_icmplt 16 12, List.forall_mem_cons.mpr ⟨zm_iconst 1 13, List.forall_mem_cons.mpr ⟨zm_goto 17 [], List.forall_mem_cons.mpr ⟨zm_iconst 0 17, List.forall_mem_cons.mpr ⟨zm_zret, fun _ h9 => nomatch h9⟩⟩⟩⟩⟩⟩⟩⟩⟩⟩
theorem zE_X0_isFull : ∀ L ∈ zT_X0_isFull, ∀ q ∈ L, zEnt yX0_isFull cX0_isFull 1 (some .boolean) [] { frames := 0, cells := 0, slots := 0, locals := 0 } q := List.forall_mem_cons.mpr ⟨zE_X0_isFull_0, fun _ h9 => nomatch h9⟩
theorem zG_X0_isFull : ∀ L ∈ zT_X0_isFull, ∀ q ∈ L, zmono q.2 := List.forall_mem_cons.mpr ⟨zG_X0_isFull_0, fun _ h9 => nomatch h9⟩
set_option maxRecDepth 100000 in
theorem zE_X0_numberAt_0 : ∀ q ∈ zT_X0_numberAt_0, zEnt yX0_numberAt cX0_numberAt 2 (some .int) [] { frames := 1, cells := 0, slots := 0, locals := 21 } q := List.forall_mem_cons.mpr ⟨fun X => zs_aload_n X.1 dX0_numberAt_0 rfl rfl,
  List.forall_mem_cons.mpr ⟨fun X => zs_iload_n X.1 dX0_numberAt_1 rfl rfl,
  List.forall_mem_cons.mpr ⟨fun X => zs_callV (Cn := RX0) X.1 zNw_ok (fun _ h9 => Or.inr h9) X.2.2.2.2.2.1 X.2.2.2.2.2.2.1 zcal_1 rfl ⟨rfl, rfl⟩ wm_6 rfl wm_7 wm_8 dX0_numberAt_2 rfl,
  List.forall_mem_cons.mpr ⟨fun X => zs_ifeq X.1 dX0_numberAt_5 (by decide) rfl,
  List.forall_mem_cons.mpr ⟨fun X => zs_aload_n X.1 dX0_numberAt_8 rfl rfl,
  List.forall_mem_cons.mpr ⟨fun X => zs_getf (T := TX0) (N := 3) (k := 0) X.1 X.2.2.2.2.2.1 uX0_in rfl (by decide) wm_4 rfl dX0_numberAt_9 rfl,
  List.forall_mem_cons.mpr ⟨fun X => zs_iload_n X.1 dX0_numberAt_12 rfl rfl,
  List.forall_mem_cons.mpr ⟨fun X => zs_callSN (host := "DraftMerge") X.1 zNw_ok (fun _ h9 => Or.inr h9) X.2.2.2.2.2.1 X.2.2.2.2.2.2.1 zcal_116 rfl ⟨rfl, rfl⟩ (by decide +kernel) wm_9 dX0_numberAt_13 rfl,
  List.forall_mem_cons.mpr ⟨fun X => zs_goto X.1 dX0_numberAt_16 (by decide),
  List.forall_mem_cons.mpr ⟨fun X => zs_iconst X.1 dX0_numberAt_19 (by decide) rfl,
  List.forall_mem_cons.mpr ⟨fun X => zs_iret X.1 X.2.1 X.2.2.1 dX0_numberAt_20,
  fun _ h9 => nomatch h9⟩⟩⟩⟩⟩⟩⟩⟩⟩⟩⟩
theorem zG_X0_numberAt_0 : ∀ q ∈ zT_X0_numberAt_0, zmono q.2 := List.forall_mem_cons.mpr ⟨zm_aload 0 1, List.forall_mem_cons.mpr ⟨zm_iload 1 2, List.forall_mem_cons.mpr ⟨zm_callv 0 1 2 5, List.forall_mem_cons.mpr ⟨zm_ifeq 19 8, List.forall_mem_cons.mpr ⟨zm_aload 0 9, List.forall_mem_cons.mpr ⟨zm_getf 0 0 12, List.forall_mem_cons.mpr ⟨zm_iload 1 13, List.forall_mem_cons.mpr ⟨zm_call 116 2 16, List.forall_mem_cons.mpr ⟨zm_goto 20 [], List.forall_mem_cons.mpr ⟨zm_iconst (-1) 20, List.forall_mem_cons.mpr ⟨zm_iret, fun _ h9 => nomatch h9⟩⟩⟩⟩⟩⟩⟩⟩⟩⟩⟩
theorem zE_X0_numberAt : ∀ L ∈ zT_X0_numberAt, ∀ q ∈ L, zEnt yX0_numberAt cX0_numberAt 2 (some .int) [] { frames := 1, cells := 0, slots := 0, locals := 21 } q := List.forall_mem_cons.mpr ⟨zE_X0_numberAt_0, fun _ h9 => nomatch h9⟩
theorem zG_X0_numberAt : ∀ L ∈ zT_X0_numberAt, ∀ q ∈ L, zmono q.2 := List.forall_mem_cons.mpr ⟨zG_X0_numberAt_0, fun _ h9 => nomatch h9⟩
set_option maxRecDepth 100000 in
theorem zE_X0_contentAt_0 : ∀ q ∈ zT_X0_contentAt_0, zEnt yX0_contentAt cX0_contentAt 2 (some .int) [] { frames := 1, cells := 0, slots := 0, locals := 21 } q := List.forall_mem_cons.mpr ⟨fun X => zs_aload_n X.1 dX0_contentAt_0 rfl rfl,
  List.forall_mem_cons.mpr ⟨fun X => zs_iload_n X.1 dX0_contentAt_1 rfl rfl,
  List.forall_mem_cons.mpr ⟨fun X => zs_callV (Cn := RX0) X.1 zNw_ok (fun _ h9 => Or.inr h9) X.2.2.2.2.2.1 X.2.2.2.2.2.2.1 zcal_1 rfl ⟨rfl, rfl⟩ wm_6 rfl wm_7 wm_8 dX0_contentAt_2 rfl,
  List.forall_mem_cons.mpr ⟨fun X => zs_ifeq X.1 dX0_contentAt_5 (by decide) rfl,
  List.forall_mem_cons.mpr ⟨fun X => zs_aload_n X.1 dX0_contentAt_8 rfl rfl,
  List.forall_mem_cons.mpr ⟨fun X => zs_getf (T := TX0) (N := 3) (k := 1) X.1 X.2.2.2.2.2.1 uX0_in rfl (by decide) wm_5 rfl dX0_contentAt_9 rfl,
  List.forall_mem_cons.mpr ⟨fun X => zs_iload_n X.1 dX0_contentAt_12 rfl rfl,
  List.forall_mem_cons.mpr ⟨fun X => zs_callSN (host := "DraftMerge") X.1 zNw_ok (fun _ h9 => Or.inr h9) X.2.2.2.2.2.1 X.2.2.2.2.2.2.1 zcal_116 rfl ⟨rfl, rfl⟩ (by decide +kernel) wm_9 dX0_contentAt_13 rfl,
  List.forall_mem_cons.mpr ⟨fun X => zs_goto X.1 dX0_contentAt_16 (by decide),
  List.forall_mem_cons.mpr ⟨fun X => zs_iconst X.1 dX0_contentAt_19 (by decide) rfl,
  List.forall_mem_cons.mpr ⟨fun X => zs_iret X.1 X.2.1 X.2.2.1 dX0_contentAt_20,
  fun _ h9 => nomatch h9⟩⟩⟩⟩⟩⟩⟩⟩⟩⟩⟩
theorem zG_X0_contentAt_0 : ∀ q ∈ zT_X0_contentAt_0, zmono q.2 := List.forall_mem_cons.mpr ⟨zm_aload 0 1, List.forall_mem_cons.mpr ⟨zm_iload 1 2, List.forall_mem_cons.mpr ⟨zm_callv 0 1 2 5, List.forall_mem_cons.mpr ⟨zm_ifeq 19 8, List.forall_mem_cons.mpr ⟨zm_aload 0 9, List.forall_mem_cons.mpr ⟨zm_getf 0 1 12, List.forall_mem_cons.mpr ⟨zm_iload 1 13, List.forall_mem_cons.mpr ⟨zm_call 116 2 16, List.forall_mem_cons.mpr ⟨zm_goto 20 [], List.forall_mem_cons.mpr ⟨zm_iconst (-1) 20, List.forall_mem_cons.mpr ⟨zm_iret, fun _ h9 => nomatch h9⟩⟩⟩⟩⟩⟩⟩⟩⟩⟩⟩
theorem zE_X0_contentAt : ∀ L ∈ zT_X0_contentAt, ∀ q ∈ L, zEnt yX0_contentAt cX0_contentAt 2 (some .int) [] { frames := 1, cells := 0, slots := 0, locals := 21 } q := List.forall_mem_cons.mpr ⟨zE_X0_contentAt_0, fun _ h9 => nomatch h9⟩
theorem zG_X0_contentAt : ∀ L ∈ zT_X0_contentAt, ∀ q ∈ L, zmono q.2 := List.forall_mem_cons.mpr ⟨zG_X0_contentAt_0, fun _ h9 => nomatch h9⟩
set_option maxRecDepth 100000 in
theorem zE_X0_find_0 : ∀ q ∈ zT_X0_find_0, zEnt yX0_find cX0_find 3 (some .int) [] { frames := 2, cells := 0, slots := 0, locals := 42 } q := List.forall_mem_cons.mpr ⟨fun X => zs_iconst X.1 dX0_find_0 (by decide) rfl,
  List.forall_mem_cons.mpr ⟨fun X => zs_istore_n X.1 dX0_find_1 rfl (Nat.le_of_ble_eq_true rfl) rfl,
  List.forall_mem_cons.mpr ⟨fun X => zs_iload_n X.1 dX0_find_2 rfl rfl,
  List.forall_mem_cons.mpr ⟨fun X => zs_aload_n X.1 dX0_find_3 rfl rfl,
  List.forall_mem_cons.mpr ⟨fun X => zs_getf (T := TX0) (N := 3) (k := 2) X.1 X.2.2.2.2.2.1 uX0_in rfl (by decide) wm_3 rfl dX0_find_4 rfl,
  List.forall_mem_cons.mpr ⟨fun X => zs_icmpge X.1 dX0_find_7 (by decide) rfl,
  List.forall_mem_cons.mpr ⟨fun X => zs_aload_n X.1 dX0_find_10 rfl rfl,
  List.forall_mem_cons.mpr ⟨fun X => zs_iload_n X.1 dX0_find_11 rfl rfl,
  List.forall_mem_cons.mpr ⟨fun X => zs_callV (Cn := RX0) X.1 zNw_ok (fun _ h9 => Or.inr h9) X.2.2.2.2.2.1 X.2.2.2.2.2.2.1 zcal_3 rfl ⟨rfl, rfl⟩ wm_10 rfl wm_11 wm_12 dX0_find_12 rfl,
  List.forall_mem_cons.mpr ⟨fun X => zs_iload_n X.1 dX0_find_15 rfl rfl,
  List.forall_mem_cons.mpr ⟨fun X => zs_icmpne X.1 dX0_find_16 (by decide) rfl,
  List.forall_mem_cons.mpr ⟨fun X => zs_iload_n X.1 dX0_find_19 rfl rfl,
  List.forall_mem_cons.mpr ⟨fun X => zs_iret X.1 X.2.1 X.2.2.1 dX0_find_20,
  List.forall_mem_cons.mpr ⟨fun X => zs_iinc X.1 dX0_find_21 (Nat.le_of_ble_eq_true rfl) rfl,
  List.forall_mem_cons.mpr ⟨fun X => zs_goto X.1 dX0_find_24 (by decide),
  List.forall_mem_cons.mpr ⟨fun X => zs_iconst X.1 dX0_find_27 (by decide) rfl,
  List.forall_mem_cons.mpr ⟨fun X => zs_iret X.1 X.2.1 X.2.2.1 dX0_find_28,
  fun _ h9 => nomatch h9⟩⟩⟩⟩⟩⟩⟩⟩⟩⟩⟩⟩⟩⟩⟩⟩⟩
theorem zG_X0_find_0 : ∀ q ∈ zT_X0_find_0, zmono q.2 := List.forall_mem_cons.mpr ⟨zm_iconst 0 1, List.forall_mem_cons.mpr ⟨zm_istore 2 2, List.forall_mem_cons.mpr ⟨zm_iload 2 3, List.forall_mem_cons.mpr ⟨zm_aload 0 4, List.forall_mem_cons.mpr ⟨zm_getf 0 2 7, List.forall_mem_cons.mpr ⟨zm_icmpge 27 10, List.forall_mem_cons.mpr ⟨zm_aload 0 11, List.forall_mem_cons.mpr ⟨zm_iload 2 12, List.forall_mem_cons.mpr ⟨zm_callv 0 3 2 15, List.forall_mem_cons.mpr ⟨zm_iload 1 16, List.forall_mem_cons.mpr ⟨zm_icmpne 21 19, List.forall_mem_cons.mpr ⟨zm_iload 2 20, List.forall_mem_cons.mpr ⟨zm_iret, List.forall_mem_cons.mpr ⟨zm_iinc 2 1 24, List.forall_mem_cons.mpr ⟨zm_goto 2 [], List.forall_mem_cons.mpr ⟨zm_iconst (-1) 28, List.forall_mem_cons.mpr ⟨zm_iret, fun _ h9 => nomatch h9⟩⟩⟩⟩⟩⟩⟩⟩⟩⟩⟩⟩⟩⟩⟩⟩⟩
theorem zE_X0_find : ∀ L ∈ zT_X0_find, ∀ q ∈ L, zEnt yX0_find cX0_find 3 (some .int) [] { frames := 2, cells := 0, slots := 0, locals := 42 } q := List.forall_mem_cons.mpr ⟨zE_X0_find_0, fun _ h9 => nomatch h9⟩
theorem zG_X0_find : ∀ L ∈ zT_X0_find, ∀ q ∈ L, zmono q.2 := List.forall_mem_cons.mpr ⟨zG_X0_find_0, fun _ h9 => nomatch h9⟩
set_option maxRecDepth 100000 in
theorem zE_X0_contentOf_0 : ∀ q ∈ zT_X0_contentOf_0, zEnt yX0_contentOf cX0_contentOf 2 (some .int) [] { frames := 3, cells := 0, slots := 0, locals := 64 } q := List.forall_mem_cons.mpr ⟨fun X => zs_aload_n X.1 dX0_contentOf_0 rfl rfl,
  List.forall_mem_cons.mpr ⟨fun X => zs_aload_n X.1 dX0_contentOf_1 rfl rfl,
  List.forall_mem_cons.mpr ⟨fun X => zs_iload_n X.1 dX0_contentOf_2 rfl rfl,
  List.forall_mem_cons.mpr ⟨fun X => zs_callV (Cn := RX0) X.1 zNw_ok (fun _ h9 => Or.inr h9) X.2.2.2.2.2.1 X.2.2.2.2.2.2.1 zcal_5 rfl ⟨rfl, rfl⟩ wm_13 rfl wm_14 wm_15 dX0_contentOf_3 rfl,
  List.forall_mem_cons.mpr ⟨fun X => zs_callV (Cn := RX0) X.1 zNw_ok (fun _ h9 => Or.inr h9) X.2.2.2.2.2.1 X.2.2.2.2.2.2.1 zcal_4 rfl ⟨rfl, rfl⟩ wm_16 rfl wm_17 wm_18 dX0_contentOf_6 rfl,
  List.forall_mem_cons.mpr ⟨fun X => zs_iret X.1 X.2.1 X.2.2.1 dX0_contentOf_9,
  fun _ h9 => nomatch h9⟩⟩⟩⟩⟩⟩
theorem zG_X0_contentOf_0 : ∀ q ∈ zT_X0_contentOf_0, zmono q.2 := List.forall_mem_cons.mpr ⟨zm_aload 0 1, List.forall_mem_cons.mpr ⟨zm_aload 0 2, List.forall_mem_cons.mpr ⟨zm_iload 1 3, List.forall_mem_cons.mpr ⟨zm_callv 0 5 2 6, List.forall_mem_cons.mpr ⟨zm_callv 0 4 2 9, List.forall_mem_cons.mpr ⟨zm_iret, fun _ h9 => nomatch h9⟩⟩⟩⟩⟩⟩
theorem zE_X0_contentOf : ∀ L ∈ zT_X0_contentOf, ∀ q ∈ L, zEnt yX0_contentOf cX0_contentOf 2 (some .int) [] { frames := 3, cells := 0, slots := 0, locals := 64 } q := List.forall_mem_cons.mpr ⟨zE_X0_contentOf_0, fun _ h9 => nomatch h9⟩
theorem zG_X0_contentOf : ∀ L ∈ zT_X0_contentOf, ∀ q ∈ L, zmono q.2 := List.forall_mem_cons.mpr ⟨zG_X0_contentOf_0, fun _ h9 => nomatch h9⟩
set_option maxRecDepth 100000 in
theorem zE_X0_replaceContent_0 : ∀ q ∈ zT_X0_replaceContent_0, zEnt yX0_replaceContent cX0_replaceContent 4 (some .int) [] { frames := 2, cells := 0, slots := 0, locals := 42 } q := List.forall_mem_cons.mpr ⟨fun X => zs_aload_n X.1 dX0_replaceContent_0 rfl rfl,
  List.forall_mem_cons.mpr ⟨fun X => zs_iload_n X.1 dX0_replaceContent_1 rfl rfl,
  List.forall_mem_cons.mpr ⟨fun X => zs_callV (Cn := RX0) X.1 zNw_ok (fun _ h9 => Or.inr h9) X.2.2.2.2.2.1 X.2.2.2.2.2.2.1 zcal_4 rfl ⟨rfl, rfl⟩ wm_16 rfl wm_17 wm_18 dX0_replaceContent_2 rfl,
  List.forall_mem_cons.mpr ⟨fun X => zs_istore_n X.1 dX0_replaceContent_5 rfl (Nat.le_of_ble_eq_true rfl) rfl,
  List.forall_mem_cons.mpr ⟨fun X => zs_aload_n X.1 dX0_replaceContent_6 rfl rfl,
  List.forall_mem_cons.mpr ⟨fun X => zs_getf (T := TX0) (N := 3) (k := 1) X.1 X.2.2.2.2.2.1 uX0_in rfl (by decide) wm_5 rfl dX0_replaceContent_7 rfl,
  List.forall_mem_cons.mpr ⟨fun X => zs_iload_n X.1 dX0_replaceContent_10 rfl rfl,
  List.forall_mem_cons.mpr ⟨fun X => zs_iload_n X.1 dX0_replaceContent_11 rfl rfl,
  List.forall_mem_cons.mpr ⟨fun X => zs_callSN (host := "DraftMerge") X.1 zNw_ok (fun _ h9 => Or.inr h9) X.2.2.2.2.2.1 X.2.2.2.2.2.2.1 zcal_117 rfl ⟨rfl, rfl⟩ (by decide +kernel) wm_19 dX0_replaceContent_12 rfl,
  List.forall_mem_cons.mpr ⟨fun X => zs_iload_n X.1 dX0_replaceContent_15 rfl rfl,
  List.forall_mem_cons.mpr ⟨fun X => zs_iret X.1 X.2.1 X.2.2.1 dX0_replaceContent_16,
  fun _ h9 => nomatch h9⟩⟩⟩⟩⟩⟩⟩⟩⟩⟩⟩
theorem zG_X0_replaceContent_0 : ∀ q ∈ zT_X0_replaceContent_0, zmono q.2 := List.forall_mem_cons.mpr ⟨zm_aload 0 1, List.forall_mem_cons.mpr ⟨zm_iload 1 2, List.forall_mem_cons.mpr ⟨zm_callv 0 4 2 5, List.forall_mem_cons.mpr ⟨zm_istore 3 6, List.forall_mem_cons.mpr ⟨zm_aload 0 7, List.forall_mem_cons.mpr ⟨zm_getf 0 1 10, List.forall_mem_cons.mpr ⟨zm_iload 1 11, List.forall_mem_cons.mpr ⟨zm_iload 2 12, List.forall_mem_cons.mpr ⟨zm_call 117 3 15, List.forall_mem_cons.mpr ⟨zm_iload 3 16, List.forall_mem_cons.mpr ⟨zm_iret, fun _ h9 => nomatch h9⟩⟩⟩⟩⟩⟩⟩⟩⟩⟩⟩
theorem zE_X0_replaceContent : ∀ L ∈ zT_X0_replaceContent, ∀ q ∈ L, zEnt yX0_replaceContent cX0_replaceContent 4 (some .int) [] { frames := 2, cells := 0, slots := 0, locals := 42 } q := List.forall_mem_cons.mpr ⟨zE_X0_replaceContent_0, fun _ h9 => nomatch h9⟩
theorem zG_X0_replaceContent : ∀ L ∈ zT_X0_replaceContent, ∀ q ∈ L, zmono q.2 := List.forall_mem_cons.mpr ⟨zG_X0_replaceContent_0, fun _ h9 => nomatch h9⟩
set_option maxRecDepth 100000 in
theorem zE_X0_putIn_0 : ∀ q ∈ zT_X0_putIn_0, zEnt yX0_putIn cX0_putIn 5 none [] { frames := 1, cells := 0, slots := 0, locals := 22 } q := List.forall_mem_cons.mpr ⟨fun X => zs_aload_n X.1 dX0_putIn_0 rfl rfl,
  List.forall_mem_cons.mpr ⟨fun X => zs_callV (Cn := RX0) X.1 zNw_ok (fun _ h9 => Or.inr h9) X.2.2.2.2.2.1 X.2.2.2.2.2.2.1 zcal_2 rfl ⟨rfl, rfl⟩ wm_20 rfl wm_21 wm_22 dX0_putIn_1 rfl,
  List.forall_mem_cons.mpr ⟨fun X => zs_ifne X.1 dX0_putIn_4 (by decide) rfl,
  List.forall_mem_cons.mpr ⟨fun X => zs_iload_n X.1 dX0_putIn_7 rfl rfl,
  List.forall_mem_cons.mpr ⟨fun X => zs_iflt X.1 dX0_putIn_8 (by decide) rfl,
  List.forall_mem_cons.mpr ⟨fun X => zs_iload_n X.1 dX0_putIn_11 rfl rfl,
  List.forall_mem_cons.mpr ⟨fun X => zs_aload_n X.1 dX0_putIn_12 rfl rfl,
  List.forall_mem_cons.mpr ⟨fun X => zs_getf (T := TX0) (N := 3) (k := 2) X.1 X.2.2.2.2.2.1 uX0_in rfl (by decide) wm_3 rfl dX0_putIn_13 rfl,
  List.forall_mem_cons.mpr ⟨fun X => zs_icmple X.1 dX0_putIn_16 (by decide) rfl,
  List.forall_mem_cons.mpr ⟨fun X => zs_vret X.1 X.2.1 X.2.2.1 dX0_putIn_19,
  List.forall_mem_cons.mpr ⟨fun X => zs_aload_n X.1 dX0_putIn_20 rfl rfl,
  List.forall_mem_cons.mpr ⟨fun X => zs_getf (T := TX0) (N := 3) (k := 2) X.1 X.2.2.2.2.2.1 uX0_in rfl (by decide) wm_3 rfl dX0_putIn_21 rfl,
  List.forall_mem_cons.mpr ⟨fun X => zs_istore X.1 dX0_putIn_24 (Nat.le_of_ble_eq_true rfl) rfl,
  List.forall_mem_cons.mpr ⟨fun X => zs_iload X.1 dX0_putIn_26 rfl,
  List.forall_mem_cons.mpr ⟨fun X => zs_iload_n X.1 dX0_putIn_28 rfl rfl,
  List.forall_mem_cons.mpr ⟨fun X => zs_icmple X.1 dX0_putIn_29 (by decide) rfl,
  List.forall_mem_cons.mpr ⟨fun X => zs_aload_n X.1 dX0_putIn_32 rfl rfl,
  List.forall_mem_cons.mpr ⟨fun X => zs_getf (T := TX0) (N := 3) (k := 0) X.1 X.2.2.2.2.2.1 uX0_in rfl (by decide) wm_4 rfl dX0_putIn_33 rfl,
  List.forall_mem_cons.mpr ⟨fun X => zs_iload X.1 dX0_putIn_36 rfl,
  List.forall_mem_cons.mpr ⟨fun X => zs_aload_n X.1 dX0_putIn_38 rfl rfl,
  List.forall_mem_cons.mpr ⟨fun X => zs_getf (T := TX0) (N := 3) (k := 0) X.1 X.2.2.2.2.2.1 uX0_in rfl (by decide) wm_4 rfl dX0_putIn_39 rfl,
  List.forall_mem_cons.mpr ⟨fun X => zs_iload X.1 dX0_putIn_42 rfl,
  List.forall_mem_cons.mpr ⟨fun X => zs_iconst X.1 dX0_putIn_44 (by decide) rfl,
  List.forall_mem_cons.mpr ⟨fun X => zs_isub X.1 dX0_putIn_45 rfl,
  List.forall_mem_cons.mpr ⟨fun X => zs_callSN (host := "DraftMerge") X.1 zNw_ok (fun _ h9 => Or.inr h9) X.2.2.2.2.2.1 X.2.2.2.2.2.2.1 zcal_116 rfl ⟨rfl, rfl⟩ (by decide +kernel) wm_9 dX0_putIn_46 rfl,
  List.forall_mem_cons.mpr ⟨fun X => zs_callSN (host := "DraftMerge") X.1 zNw_ok (fun _ h9 => Or.inr h9) X.2.2.2.2.2.1 X.2.2.2.2.2.2.1 zcal_117 rfl ⟨rfl, rfl⟩ (by decide +kernel) wm_19 dX0_putIn_49 rfl,
  List.forall_mem_cons.mpr ⟨fun X => zs_aload_n X.1 dX0_putIn_52 rfl rfl,
  List.forall_mem_cons.mpr ⟨fun X => zs_getf (T := TX0) (N := 3) (k := 1) X.1 X.2.2.2.2.2.1 uX0_in rfl (by decide) wm_5 rfl dX0_putIn_53 rfl,
  List.forall_mem_cons.mpr ⟨fun X => zs_iload X.1 dX0_putIn_56 rfl,
  List.forall_mem_cons.mpr ⟨fun X => zs_aload_n X.1 dX0_putIn_58 rfl rfl,
  List.forall_mem_cons.mpr ⟨fun X => zs_getf (T := TX0) (N := 3) (k := 1) X.1 X.2.2.2.2.2.1 uX0_in rfl (by decide) wm_5 rfl dX0_putIn_59 rfl,
  List.forall_mem_cons.mpr ⟨fun X => zs_iload X.1 dX0_putIn_62 rfl,
  fun _ h9 => nomatch h9⟩⟩⟩⟩⟩⟩⟩⟩⟩⟩⟩⟩⟩⟩⟩⟩⟩⟩⟩⟩⟩⟩⟩⟩⟩⟩⟩⟩⟩⟩⟩⟩
theorem zG_X0_putIn_0 : ∀ q ∈ zT_X0_putIn_0, zmono q.2 := List.forall_mem_cons.mpr ⟨zm_aload 0 1, List.forall_mem_cons.mpr ⟨zm_callv 0 2 1 4, List.forall_mem_cons.mpr ⟨zm_ifne 19 7, List.forall_mem_cons.mpr ⟨zm_iload 1 8, List.forall_mem_cons.mpr ⟨zm_iflt 19 11, List.forall_mem_cons.mpr ⟨zm_iload 1 12, List.forall_mem_cons.mpr ⟨zm_aload 0 13, List.forall_mem_cons.mpr ⟨zm_getf 0 2 16, List.forall_mem_cons.mpr ⟨zm_icmple 20 19, List.forall_mem_cons.mpr ⟨zm_vret, List.forall_mem_cons.mpr ⟨zm_aload 0 21, List.forall_mem_cons.mpr ⟨zm_getf 0 2 24, List.forall_mem_cons.mpr ⟨zm_istore 4 26, List.forall_mem_cons.mpr ⟨zm_iload 4 28, List.forall_mem_cons.mpr ⟨zm_iload 1 29, List.forall_mem_cons.mpr ⟨zm_icmple 78 32, List.forall_mem_cons.mpr ⟨zm_aload 0 33, List.forall_mem_cons.mpr ⟨zm_getf 0 0 36, List.forall_mem_cons.mpr ⟨zm_iload 4 38, List.forall_mem_cons.mpr ⟨zm_aload 0 39, List.forall_mem_cons.mpr ⟨zm_getf 0 0 42, List.forall_mem_cons.mpr ⟨zm_iload 4 44, List.forall_mem_cons.mpr ⟨zm_iconst 1 45, List.forall_mem_cons.mpr ⟨zm_isub 46, List.forall_mem_cons.mpr ⟨zm_call 116 2 49, List.forall_mem_cons.mpr ⟨zm_call 117 3 52, List.forall_mem_cons.mpr ⟨zm_aload 0 53, List.forall_mem_cons.mpr ⟨zm_getf 0 1 56, List.forall_mem_cons.mpr ⟨zm_iload 4 58, List.forall_mem_cons.mpr ⟨zm_aload 0 59, List.forall_mem_cons.mpr ⟨zm_getf 0 1 62, List.forall_mem_cons.mpr ⟨zm_iload 4 64, fun _ h9 => nomatch h9⟩⟩⟩⟩⟩⟩⟩⟩⟩⟩⟩⟩⟩⟩⟩⟩⟩⟩⟩⟩⟩⟩⟩⟩⟩⟩⟩⟩⟩⟩⟩⟩
set_option maxRecDepth 100000 in
theorem zE_X0_putIn_1 : ∀ q ∈ zT_X0_putIn_1, zEnt yX0_putIn cX0_putIn 5 none [] { frames := 1, cells := 0, slots := 0, locals := 22 } q := List.forall_mem_cons.mpr ⟨fun X => zs_iconst X.1 dX0_putIn_64 (by decide) rfl,
  List.forall_mem_cons.mpr ⟨fun X => zs_isub X.1 dX0_putIn_65 rfl,
  List.forall_mem_cons.mpr ⟨fun X => zs_callSN (host := "DraftMerge") X.1 zNw_ok (fun _ h9 => Or.inr h9) X.2.2.2.2.2.1 X.2.2.2.2.2.2.1 zcal_116 rfl ⟨rfl, rfl⟩ (by decide +kernel) wm_9 dX0_putIn_66 rfl,
  List.forall_mem_cons.mpr ⟨fun X => zs_callSN (host := "DraftMerge") X.1 zNw_ok (fun _ h9 => Or.inr h9) X.2.2.2.2.2.1 X.2.2.2.2.2.2.1 zcal_117 rfl ⟨rfl, rfl⟩ (by decide +kernel) wm_19 dX0_putIn_69 rfl,
  List.forall_mem_cons.mpr ⟨fun X => zs_iinc X.1 dX0_putIn_72 (Nat.le_of_ble_eq_true rfl) rfl,
  List.forall_mem_cons.mpr ⟨fun X => zs_goto X.1 dX0_putIn_75 (by decide),
  List.forall_mem_cons.mpr ⟨fun X => zs_aload_n X.1 dX0_putIn_78 rfl rfl,
  List.forall_mem_cons.mpr ⟨fun X => zs_getf (T := TX0) (N := 3) (k := 0) X.1 X.2.2.2.2.2.1 uX0_in rfl (by decide) wm_4 rfl dX0_putIn_79 rfl,
  List.forall_mem_cons.mpr ⟨fun X => zs_iload_n X.1 dX0_putIn_82 rfl rfl,
  List.forall_mem_cons.mpr ⟨fun X => zs_iload_n X.1 dX0_putIn_83 rfl rfl,
  List.forall_mem_cons.mpr ⟨fun X => zs_callSN (host := "DraftMerge") X.1 zNw_ok (fun _ h9 => Or.inr h9) X.2.2.2.2.2.1 X.2.2.2.2.2.2.1 zcal_117 rfl ⟨rfl, rfl⟩ (by decide +kernel) wm_19 dX0_putIn_84 rfl,
  List.forall_mem_cons.mpr ⟨fun X => zs_aload_n X.1 dX0_putIn_87 rfl rfl,
  List.forall_mem_cons.mpr ⟨fun X => zs_getf (T := TX0) (N := 3) (k := 1) X.1 X.2.2.2.2.2.1 uX0_in rfl (by decide) wm_5 rfl dX0_putIn_88 rfl,
  List.forall_mem_cons.mpr ⟨fun X => zs_iload_n X.1 dX0_putIn_91 rfl rfl,
  List.forall_mem_cons.mpr ⟨fun X => zs_iload_n X.1 dX0_putIn_92 rfl rfl,
  List.forall_mem_cons.mpr ⟨fun X => zs_callSN (host := "DraftMerge") X.1 zNw_ok (fun _ h9 => Or.inr h9) X.2.2.2.2.2.1 X.2.2.2.2.2.2.1 zcal_117 rfl ⟨rfl, rfl⟩ (by decide +kernel) wm_19 dX0_putIn_93 rfl,
  List.forall_mem_cons.mpr ⟨fun X => zs_aload_n X.1 dX0_putIn_96 rfl rfl,
  List.forall_mem_cons.mpr ⟨fun X => zs_dup X.1 dX0_putIn_97 rfl,
  List.forall_mem_cons.mpr ⟨fun X => zs_getf (T := TX0) (N := 3) (k := 2) X.1 X.2.2.2.2.2.1 uX0_in rfl (by decide) wm_3 rfl dX0_putIn_98 rfl,
  List.forall_mem_cons.mpr ⟨fun X => zs_iconst X.1 dX0_putIn_101 (by decide) rfl,
  List.forall_mem_cons.mpr ⟨fun X => zs_iadd X.1 dX0_putIn_102 rfl,
  List.forall_mem_cons.mpr ⟨fun X => zs_putf (T := TX0) (N := 3) (k := 2) X.1 X.2.2.2.2.2.1 uX0_in tyX0 tyX0_ok nmX0 rfl (by decide) wm_3 rfl rfl (tyX0_ok 2 (by decide)) dX0_putIn_103 rfl,
  List.forall_mem_cons.mpr ⟨fun X => zs_vret X.1 X.2.1 X.2.2.1 dX0_putIn_106,
  fun _ h9 => nomatch h9⟩⟩⟩⟩⟩⟩⟩⟩⟩⟩⟩⟩⟩⟩⟩⟩⟩⟩⟩⟩⟩⟩⟩
theorem zG_X0_putIn_1 : ∀ q ∈ zT_X0_putIn_1, zmono q.2 := List.forall_mem_cons.mpr ⟨zm_iconst 1 65, List.forall_mem_cons.mpr ⟨zm_isub 66, List.forall_mem_cons.mpr ⟨zm_call 116 2 69, List.forall_mem_cons.mpr ⟨zm_call 117 3 72, List.forall_mem_cons.mpr ⟨zm_iinc 4 (-1) 75, List.forall_mem_cons.mpr ⟨zm_goto 26 [], List.forall_mem_cons.mpr ⟨zm_aload 0 79, List.forall_mem_cons.mpr ⟨zm_getf 0 0 82, List.forall_mem_cons.mpr ⟨zm_iload 1 83, List.forall_mem_cons.mpr ⟨zm_iload 2 84, List.forall_mem_cons.mpr ⟨zm_call 117 3 87, List.forall_mem_cons.mpr ⟨zm_aload 0 88, List.forall_mem_cons.mpr ⟨zm_getf 0 1 91, List.forall_mem_cons.mpr ⟨zm_iload 1 92, List.forall_mem_cons.mpr ⟨zm_iload 3 93, List.forall_mem_cons.mpr ⟨zm_call 117 3 96, List.forall_mem_cons.mpr ⟨zm_aload 0 97, List.forall_mem_cons.mpr ⟨zm_dup 98, List.forall_mem_cons.mpr ⟨zm_getf 0 2 101, List.forall_mem_cons.mpr ⟨zm_iconst 1 102, List.forall_mem_cons.mpr ⟨zm_iadd 103, List.forall_mem_cons.mpr ⟨zm_putf 0 2 .int 106, List.forall_mem_cons.mpr ⟨zm_vret, fun _ h9 => nomatch h9⟩⟩⟩⟩⟩⟩⟩⟩⟩⟩⟩⟩⟩⟩⟩⟩⟩⟩⟩⟩⟩⟩⟩
theorem zE_X0_putIn : ∀ L ∈ zT_X0_putIn, ∀ q ∈ L, zEnt yX0_putIn cX0_putIn 5 none [] { frames := 1, cells := 0, slots := 0, locals := 22 } q := List.forall_mem_cons.mpr ⟨zE_X0_putIn_0, List.forall_mem_cons.mpr ⟨zE_X0_putIn_1, fun _ h9 => nomatch h9⟩⟩
theorem zG_X0_putIn : ∀ L ∈ zT_X0_putIn, ∀ q ∈ L, zmono q.2 := List.forall_mem_cons.mpr ⟨zG_X0_putIn_0, List.forall_mem_cons.mpr ⟨zG_X0_putIn_1, fun _ h9 => nomatch h9⟩⟩
set_option maxRecDepth 100000 in
theorem zE_X0_putLast_0 : ∀ q ∈ zT_X0_putLast_0, zEnt yX0_putLast cX0_putLast 3 none [] { frames := 2, cells := 0, slots := 0, locals := 46 } q := List.forall_mem_cons.mpr ⟨fun X => zs_aload_n X.1 dX0_putLast_0 rfl rfl,
  List.forall_mem_cons.mpr ⟨fun X => zs_aload_n X.1 dX0_putLast_1 rfl rfl,
  List.forall_mem_cons.mpr ⟨fun X => zs_getf (T := TX0) (N := 3) (k := 2) X.1 X.2.2.2.2.2.1 uX0_in rfl (by decide) wm_3 rfl dX0_putLast_2 rfl,
  List.forall_mem_cons.mpr ⟨fun X => zs_iload_n X.1 dX0_putLast_5 rfl rfl,
  List.forall_mem_cons.mpr ⟨fun X => zs_iload_n X.1 dX0_putLast_6 rfl rfl,
  List.forall_mem_cons.mpr ⟨fun X => zs_callV (Cn := RX0) X.1 zNw_ok (fun _ h9 => Or.inr h9) X.2.2.2.2.2.1 X.2.2.2.2.2.2.1 zcal_8 rfl ⟨rfl, rfl⟩ wm_23 rfl wm_24 wm_25 dX0_putLast_7 rfl,
  List.forall_mem_cons.mpr ⟨fun X => zs_vret X.1 X.2.1 X.2.2.1 dX0_putLast_10,
  fun _ h9 => nomatch h9⟩⟩⟩⟩⟩⟩⟩
theorem zG_X0_putLast_0 : ∀ q ∈ zT_X0_putLast_0, zmono q.2 := List.forall_mem_cons.mpr ⟨zm_aload 0 1, List.forall_mem_cons.mpr ⟨zm_aload 0 2, List.forall_mem_cons.mpr ⟨zm_getf 0 2 5, List.forall_mem_cons.mpr ⟨zm_iload 1 6, List.forall_mem_cons.mpr ⟨zm_iload 2 7, List.forall_mem_cons.mpr ⟨zm_callv 0 8 4 10, List.forall_mem_cons.mpr ⟨zm_vret, fun _ h9 => nomatch h9⟩⟩⟩⟩⟩⟩⟩
theorem zE_X0_putLast : ∀ L ∈ zT_X0_putLast, ∀ q ∈ L, zEnt yX0_putLast cX0_putLast 3 none [] { frames := 2, cells := 0, slots := 0, locals := 46 } q := List.forall_mem_cons.mpr ⟨zE_X0_putLast_0, fun _ h9 => nomatch h9⟩
theorem zG_X0_putLast : ∀ L ∈ zT_X0_putLast, ∀ q ∈ L, zmono q.2 := List.forall_mem_cons.mpr ⟨zG_X0_putLast_0, fun _ h9 => nomatch h9⟩
set_option maxRecDepth 100000 in
theorem zE_X0_takeOut_0 : ∀ q ∈ zT_X0_takeOut_0, zEnt yX0_takeOut cX0_takeOut 4 (some .int) [] { frames := 2, cells := 0, slots := 0, locals := 42 } q := List.forall_mem_cons.mpr ⟨fun X => zs_aload_n X.1 dX0_takeOut_0 rfl rfl,
  List.forall_mem_cons.mpr ⟨fun X => zs_iload_n X.1 dX0_takeOut_1 rfl rfl,
  List.forall_mem_cons.mpr ⟨fun X => zs_callV (Cn := RX0) X.1 zNw_ok (fun _ h9 => Or.inr h9) X.2.2.2.2.2.1 X.2.2.2.2.2.2.1 zcal_3 rfl ⟨rfl, rfl⟩ wm_10 rfl wm_11 wm_12 dX0_takeOut_2 rfl,
  List.forall_mem_cons.mpr ⟨fun X => zs_istore_n X.1 dX0_takeOut_5 rfl (Nat.le_of_ble_eq_true rfl) rfl,
  List.forall_mem_cons.mpr ⟨fun X => zs_aload_n X.1 dX0_takeOut_6 rfl rfl,
  List.forall_mem_cons.mpr ⟨fun X => zs_iload_n X.1 dX0_takeOut_7 rfl rfl,
  List.forall_mem_cons.mpr ⟨fun X => zs_callV (Cn := RX0) X.1 zNw_ok (fun _ h9 => Or.inr h9) X.2.2.2.2.2.1 X.2.2.2.2.2.2.1 zcal_1 rfl ⟨rfl, rfl⟩ wm_6 rfl wm_7 wm_8 dX0_takeOut_8 rfl,
  List.forall_mem_cons.mpr ⟨fun X => zs_ifne X.1 dX0_takeOut_11 (by decide) rfl,
  List.forall_mem_cons.mpr ⟨fun X => zs_iload_n X.1 dX0_takeOut_14 rfl rfl,
  List.forall_mem_cons.mpr ⟨fun X => zs_iret X.1 X.2.1 X.2.2.1 dX0_takeOut_15,
  List.forall_mem_cons.mpr ⟨fun X => zs_aload_n X.1 dX0_takeOut_16 rfl rfl,
  List.forall_mem_cons.mpr ⟨fun X => zs_dup X.1 dX0_takeOut_17 rfl,
  List.forall_mem_cons.mpr ⟨fun X => zs_getf (T := TX0) (N := 3) (k := 2) X.1 X.2.2.2.2.2.1 uX0_in rfl (by decide) wm_3 rfl dX0_takeOut_18 rfl,
  List.forall_mem_cons.mpr ⟨fun X => zs_iconst X.1 dX0_takeOut_21 (by decide) rfl,
  List.forall_mem_cons.mpr ⟨fun X => zs_isub X.1 dX0_takeOut_22 rfl,
  List.forall_mem_cons.mpr ⟨fun X => zs_putf (T := TX0) (N := 3) (k := 2) X.1 X.2.2.2.2.2.1 uX0_in tyX0 tyX0_ok nmX0 rfl (by decide) wm_3 rfl rfl (tyX0_ok 2 (by decide)) dX0_takeOut_23 rfl,
  List.forall_mem_cons.mpr ⟨fun X => zs_iload_n X.1 dX0_takeOut_26 rfl rfl,
  List.forall_mem_cons.mpr ⟨fun X => zs_istore_n X.1 dX0_takeOut_27 rfl (Nat.le_of_ble_eq_true rfl) rfl,
  List.forall_mem_cons.mpr ⟨fun X => zs_iload_n X.1 dX0_takeOut_28 rfl rfl,
  List.forall_mem_cons.mpr ⟨fun X => zs_aload_n X.1 dX0_takeOut_29 rfl rfl,
  List.forall_mem_cons.mpr ⟨fun X => zs_getf (T := TX0) (N := 3) (k := 2) X.1 X.2.2.2.2.2.1 uX0_in rfl (by decide) wm_3 rfl dX0_takeOut_30 rfl,
  List.forall_mem_cons.mpr ⟨fun X => zs_icmpge X.1 dX0_takeOut_33 (by decide) rfl,
  List.forall_mem_cons.mpr ⟨fun X => zs_aload_n X.1 dX0_takeOut_36 rfl rfl,
  List.forall_mem_cons.mpr ⟨fun X => zs_getf (T := TX0) (N := 3) (k := 0) X.1 X.2.2.2.2.2.1 uX0_in rfl (by decide) wm_4 rfl dX0_takeOut_37 rfl,
  List.forall_mem_cons.mpr ⟨fun X => zs_iload_n X.1 dX0_takeOut_40 rfl rfl,
  List.forall_mem_cons.mpr ⟨fun X => zs_aload_n X.1 dX0_takeOut_41 rfl rfl,
  List.forall_mem_cons.mpr ⟨fun X => zs_getf (T := TX0) (N := 3) (k := 0) X.1 X.2.2.2.2.2.1 uX0_in rfl (by decide) wm_4 rfl dX0_takeOut_42 rfl,
  List.forall_mem_cons.mpr ⟨fun X => zs_iload_n X.1 dX0_takeOut_45 rfl rfl,
  List.forall_mem_cons.mpr ⟨fun X => zs_iconst X.1 dX0_takeOut_46 (by decide) rfl,
  List.forall_mem_cons.mpr ⟨fun X => zs_iadd X.1 dX0_takeOut_47 rfl,
  List.forall_mem_cons.mpr ⟨fun X => zs_callSN (host := "DraftMerge") X.1 zNw_ok (fun _ h9 => Or.inr h9) X.2.2.2.2.2.1 X.2.2.2.2.2.2.1 zcal_116 rfl ⟨rfl, rfl⟩ (by decide +kernel) wm_9 dX0_takeOut_48 rfl,
  List.forall_mem_cons.mpr ⟨fun X => zs_callSN (host := "DraftMerge") X.1 zNw_ok (fun _ h9 => Or.inr h9) X.2.2.2.2.2.1 X.2.2.2.2.2.2.1 zcal_117 rfl ⟨rfl, rfl⟩ (by decide +kernel) wm_19 dX0_takeOut_51 rfl,
  List.forall_mem_cons.mpr ⟨fun X => zs_aload_n X.1 dX0_takeOut_54 rfl rfl,
  List.forall_mem_cons.mpr ⟨fun X => zs_getf (T := TX0) (N := 3) (k := 1) X.1 X.2.2.2.2.2.1 uX0_in rfl (by decide) wm_5 rfl dX0_takeOut_55 rfl,
  List.forall_mem_cons.mpr ⟨fun X => zs_iload_n X.1 dX0_takeOut_58 rfl rfl,
  List.forall_mem_cons.mpr ⟨fun X => zs_aload_n X.1 dX0_takeOut_59 rfl rfl,
  List.forall_mem_cons.mpr ⟨fun X => zs_getf (T := TX0) (N := 3) (k := 1) X.1 X.2.2.2.2.2.1 uX0_in rfl (by decide) wm_5 rfl dX0_takeOut_60 rfl,
  List.forall_mem_cons.mpr ⟨fun X => zs_iload_n X.1 dX0_takeOut_63 rfl rfl,
  fun _ h9 => nomatch h9⟩⟩⟩⟩⟩⟩⟩⟩⟩⟩⟩⟩⟩⟩⟩⟩⟩⟩⟩⟩⟩⟩⟩⟩⟩⟩⟩⟩⟩⟩⟩⟩⟩⟩⟩⟩⟩⟩
theorem zG_X0_takeOut_0 : ∀ q ∈ zT_X0_takeOut_0, zmono q.2 := List.forall_mem_cons.mpr ⟨zm_aload 0 1, List.forall_mem_cons.mpr ⟨zm_iload 1 2, List.forall_mem_cons.mpr ⟨zm_callv 0 3 2 5, List.forall_mem_cons.mpr ⟨zm_istore 2 6, List.forall_mem_cons.mpr ⟨zm_aload 0 7, List.forall_mem_cons.mpr ⟨zm_iload 1 8, List.forall_mem_cons.mpr ⟨zm_callv 0 1 2 11, List.forall_mem_cons.mpr ⟨zm_ifne 16 14, List.forall_mem_cons.mpr ⟨zm_iload 2 15, List.forall_mem_cons.mpr ⟨zm_iret, List.forall_mem_cons.mpr ⟨zm_aload 0 17, List.forall_mem_cons.mpr ⟨zm_dup 18, List.forall_mem_cons.mpr ⟨zm_getf 0 2 21, List.forall_mem_cons.mpr ⟨zm_iconst 1 22, List.forall_mem_cons.mpr ⟨zm_isub 23, List.forall_mem_cons.mpr ⟨zm_putf 0 2 .int 26, List.forall_mem_cons.mpr ⟨zm_iload 1 27, List.forall_mem_cons.mpr ⟨zm_istore 3 28, List.forall_mem_cons.mpr ⟨zm_iload 3 29, List.forall_mem_cons.mpr ⟨zm_aload 0 30, List.forall_mem_cons.mpr ⟨zm_getf 0 2 33, List.forall_mem_cons.mpr ⟨zm_icmpge 78 36, List.forall_mem_cons.mpr ⟨zm_aload 0 37, List.forall_mem_cons.mpr ⟨zm_getf 0 0 40, List.forall_mem_cons.mpr ⟨zm_iload 3 41, List.forall_mem_cons.mpr ⟨zm_aload 0 42, List.forall_mem_cons.mpr ⟨zm_getf 0 0 45, List.forall_mem_cons.mpr ⟨zm_iload 3 46, List.forall_mem_cons.mpr ⟨zm_iconst 1 47, List.forall_mem_cons.mpr ⟨zm_iadd 48, List.forall_mem_cons.mpr ⟨zm_call 116 2 51, List.forall_mem_cons.mpr ⟨zm_call 117 3 54, List.forall_mem_cons.mpr ⟨zm_aload 0 55, List.forall_mem_cons.mpr ⟨zm_getf 0 1 58, List.forall_mem_cons.mpr ⟨zm_iload 3 59, List.forall_mem_cons.mpr ⟨zm_aload 0 60, List.forall_mem_cons.mpr ⟨zm_getf 0 1 63, List.forall_mem_cons.mpr ⟨zm_iload 3 64, fun _ h9 => nomatch h9⟩⟩⟩⟩⟩⟩⟩⟩⟩⟩⟩⟩⟩⟩⟩⟩⟩⟩⟩⟩⟩⟩⟩⟩⟩⟩⟩⟩⟩⟩⟩⟩⟩⟩⟩⟩⟩⟩
set_option maxRecDepth 100000 in
theorem zE_X0_takeOut_1 : ∀ q ∈ zT_X0_takeOut_1, zEnt yX0_takeOut cX0_takeOut 4 (some .int) [] { frames := 2, cells := 0, slots := 0, locals := 42 } q := List.forall_mem_cons.mpr ⟨fun X => zs_iconst X.1 dX0_takeOut_64 (by decide) rfl,
  List.forall_mem_cons.mpr ⟨fun X => zs_iadd X.1 dX0_takeOut_65 rfl,
  List.forall_mem_cons.mpr ⟨fun X => zs_callSN (host := "DraftMerge") X.1 zNw_ok (fun _ h9 => Or.inr h9) X.2.2.2.2.2.1 X.2.2.2.2.2.2.1 zcal_116 rfl ⟨rfl, rfl⟩ (by decide +kernel) wm_9 dX0_takeOut_66 rfl,
  List.forall_mem_cons.mpr ⟨fun X => zs_callSN (host := "DraftMerge") X.1 zNw_ok (fun _ h9 => Or.inr h9) X.2.2.2.2.2.1 X.2.2.2.2.2.2.1 zcal_117 rfl ⟨rfl, rfl⟩ (by decide +kernel) wm_19 dX0_takeOut_69 rfl,
  List.forall_mem_cons.mpr ⟨fun X => zs_iinc X.1 dX0_takeOut_72 (Nat.le_of_ble_eq_true rfl) rfl,
  List.forall_mem_cons.mpr ⟨fun X => zs_goto X.1 dX0_takeOut_75 (by decide),
  List.forall_mem_cons.mpr ⟨fun X => zs_iload_n X.1 dX0_takeOut_78 rfl rfl,
  List.forall_mem_cons.mpr ⟨fun X => zs_iret X.1 X.2.1 X.2.2.1 dX0_takeOut_79,
  fun _ h9 => nomatch h9⟩⟩⟩⟩⟩⟩⟩⟩
theorem zG_X0_takeOut_1 : ∀ q ∈ zT_X0_takeOut_1, zmono q.2 := List.forall_mem_cons.mpr ⟨zm_iconst 1 65, List.forall_mem_cons.mpr ⟨zm_iadd 66, List.forall_mem_cons.mpr ⟨zm_call 116 2 69, List.forall_mem_cons.mpr ⟨zm_call 117 3 72, List.forall_mem_cons.mpr ⟨zm_iinc 3 1 75, List.forall_mem_cons.mpr ⟨zm_goto 28 [], List.forall_mem_cons.mpr ⟨zm_iload 2 79, List.forall_mem_cons.mpr ⟨zm_iret, fun _ h9 => nomatch h9⟩⟩⟩⟩⟩⟩⟩⟩
theorem zE_X0_takeOut : ∀ L ∈ zT_X0_takeOut, ∀ q ∈ L, zEnt yX0_takeOut cX0_takeOut 4 (some .int) [] { frames := 2, cells := 0, slots := 0, locals := 42 } q := List.forall_mem_cons.mpr ⟨zE_X0_takeOut_0, List.forall_mem_cons.mpr ⟨zE_X0_takeOut_1, fun _ h9 => nomatch h9⟩⟩
theorem zG_X0_takeOut : ∀ L ∈ zT_X0_takeOut, ∀ q ∈ L, zmono q.2 := List.forall_mem_cons.mpr ⟨zG_X0_takeOut_0, List.forall_mem_cons.mpr ⟨zG_X0_takeOut_1, fun _ h9 => nomatch h9⟩⟩
set_option maxRecDepth 100000 in
theorem zE_X0_shift_0 : ∀ q ∈ zT_X0_shift_0, zEnt yX0_shift cX0_shift 5 (some .int) [] { frames := 3, cells := 0, slots := 0, locals := 65 } q := List.forall_mem_cons.mpr ⟨fun X => zs_aload_n X.1 dX0_shift_0 rfl rfl,
  List.forall_mem_cons.mpr ⟨fun X => zs_iload_n X.1 dX0_shift_1 rfl rfl,
  List.forall_mem_cons.mpr ⟨fun X => zs_callV (Cn := RX0) X.1 zNw_ok (fun _ h9 => Or.inr h9) X.2.2.2.2.2.1 X.2.2.2.2.2.2.1 zcal_4 rfl ⟨rfl, rfl⟩ wm_16 rfl wm_17 wm_18 dX0_shift_2 rfl,
  List.forall_mem_cons.mpr ⟨fun X => zs_istore_n X.1 dX0_shift_5 rfl (Nat.le_of_ble_eq_true rfl) rfl,
  List.forall_mem_cons.mpr ⟨fun X => zs_aload_n X.1 dX0_shift_6 rfl rfl,
  List.forall_mem_cons.mpr ⟨fun X => zs_iload_n X.1 dX0_shift_7 rfl rfl,
  List.forall_mem_cons.mpr ⟨fun X => zs_callV (Cn := RX0) X.1 zNw_ok (fun _ h9 => Or.inr h9) X.2.2.2.2.2.1 X.2.2.2.2.2.2.1 zcal_10 rfl ⟨rfl, rfl⟩ wm_26 rfl wm_27 wm_28 dX0_shift_8 rfl,
  List.forall_mem_cons.mpr ⟨fun X => zs_istore X.1 dX0_shift_11 (Nat.le_of_ble_eq_true rfl) rfl,
  List.forall_mem_cons.mpr ⟨fun X => zs_aload_n X.1 dX0_shift_13 rfl rfl,
  List.forall_mem_cons.mpr ⟨fun X => zs_iload_n X.1 dX0_shift_14 rfl rfl,
  List.forall_mem_cons.mpr ⟨fun X => zs_iload X.1 dX0_shift_15 rfl,
  List.forall_mem_cons.mpr ⟨fun X => zs_iload_n X.1 dX0_shift_17 rfl rfl,
  List.forall_mem_cons.mpr ⟨fun X => zs_callV (Cn := RX0) X.1 zNw_ok (fun _ h9 => Or.inr h9) X.2.2.2.2.2.1 X.2.2.2.2.2.2.1 zcal_8 rfl ⟨rfl, rfl⟩ wm_23 rfl wm_24 wm_25 dX0_shift_18 rfl,
  List.forall_mem_cons.mpr ⟨fun X => zs_iload X.1 dX0_shift_21 rfl,
  List.forall_mem_cons.mpr ⟨fun X => zs_iret X.1 X.2.1 X.2.2.1 dX0_shift_23,
  fun _ h9 => nomatch h9⟩⟩⟩⟩⟩⟩⟩⟩⟩⟩⟩⟩⟩⟩⟩
theorem zG_X0_shift_0 : ∀ q ∈ zT_X0_shift_0, zmono q.2 := List.forall_mem_cons.mpr ⟨zm_aload 0 1, List.forall_mem_cons.mpr ⟨zm_iload 1 2, List.forall_mem_cons.mpr ⟨zm_callv 0 4 2 5, List.forall_mem_cons.mpr ⟨zm_istore 3 6, List.forall_mem_cons.mpr ⟨zm_aload 0 7, List.forall_mem_cons.mpr ⟨zm_iload 1 8, List.forall_mem_cons.mpr ⟨zm_callv 0 10 2 11, List.forall_mem_cons.mpr ⟨zm_istore 4 13, List.forall_mem_cons.mpr ⟨zm_aload 0 14, List.forall_mem_cons.mpr ⟨zm_iload 2 15, List.forall_mem_cons.mpr ⟨zm_iload 4 17, List.forall_mem_cons.mpr ⟨zm_iload 3 18, List.forall_mem_cons.mpr ⟨zm_callv 0 8 4 21, List.forall_mem_cons.mpr ⟨zm_iload 4 23, List.forall_mem_cons.mpr ⟨zm_iret, fun _ h9 => nomatch h9⟩⟩⟩⟩⟩⟩⟩⟩⟩⟩⟩⟩⟩⟩⟩
theorem zE_X0_shift : ∀ L ∈ zT_X0_shift, ∀ q ∈ L, zEnt yX0_shift cX0_shift 5 (some .int) [] { frames := 3, cells := 0, slots := 0, locals := 65 } q := List.forall_mem_cons.mpr ⟨zE_X0_shift_0, fun _ h9 => nomatch h9⟩
theorem zG_X0_shift : ∀ L ∈ zT_X0_shift, ∀ q ∈ L, zmono q.2 := List.forall_mem_cons.mpr ⟨zG_X0_shift_0, fun _ h9 => nomatch h9⟩
set_option maxRecDepth 100000 in
theorem zE_X0_clear_0 : ∀ q ∈ zT_X0_clear_0, zEnt yX0_clear cX0_clear 1 none [] { frames := 0, cells := 0, slots := 0, locals := 0 } q := List.forall_mem_cons.mpr ⟨fun X => zs_aload_n X.1 dX0_clear_0 rfl rfl,
  List.forall_mem_cons.mpr ⟨fun X => zs_iconst X.1 dX0_clear_1 (by decide) rfl,
  List.forall_mem_cons.mpr ⟨fun X => zs_putf (T := TX0) (N := 3) (k := 2) X.1 X.2.2.2.2.2.1 uX0_in tyX0 tyX0_ok nmX0 rfl (by decide) wm_3 rfl rfl (tyX0_ok 2 (by decide)) dX0_clear_2 rfl,
  List.forall_mem_cons.mpr ⟨fun X => zs_vret X.1 X.2.1 X.2.2.1 dX0_clear_5,
  fun _ h9 => nomatch h9⟩⟩⟩⟩
theorem zG_X0_clear_0 : ∀ q ∈ zT_X0_clear_0, zmono q.2 := List.forall_mem_cons.mpr ⟨zm_aload 0 1, List.forall_mem_cons.mpr ⟨zm_iconst 0 2, List.forall_mem_cons.mpr ⟨zm_putf 0 2 .int 5, List.forall_mem_cons.mpr ⟨zm_vret, fun _ h9 => nomatch h9⟩⟩⟩⟩
theorem zE_X0_clear : ∀ L ∈ zT_X0_clear, ∀ q ∈ L, zEnt yX0_clear cX0_clear 1 none [] { frames := 0, cells := 0, slots := 0, locals := 0 } q := List.forall_mem_cons.mpr ⟨zE_X0_clear_0, fun _ h9 => nomatch h9⟩
theorem zG_X0_clear : ∀ L ∈ zT_X0_clear, ∀ q ∈ L, zmono q.2 := List.forall_mem_cons.mpr ⟨zG_X0_clear_0, fun _ h9 => nomatch h9⟩
set_option maxRecDepth 100000 in
theorem zE_X0_copyFrom_0 : ∀ q ∈ zT_X0_copyFrom_0, zEnt yX0_copyFrom cX0_copyFrom 3 none [] { frames := 2, cells := 0, slots := 0, locals := 42 } q := List.forall_mem_cons.mpr ⟨fun X => zs_aload_n X.1 dX0_copyFrom_0 rfl rfl,
  List.forall_mem_cons.mpr ⟨fun X => zs_aload_n X.1 dX0_copyFrom_1 rfl rfl,
  List.forall_mem_cons.mpr ⟨fun X => zs_getf (T := TX0) (N := 3) (k := 2) X.1 X.2.2.2.2.2.1 uX0_in rfl (by decide) wm_3 rfl dX0_copyFrom_2 rfl,
  List.forall_mem_cons.mpr ⟨fun X => zs_aload_n X.1 dX0_copyFrom_5 rfl rfl,
  List.forall_mem_cons.mpr ⟨fun X => zs_getf (T := TX0) (N := 3) (k := 0) X.1 X.2.2.2.2.2.1 uX0_in rfl (by decide) wm_4 rfl dX0_copyFrom_6 rfl,
  List.forall_mem_cons.mpr ⟨fun X => zs_alen X.1 X.2.2.2.2.2.1 dX0_copyFrom_9 rfl,
  List.forall_mem_cons.mpr ⟨fun X => zs_imin X.1 wm_29 wm_30 wm_31 wm_32 ⟨Nat.le_of_ble_eq_true rfl, Nat.le_of_ble_eq_true rfl⟩ dX0_copyFrom_10 rfl,
  List.forall_mem_cons.mpr ⟨fun X => zs_putf (T := TX0) (N := 3) (k := 2) X.1 X.2.2.2.2.2.1 uX0_in tyX0 tyX0_ok nmX0 rfl (by decide) wm_3 rfl rfl (tyX0_ok 2 (by decide)) dX0_copyFrom_13 rfl,
  List.forall_mem_cons.mpr ⟨fun X => zs_iconst X.1 dX0_copyFrom_16 (by decide) rfl,
  List.forall_mem_cons.mpr ⟨fun X => zs_istore_n X.1 dX0_copyFrom_17 rfl (Nat.le_of_ble_eq_true rfl) rfl,
  List.forall_mem_cons.mpr ⟨fun X => zs_iload_n X.1 dX0_copyFrom_18 rfl rfl,
  List.forall_mem_cons.mpr ⟨fun X => zs_aload_n X.1 dX0_copyFrom_19 rfl rfl,
  List.forall_mem_cons.mpr ⟨fun X => zs_getf (T := TX0) (N := 3) (k := 2) X.1 X.2.2.2.2.2.1 uX0_in rfl (by decide) wm_3 rfl dX0_copyFrom_20 rfl,
  List.forall_mem_cons.mpr ⟨fun X => zs_icmpge X.1 dX0_copyFrom_23 (by decide) rfl,
  List.forall_mem_cons.mpr ⟨fun X => zs_aload_n X.1 dX0_copyFrom_26 rfl rfl,
  List.forall_mem_cons.mpr ⟨fun X => zs_getf (T := TX0) (N := 3) (k := 0) X.1 X.2.2.2.2.2.1 uX0_in rfl (by decide) wm_4 rfl dX0_copyFrom_27 rfl,
  List.forall_mem_cons.mpr ⟨fun X => zs_iload_n X.1 dX0_copyFrom_30 rfl rfl,
  List.forall_mem_cons.mpr ⟨fun X => zs_aload_n X.1 dX0_copyFrom_31 rfl rfl,
  List.forall_mem_cons.mpr ⟨fun X => zs_iload_n X.1 dX0_copyFrom_32 rfl rfl,
  List.forall_mem_cons.mpr ⟨fun X => zs_callV (Cn := RX0) X.1 zNw_ok (fun _ h9 => Or.inr h9) X.2.2.2.2.2.1 X.2.2.2.2.2.2.1 zcal_3 rfl ⟨rfl, rfl⟩ wm_10 rfl wm_11 wm_12 dX0_copyFrom_33 rfl,
  List.forall_mem_cons.mpr ⟨fun X => zs_callSN (host := "DraftMerge") X.1 zNw_ok (fun _ h9 => Or.inr h9) X.2.2.2.2.2.1 X.2.2.2.2.2.2.1 zcal_117 rfl ⟨rfl, rfl⟩ (by decide +kernel) wm_19 dX0_copyFrom_36 rfl,
  List.forall_mem_cons.mpr ⟨fun X => zs_aload_n X.1 dX0_copyFrom_39 rfl rfl,
  List.forall_mem_cons.mpr ⟨fun X => zs_getf (T := TX0) (N := 3) (k := 1) X.1 X.2.2.2.2.2.1 uX0_in rfl (by decide) wm_5 rfl dX0_copyFrom_40 rfl,
  List.forall_mem_cons.mpr ⟨fun X => zs_iload_n X.1 dX0_copyFrom_43 rfl rfl,
  List.forall_mem_cons.mpr ⟨fun X => zs_aload_n X.1 dX0_copyFrom_44 rfl rfl,
  List.forall_mem_cons.mpr ⟨fun X => zs_iload_n X.1 dX0_copyFrom_45 rfl rfl,
  List.forall_mem_cons.mpr ⟨fun X => zs_callV (Cn := RX0) X.1 zNw_ok (fun _ h9 => Or.inr h9) X.2.2.2.2.2.1 X.2.2.2.2.2.2.1 zcal_4 rfl ⟨rfl, rfl⟩ wm_16 rfl wm_17 wm_18 dX0_copyFrom_46 rfl,
  List.forall_mem_cons.mpr ⟨fun X => zs_callSN (host := "DraftMerge") X.1 zNw_ok (fun _ h9 => Or.inr h9) X.2.2.2.2.2.1 X.2.2.2.2.2.2.1 zcal_117 rfl ⟨rfl, rfl⟩ (by decide +kernel) wm_19 dX0_copyFrom_49 rfl,
  List.forall_mem_cons.mpr ⟨fun X => zs_iinc X.1 dX0_copyFrom_52 (Nat.le_of_ble_eq_true rfl) rfl,
  List.forall_mem_cons.mpr ⟨fun X => zs_goto X.1 dX0_copyFrom_55 (by decide),
  List.forall_mem_cons.mpr ⟨fun X => zs_vret X.1 X.2.1 X.2.2.1 dX0_copyFrom_58,
  fun _ h9 => nomatch h9⟩⟩⟩⟩⟩⟩⟩⟩⟩⟩⟩⟩⟩⟩⟩⟩⟩⟩⟩⟩⟩⟩⟩⟩⟩⟩⟩⟩⟩⟩⟩
theorem zG_X0_copyFrom_0 : ∀ q ∈ zT_X0_copyFrom_0, zmono q.2 := List.forall_mem_cons.mpr ⟨zm_aload 0 1, List.forall_mem_cons.mpr ⟨zm_aload 1 2, List.forall_mem_cons.mpr ⟨zm_getf 0 2 5, List.forall_mem_cons.mpr ⟨zm_aload 0 6, List.forall_mem_cons.mpr ⟨zm_getf 0 0 9, List.forall_mem_cons.mpr ⟨zm_alen 10, List.forall_mem_cons.mpr ⟨zm_imin 13, List.forall_mem_cons.mpr ⟨zm_putf 0 2 .int 16, List.forall_mem_cons.mpr ⟨zm_iconst 0 17, List.forall_mem_cons.mpr ⟨zm_istore 2 18, List.forall_mem_cons.mpr ⟨zm_iload 2 19, List.forall_mem_cons.mpr ⟨zm_aload 0 20, List.forall_mem_cons.mpr ⟨zm_getf 0 2 23, List.forall_mem_cons.mpr ⟨zm_icmpge 58 26, List.forall_mem_cons.mpr ⟨zm_aload 0 27, List.forall_mem_cons.mpr ⟨zm_getf 0 0 30, List.forall_mem_cons.mpr ⟨zm_iload 2 31, List.forall_mem_cons.mpr ⟨zm_aload 1 32, List.forall_mem_cons.mpr ⟨zm_iload 2 33, List.forall_mem_cons.mpr ⟨zm_callv 0 3 2 36, List.forall_mem_cons.mpr ⟨zm_call 117 3 39, List.forall_mem_cons.mpr ⟨zm_aload 0 40, List.forall_mem_cons.mpr ⟨zm_getf 0 1 43, List.forall_mem_cons.mpr ⟨zm_iload 2 44, List.forall_mem_cons.mpr ⟨zm_aload 1 45, List.forall_mem_cons.mpr ⟨zm_iload 2 46, List.forall_mem_cons.mpr ⟨zm_callv 0 4 2 49, List.forall_mem_cons.mpr ⟨zm_call 117 3 52, List.forall_mem_cons.mpr ⟨zm_iinc 2 1 55, List.forall_mem_cons.mpr ⟨zm_goto 18 [], List.forall_mem_cons.mpr ⟨zm_vret, fun _ h9 => nomatch h9⟩⟩⟩⟩⟩⟩⟩⟩⟩⟩⟩⟩⟩⟩⟩⟩⟩⟩⟩⟩⟩⟩⟩⟩⟩⟩⟩⟩⟩⟩⟩
theorem zE_X0_copyFrom : ∀ L ∈ zT_X0_copyFrom, ∀ q ∈ L, zEnt yX0_copyFrom cX0_copyFrom 3 none [] { frames := 2, cells := 0, slots := 0, locals := 42 } q := List.forall_mem_cons.mpr ⟨zE_X0_copyFrom_0, fun _ h9 => nomatch h9⟩
theorem zG_X0_copyFrom : ∀ L ∈ zT_X0_copyFrom, ∀ q ∈ L, zmono q.2 := List.forall_mem_cons.mpr ⟨zG_X0_copyFrom_0, fun _ h9 => nomatch h9⟩
set_option maxRecDepth 100000 in
theorem zE_X0_isLike_0 : ∀ q ∈ zT_X0_isLike_0, zEnt yX0_isLike cX0_isLike 3 (some .boolean) [] { frames := 2, cells := 0, slots := 0, locals := 42 } q := List.forall_mem_cons.mpr ⟨fun X => zs_aload_n X.1 dX0_isLike_0 rfl rfl,
  List.forall_mem_cons.mpr ⟨fun X => zs_getf (T := TX0) (N := 3) (k := 2) X.1 X.2.2.2.2.2.1 uX0_in rfl (by decide) wm_3 rfl dX0_isLike_1 rfl,
  List.forall_mem_cons.mpr ⟨fun X => zs_aload_n X.1 dX0_isLike_4 rfl rfl,
  List.forall_mem_cons.mpr ⟨fun X => zs_getf (T := TX0) (N := 3) (k := 2) X.1 X.2.2.2.2.2.1 uX0_in rfl (by decide) wm_3 rfl dX0_isLike_5 rfl,
  List.forall_mem_cons.mpr ⟨fun X => zs_icmpeq X.1 dX0_isLike_8 (by decide) rfl,
  List.forall_mem_cons.mpr ⟨fun X => zs_iconst X.1 dX0_isLike_11 (by decide) rfl,
  List.forall_mem_cons.mpr ⟨fun X => zs_zret X.1 X.2.1 X.2.2.1 dX0_isLike_12,
  List.forall_mem_cons.mpr ⟨fun X => zs_iconst X.1 dX0_isLike_13 (by decide) rfl,
  List.forall_mem_cons.mpr ⟨fun X => zs_istore_n X.1 dX0_isLike_14 rfl (Nat.le_of_ble_eq_true rfl) rfl,
  List.forall_mem_cons.mpr ⟨fun X => zs_iload_n X.1 dX0_isLike_15 rfl rfl,
  List.forall_mem_cons.mpr ⟨fun X => zs_aload_n X.1 dX0_isLike_16 rfl rfl,
  List.forall_mem_cons.mpr ⟨fun X => zs_getf (T := TX0) (N := 3) (k := 2) X.1 X.2.2.2.2.2.1 uX0_in rfl (by decide) wm_3 rfl dX0_isLike_17 rfl,
  List.forall_mem_cons.mpr ⟨fun X => zs_icmpge X.1 dX0_isLike_20 (by decide) rfl,
  List.forall_mem_cons.mpr ⟨fun X => zs_aload_n X.1 dX0_isLike_23 rfl rfl,
  List.forall_mem_cons.mpr ⟨fun X => zs_iload_n X.1 dX0_isLike_24 rfl rfl,
  List.forall_mem_cons.mpr ⟨fun X => zs_callV (Cn := RX0) X.1 zNw_ok (fun _ h9 => Or.inr h9) X.2.2.2.2.2.1 X.2.2.2.2.2.2.1 zcal_3 rfl ⟨rfl, rfl⟩ wm_10 rfl wm_11 wm_12 dX0_isLike_25 rfl,
  List.forall_mem_cons.mpr ⟨fun X => zs_aload_n X.1 dX0_isLike_28 rfl rfl,
  List.forall_mem_cons.mpr ⟨fun X => zs_iload_n X.1 dX0_isLike_29 rfl rfl,
  List.forall_mem_cons.mpr ⟨fun X => zs_callV (Cn := RX0) X.1 zNw_ok (fun _ h9 => Or.inr h9) X.2.2.2.2.2.1 X.2.2.2.2.2.2.1 zcal_3 rfl ⟨rfl, rfl⟩ wm_10 rfl wm_11 wm_12 dX0_isLike_30 rfl,
  List.forall_mem_cons.mpr ⟨fun X => zs_icmpne X.1 dX0_isLike_33 (by decide) rfl,
  List.forall_mem_cons.mpr ⟨fun X => zs_aload_n X.1 dX0_isLike_36 rfl rfl,
  List.forall_mem_cons.mpr ⟨fun X => zs_iload_n X.1 dX0_isLike_37 rfl rfl,
  List.forall_mem_cons.mpr ⟨fun X => zs_callV (Cn := RX0) X.1 zNw_ok (fun _ h9 => Or.inr h9) X.2.2.2.2.2.1 X.2.2.2.2.2.2.1 zcal_4 rfl ⟨rfl, rfl⟩ wm_16 rfl wm_17 wm_18 dX0_isLike_38 rfl,
  List.forall_mem_cons.mpr ⟨fun X => zs_aload_n X.1 dX0_isLike_41 rfl rfl,
  List.forall_mem_cons.mpr ⟨fun X => zs_iload_n X.1 dX0_isLike_42 rfl rfl,
  List.forall_mem_cons.mpr ⟨fun X => zs_callV (Cn := RX0) X.1 zNw_ok (fun _ h9 => Or.inr h9) X.2.2.2.2.2.1 X.2.2.2.2.2.2.1 zcal_4 rfl ⟨rfl, rfl⟩ wm_16 rfl wm_17 wm_18 dX0_isLike_43 rfl,
  List.forall_mem_cons.mpr ⟨fun X => zs_icmpeq X.1 dX0_isLike_46 (by decide) rfl,
  List.forall_mem_cons.mpr ⟨fun X => zs_iconst X.1 dX0_isLike_49 (by decide) rfl,
  List.forall_mem_cons.mpr ⟨fun X => zs_zret X.1 X.2.1 X.2.2.1 dX0_isLike_50,
  List.forall_mem_cons.mpr ⟨fun X => zs_iinc X.1 dX0_isLike_51 (Nat.le_of_ble_eq_true rfl) rfl,
  List.forall_mem_cons.mpr ⟨fun X => zs_goto X.1 dX0_isLike_54 (by decide),
  List.forall_mem_cons.mpr ⟨fun X => zs_iconst X.1 dX0_isLike_57 (by decide) rfl,
  List.forall_mem_cons.mpr ⟨fun X => zs_zret X.1 X.2.1 X.2.2.1 dX0_isLike_58,
  fun _ h9 => nomatch h9⟩⟩⟩⟩⟩⟩⟩⟩⟩⟩⟩⟩⟩⟩⟩⟩⟩⟩⟩⟩⟩⟩⟩⟩⟩⟩⟩⟩⟩⟩⟩⟩⟩
theorem zG_X0_isLike_0 : ∀ q ∈ zT_X0_isLike_0, zmono q.2 := List.forall_mem_cons.mpr ⟨zm_aload 0 1, List.forall_mem_cons.mpr ⟨zm_getf 0 2 4, List.forall_mem_cons.mpr ⟨zm_aload 1 5, List.forall_mem_cons.mpr ⟨zm_getf 0 2 8, List.forall_mem_cons.mpr ⟨zm_icmpeq 13 11, List.forall_mem_cons.mpr ⟨zm_iconst 0 12, List.forall_mem_cons.mpr ⟨zm_zret, List.forall_mem_cons.mpr ⟨zm_iconst 0 14, List.forall_mem_cons.mpr ⟨zm_istore 2 15, List.forall_mem_cons.mpr ⟨zm_iload 2 16, List.forall_mem_cons.mpr ⟨zm_aload 0 17, List.forall_mem_cons.mpr ⟨zm_getf 0 2 20, List.forall_mem_cons.mpr ⟨zm_icmpge 57 23, List.forall_mem_cons.mpr ⟨zm_aload 0 24, List.forall_mem_cons.mpr ⟨zm_iload 2 25, List.forall_mem_cons.mpr ⟨zm_callv 0 3 2 28, List.forall_mem_cons.mpr ⟨zm_aload 1 29, List.forall_mem_cons.mpr ⟨zm_iload 2 30, List.forall_mem_cons.mpr ⟨zm_callv 0 3 2 33, List.forall_mem_cons.mpr ⟨zm_icmpne 49 36, List.forall_mem_cons.mpr ⟨zm_aload 0 37, List.forall_mem_cons.mpr ⟨zm_iload 2 38, List.forall_mem_cons.mpr ⟨zm_callv 0 4 2 41, List.forall_mem_cons.mpr ⟨zm_aload 1 42, List.forall_mem_cons.mpr ⟨zm_iload 2 43, List.forall_mem_cons.mpr ⟨zm_callv 0 4 2 46, List.forall_mem_cons.mpr ⟨zm_icmpeq 51 49, List.forall_mem_cons.mpr ⟨zm_iconst 0 50, List.forall_mem_cons.mpr ⟨zm_zret, List.forall_mem_cons.mpr ⟨zm_iinc 2 1 54, List.forall_mem_cons.mpr ⟨zm_goto 15 [], List.forall_mem_cons.mpr ⟨zm_iconst 1 58, List.forall_mem_cons.mpr ⟨zm_zret, fun _ h9 => nomatch h9⟩⟩⟩⟩⟩⟩⟩⟩⟩⟩⟩⟩⟩⟩⟩⟩⟩⟩⟩⟩⟩⟩⟩⟩⟩⟩⟩⟩⟩⟩⟩⟩⟩
theorem zE_X0_isLike : ∀ L ∈ zT_X0_isLike, ∀ q ∈ L, zEnt yX0_isLike cX0_isLike 3 (some .boolean) [] { frames := 2, cells := 0, slots := 0, locals := 42 } q := List.forall_mem_cons.mpr ⟨zE_X0_isLike_0, fun _ h9 => nomatch h9⟩
theorem zG_X0_isLike : ∀ L ∈ zT_X0_isLike, ∀ q ∈ L, zmono q.2 := List.forall_mem_cons.mpr ⟨zG_X0_isLike_0, fun _ h9 => nomatch h9⟩
set_option maxRecDepth 100000 in
theorem zE_X0_countShared_0 : ∀ q ∈ zT_X0_countShared_0, zEnt yX0_countShared cX0_countShared 6 (some .int) [] { frames := 3, cells := 0, slots := 0, locals := 64 } q := List.forall_mem_cons.mpr ⟨fun X => zs_iconst X.1 dX0_countShared_0 (by decide) rfl,
  List.forall_mem_cons.mpr ⟨fun X => zs_istore_n X.1 dX0_countShared_1 rfl (Nat.le_of_ble_eq_true rfl) rfl,
  List.forall_mem_cons.mpr ⟨fun X => zs_iconst X.1 dX0_countShared_2 (by decide) rfl,
  List.forall_mem_cons.mpr ⟨fun X => zs_istore X.1 dX0_countShared_3 (Nat.le_of_ble_eq_true rfl) rfl,
  List.forall_mem_cons.mpr ⟨fun X => zs_iload X.1 dX0_countShared_5 rfl,
  List.forall_mem_cons.mpr ⟨fun X => zs_aload_n X.1 dX0_countShared_7 rfl rfl,
  List.forall_mem_cons.mpr ⟨fun X => zs_getf (T := TX0) (N := 3) (k := 2) X.1 X.2.2.2.2.2.1 uX0_in rfl (by decide) wm_3 rfl dX0_countShared_8 rfl,
  List.forall_mem_cons.mpr ⟨fun X => zs_icmpge X.1 dX0_countShared_11 (by decide) rfl,
  List.forall_mem_cons.mpr ⟨fun X => zs_aload_n X.1 dX0_countShared_14 rfl rfl,
  List.forall_mem_cons.mpr ⟨fun X => zs_aload_n X.1 dX0_countShared_15 rfl rfl,
  List.forall_mem_cons.mpr ⟨fun X => zs_iload X.1 dX0_countShared_16 rfl,
  List.forall_mem_cons.mpr ⟨fun X => zs_callV (Cn := RX0) X.1 zNw_ok (fun _ h9 => Or.inr h9) X.2.2.2.2.2.1 X.2.2.2.2.2.2.1 zcal_3 rfl ⟨rfl, rfl⟩ wm_10 rfl wm_11 wm_12 dX0_countShared_18 rfl,
  List.forall_mem_cons.mpr ⟨fun X => zs_callV (Cn := RX0) X.1 zNw_ok (fun _ h9 => Or.inr h9) X.2.2.2.2.2.1 X.2.2.2.2.2.2.1 zcal_5 rfl ⟨rfl, rfl⟩ wm_13 rfl wm_14 wm_15 dX0_countShared_21 rfl,
  List.forall_mem_cons.mpr ⟨fun X => zs_istore X.1 dX0_countShared_24 (Nat.le_of_ble_eq_true rfl) rfl,
  List.forall_mem_cons.mpr ⟨fun X => zs_iload X.1 dX0_countShared_26 rfl,
  List.forall_mem_cons.mpr ⟨fun X => zs_iconst X.1 dX0_countShared_28 (by decide) rfl,
  List.forall_mem_cons.mpr ⟨fun X => zs_icmpeq X.1 dX0_countShared_29 (by decide) rfl,
  List.forall_mem_cons.mpr ⟨fun X => zs_iload_n X.1 dX0_countShared_32 rfl rfl,
  List.forall_mem_cons.mpr ⟨fun X => zs_ifeq X.1 dX0_countShared_33 (by decide) rfl,
  List.forall_mem_cons.mpr ⟨fun X => zs_aload_n X.1 dX0_countShared_36 rfl rfl,
  List.forall_mem_cons.mpr ⟨fun X => zs_iload X.1 dX0_countShared_37 rfl,
  List.forall_mem_cons.mpr ⟨fun X => zs_callV (Cn := RX0) X.1 zNw_ok (fun _ h9 => Or.inr h9) X.2.2.2.2.2.1 X.2.2.2.2.2.2.1 zcal_4 rfl ⟨rfl, rfl⟩ wm_16 rfl wm_17 wm_18 dX0_countShared_39 rfl,
  List.forall_mem_cons.mpr ⟨fun X => zs_aload_n X.1 dX0_countShared_42 rfl rfl,
  List.forall_mem_cons.mpr ⟨fun X => zs_iload X.1 dX0_countShared_43 rfl,
  List.forall_mem_cons.mpr ⟨fun X => zs_callV (Cn := RX0) X.1 zNw_ok (fun _ h9 => Or.inr h9) X.2.2.2.2.2.1 X.2.2.2.2.2.2.1 zcal_4 rfl ⟨rfl, rfl⟩ wm_16 rfl wm_17 wm_18 dX0_countShared_45 rfl,
  List.forall_mem_cons.mpr ⟨fun X => zs_icmpne X.1 dX0_countShared_48 (by decide) rfl,
  List.forall_mem_cons.mpr ⟨fun X => zs_iinc X.1 dX0_countShared_51 (Nat.le_of_ble_eq_true rfl) rfl,
  List.forall_mem_cons.mpr ⟨fun X => zs_iinc X.1 dX0_countShared_54 (Nat.le_of_ble_eq_true rfl) rfl,
  List.forall_mem_cons.mpr ⟨fun X => zs_goto X.1 dX0_countShared_57 (by decide),
  List.forall_mem_cons.mpr ⟨fun X => zs_iload_n X.1 dX0_countShared_60 rfl rfl,
  List.forall_mem_cons.mpr ⟨fun X => zs_iret X.1 X.2.1 X.2.2.1 dX0_countShared_61,
  fun _ h9 => nomatch h9⟩⟩⟩⟩⟩⟩⟩⟩⟩⟩⟩⟩⟩⟩⟩⟩⟩⟩⟩⟩⟩⟩⟩⟩⟩⟩⟩⟩⟩⟩⟩
theorem zG_X0_countShared_0 : ∀ q ∈ zT_X0_countShared_0, zmono q.2 := List.forall_mem_cons.mpr ⟨zm_iconst 0 1, List.forall_mem_cons.mpr ⟨zm_istore 3 2, List.forall_mem_cons.mpr ⟨zm_iconst 0 3, List.forall_mem_cons.mpr ⟨zm_istore 4 5, List.forall_mem_cons.mpr ⟨zm_iload 4 7, List.forall_mem_cons.mpr ⟨zm_aload 0 8, List.forall_mem_cons.mpr ⟨zm_getf 0 2 11, List.forall_mem_cons.mpr ⟨zm_icmpge 60 14, List.forall_mem_cons.mpr ⟨zm_aload 1 15, List.forall_mem_cons.mpr ⟨zm_aload 0 16, List.forall_mem_cons.mpr ⟨zm_iload 4 18, List.forall_mem_cons.mpr ⟨zm_callv 0 3 2 21, List.forall_mem_cons.mpr ⟨zm_callv 0 5 2 24, List.forall_mem_cons.mpr ⟨zm_istore 5 26, List.forall_mem_cons.mpr ⟨zm_iload 5 28, List.forall_mem_cons.mpr ⟨zm_iconst (-1) 29, List.forall_mem_cons.mpr ⟨zm_icmpeq 54 32, List.forall_mem_cons.mpr ⟨zm_iload 2 33, List.forall_mem_cons.mpr ⟨zm_ifeq 51 36, List.forall_mem_cons.mpr ⟨zm_aload 1 37, List.forall_mem_cons.mpr ⟨zm_iload 5 39, List.forall_mem_cons.mpr ⟨zm_callv 0 4 2 42, List.forall_mem_cons.mpr ⟨zm_aload 0 43, List.forall_mem_cons.mpr ⟨zm_iload 4 45, List.forall_mem_cons.mpr ⟨zm_callv 0 4 2 48, List.forall_mem_cons.mpr ⟨zm_icmpne 54 51, List.forall_mem_cons.mpr ⟨zm_iinc 3 1 54, List.forall_mem_cons.mpr ⟨zm_iinc 4 1 57, List.forall_mem_cons.mpr ⟨zm_goto 5 [], List.forall_mem_cons.mpr ⟨zm_iload 3 61, List.forall_mem_cons.mpr ⟨zm_iret, fun _ h9 => nomatch h9⟩⟩⟩⟩⟩⟩⟩⟩⟩⟩⟩⟩⟩⟩⟩⟩⟩⟩⟩⟩⟩⟩⟩⟩⟩⟩⟩⟩⟩⟩⟩
theorem zE_X0_countShared : ∀ L ∈ zT_X0_countShared, ∀ q ∈ L, zEnt yX0_countShared cX0_countShared 6 (some .int) [] { frames := 3, cells := 0, slots := 0, locals := 64 } q := List.forall_mem_cons.mpr ⟨zE_X0_countShared_0, fun _ h9 => nomatch h9⟩
theorem zG_X0_countShared : ∀ L ∈ zT_X0_countShared, ∀ q ∈ L, zmono q.2 := List.forall_mem_cons.mpr ⟨zG_X0_countShared_0, fun _ h9 => nomatch h9⟩
