/-! every entry of the tables of X1 is sound, and grows -/
set_option maxRecDepth 100000 in
theorem zE_X1_init_0 : ∀ q ∈ zT_X1_init_0, zEnt yX1_init cX1_init 1 none [] { frames := 1, cells := 1, slots := 60, locals := 20 } q := List.forall_mem_cons.mpr ⟨fun X => zs_aload_n X.1 dX1_init_0 rfl rfl,
  List.forall_mem_cons.mpr ⟨fun X => zs_objinit X.1 wm_33 wm_1 wm_2 ⟨Nat.le_of_ble_eq_true rfl, Nat.le_of_ble_eq_true rfl⟩ dX1_init_1 rfl,
  List.forall_mem_cons.mpr ⟨fun X => zs_aload_n X.1 dX1_init_4 rfl rfl,
  List.forall_mem_cons.mpr ⟨fun X => zs_bipush X.1 dX1_init_5 (by decide) rfl,
  List.forall_mem_cons.mpr ⟨fun X => zs_newi X.1 X.2.2.2.2.2.1 (fun _ h9 => Or.inr h9) ⟨Nat.le_refl _, Nat.le_refl _⟩ wm_34 dX1_init_7 rfl,
  List.forall_mem_cons.mpr ⟨fun X => zs_putfF (T := TX1) (N := 7) (k := 0) X.1 X.2.2.2.2.2.1 uX1_in tyX1 tyX1_ok nmX1 rfl (by decide) wm_35 rfl rfl X.2.2.2.1 rfl (tyX1_ok 0 (by decide)) dX1_init_9 rfl,
  List.forall_mem_cons.mpr ⟨fun X => zs_aload_n X.1 dX1_init_12 rfl rfl,
  List.forall_mem_cons.mpr ⟨fun X => zs_iconst X.1 dX1_init_13 (by decide) rfl,
  List.forall_mem_cons.mpr ⟨fun X => zs_putf (T := TX1) (N := 7) (k := 1) X.1 X.2.2.2.2.2.1 uX1_in tyX1 tyX1_ok nmX1 rfl (by decide) wm_36 rfl rfl (tyX1_ok 1 (by decide)) dX1_init_14 rfl,
  List.forall_mem_cons.mpr ⟨fun X => zs_aload_n X.1 dX1_init_17 rfl rfl,
  List.forall_mem_cons.mpr ⟨fun X => zs_iconst X.1 dX1_init_18 (by decide) rfl,
  List.forall_mem_cons.mpr ⟨fun X => zs_putf (T := TX1) (N := 7) (k := 2) X.1 X.2.2.2.2.2.1 uX1_in tyX1 tyX1_ok nmX1 rfl (by decide) wm_37 rfl rfl (tyX1_ok 2 (by decide)) dX1_init_19 rfl,
  List.forall_mem_cons.mpr ⟨fun X => zs_aload_n X.1 dX1_init_22 rfl rfl,
  List.forall_mem_cons.mpr ⟨fun X => zs_iconst X.1 dX1_init_23 (by decide) rfl,
  List.forall_mem_cons.mpr ⟨fun X => zs_putf (T := TX1) (N := 7) (k := 3) X.1 X.2.2.2.2.2.1 uX1_in tyX1 tyX1_ok nmX1 rfl (by decide) wm_38 rfl rfl (tyX1_ok 3 (by decide)) dX1_init_24 rfl,
  List.forall_mem_cons.mpr ⟨fun X => zs_aload_n X.1 dX1_init_27 rfl rfl,
  List.forall_mem_cons.mpr ⟨fun X => zs_iconst X.1 dX1_init_28 (by decide) rfl,
  List.forall_mem_cons.mpr ⟨fun X => zs_putf (T := TX1) (N := 7) (k := 4) X.1 X.2.2.2.2.2.1 uX1_in tyX1 tyX1_ok nmX1 rfl (by decide) wm_39 rfl rfl (tyX1_ok 4 (by decide)) dX1_init_29 rfl,
  List.forall_mem_cons.mpr ⟨fun X => zs_aload_n X.1 dX1_init_32 rfl rfl,
  List.forall_mem_cons.mpr ⟨fun X => zs_iconst X.1 dX1_init_33 (by decide) rfl,
  List.forall_mem_cons.mpr ⟨fun X => zs_putf (T := TX1) (N := 7) (k := 5) X.1 X.2.2.2.2.2.1 uX1_in tyX1 tyX1_ok nmX1 rfl (by decide) wm_40 rfl rfl (tyX1_ok 5 (by decide)) dX1_init_34 rfl,
  List.forall_mem_cons.mpr ⟨fun X => zs_aload_n X.1 dX1_init_37 rfl rfl,
  List.forall_mem_cons.mpr ⟨fun X => zs_iconst X.1 dX1_init_38 (by decide) rfl,
  List.forall_mem_cons.mpr ⟨fun X => zs_putf (T := TX1) (N := 7) (k := 6) X.1 X.2.2.2.2.2.1 uX1_in tyX1 tyX1_ok nmX1 rfl (by decide) wm_41 rfl rfl (tyX1_ok 6 (by decide)) dX1_init_39 rfl,
  List.forall_mem_cons.mpr ⟨fun X => zs_vret X.1 X.2.1 X.2.2.1 dX1_init_42,
  fun _ h9 => nomatch h9⟩⟩⟩⟩⟩⟩⟩⟩⟩⟩⟩⟩⟩⟩⟩⟩⟩⟩⟩⟩⟩⟩⟩⟩⟩
theorem zG_X1_init_0 : ∀ q ∈ zT_X1_init_0, zmono q.2 := List.forall_mem_cons.mpr ⟨zm_aload 0 1, List.forall_mem_cons.mpr ⟨zm_objinit 4, List.forall_mem_cons.mpr ⟨zm_aload 0 5, List.forall_mem_cons.mpr ⟨zm_iconst 60 7, List.forall_mem_cons.mpr ⟨zm_newi (1, 60) 9, List.forall_mem_cons.mpr ⟨zm_putf 1 0 (.array .int) 12, List.forall_mem_cons.mpr ⟨zm_aload 0 13, List.forall_mem_cons.mpr ⟨zm_iconst 0 14, List.forall_mem_cons.mpr ⟨zm_putf 1 1 .int 17, List.forall_mem_cons.mpr ⟨zm_aload 0 18, List.forall_mem_cons.mpr ⟨zm_iconst (-1) 19, List.forall_mem_cons.mpr ⟨zm_putf 1 2 .int 22, List.forall_mem_cons.mpr ⟨zm_aload 0 23, List.forall_mem_cons.mpr ⟨zm_iconst (-1) 24, List.forall_mem_cons.mpr ⟨zm_putf 1 3 .int 27, List.forall_mem_cons.mpr ⟨zm_aload 0 28, List.forall_mem_cons.mpr ⟨zm_iconst (-1) 29, List.forall_mem_cons.mpr ⟨zm_putf 1 4 .int 32, List.forall_mem_cons.mpr ⟨zm_aload 0 33, List.forall_mem_cons.mpr ⟨zm_iconst 0 34, List.forall_mem_cons.mpr ⟨zm_putf 1 5 .boolean 37, List.forall_mem_cons.mpr ⟨zm_aload 0 38, List.forall_mem_cons.mpr ⟨zm_iconst (-1) 39, List.forall_mem_cons.mpr ⟨zm_putf 1 6 .int 42, List.forall_mem_cons.mpr ⟨zm_vret, fun _ h9 => nomatch h9⟩⟩⟩⟩⟩⟩⟩⟩⟩⟩⟩⟩⟩⟩⟩⟩⟩⟩⟩⟩⟩⟩⟩⟩⟩
theorem zE_X1_init : ∀ L ∈ zT_X1_init, ∀ q ∈ L, zEnt yX1_init cX1_init 1 none [] { frames := 1, cells := 1, slots := 60, locals := 20 } q := List.forall_mem_cons.mpr ⟨zE_X1_init_0, fun _ h9 => nomatch h9⟩
theorem zG_X1_init : ∀ L ∈ zT_X1_init, ∀ q ∈ L, zmono q.2 := List.forall_mem_cons.mpr ⟨zG_X1_init_0, fun _ h9 => nomatch h9⟩
set_option maxRecDepth 100000 in
theorem zE_X1_codeAt_0 : ∀ q ∈ zT_X1_codeAt_0, zEnt yX1_codeAt cX1_codeAt 2 (some .int) [] { frames := 1, cells := 0, slots := 0, locals := 21 } q := List.forall_mem_cons.mpr ⟨fun X => zs_iload_n X.1 dX1_codeAt_0 rfl rfl,
  List.forall_mem_cons.mpr ⟨fun X => zs_iflt X.1 dX1_codeAt_1 (by decide) rfl,
  List.forall_mem_cons.mpr ⟨fun X => zs_iload_n X.1 dX1_codeAt_4 rfl rfl,
  List.forall_mem_cons.mpr ⟨fun X => zs_aload_n X.1 dX1_codeAt_5 rfl rfl,
  List.forall_mem_cons.mpr ⟨fun X => zs_getf (T := TX1) (N := 7) (k := 1) X.1 X.2.2.2.2.2.1 uX1_in rfl (by decide) wm_36 rfl dX1_codeAt_6 rfl,
  List.forall_mem_cons.mpr ⟨fun X => zs_icmpge X.1 dX1_codeAt_9 (by decide) rfl,
  List.forall_mem_cons.mpr ⟨fun X => zs_aload_n X.1 dX1_codeAt_12 rfl rfl,
  List.forall_mem_cons.mpr ⟨fun X => zs_getf (T := TX1) (N := 7) (k := 0) X.1 X.2.2.2.2.2.1 uX1_in rfl (by decide) wm_35 rfl dX1_codeAt_13 rfl,
  List.forall_mem_cons.mpr ⟨fun X => zs_iload_n X.1 dX1_codeAt_16 rfl rfl,
  List.forall_mem_cons.mpr ⟨fun X => zs_callSN (host := "DraftMerge") X.1 zNw_ok (fun _ h9 => Or.inr h9) X.2.2.2.2.2.1 X.2.2.2.2.2.2.1 zcal_116 rfl ⟨rfl, rfl⟩ (by decide +kernel) wm_9 dX1_codeAt_17 rfl,
  List.forall_mem_cons.mpr ⟨fun X => zs_goto X.1 dX1_codeAt_20 (by decide),
  List.forall_mem_cons.mpr ⟨fun X => zs_iconst X.1 dX1_codeAt_23 (by decide) rfl,
  List.forall_mem_cons.mpr ⟨fun X => zs_iret X.1 X.2.1 X.2.2.1 dX1_codeAt_24,
  fun _ h9 => nomatch h9⟩⟩⟩⟩⟩⟩⟩⟩⟩⟩⟩⟩⟩
theorem zG_X1_codeAt_0 : ∀ q ∈ zT_X1_codeAt_0, zmono q.2 := List.forall_mem_cons.mpr ⟨zm_iload 1 1, List.forall_mem_cons.mpr ⟨zm_iflt 23 4, List.forall_mem_cons.mpr ⟨zm_iload 1 5, List.forall_mem_cons.mpr ⟨zm_aload 0 6, List.forall_mem_cons.mpr ⟨zm_getf 1 1 9, List.forall_mem_cons.mpr ⟨zm_icmpge 23 12, List.forall_mem_cons.mpr ⟨zm_aload 0 13, List.forall_mem_cons.mpr ⟨zm_getf 1 0 16, List.forall_mem_cons.mpr ⟨zm_iload 1 17, List.forall_mem_cons.mpr ⟨zm_call 116 2 20, List.forall_mem_cons.mpr ⟨zm_goto 24 [], List.forall_mem_cons.mpr ⟨zm_iconst (-1) 24, List.forall_mem_cons.mpr ⟨zm_iret, fun _ h9 => nomatch h9⟩⟩⟩⟩⟩⟩⟩⟩⟩⟩⟩⟩⟩
theorem zE_X1_codeAt : ∀ L ∈ zT_X1_codeAt, ∀ q ∈ L, zEnt yX1_codeAt cX1_codeAt 2 (some .int) [] { frames := 1, cells := 0, slots := 0, locals := 21 } q := List.forall_mem_cons.mpr ⟨zE_X1_codeAt_0, fun _ h9 => nomatch h9⟩
theorem zG_X1_codeAt : ∀ L ∈ zT_X1_codeAt, ∀ q ∈ L, zmono q.2 := List.forall_mem_cons.mpr ⟨zG_X1_codeAt_0, fun _ h9 => nomatch h9⟩
set_option maxRecDepth 100000 in
theorem zE_X1_putLast_0 : ∀ q ∈ zT_X1_putLast_0, zEnt yX1_putLast cX1_putLast 2 (some .int) [] { frames := 1, cells := 0, slots := 0, locals := 22 } q := List.forall_mem_cons.mpr ⟨fun X => zs_aload_n X.1 dX1_putLast_0 rfl rfl,
  List.forall_mem_cons.mpr ⟨fun X => zs_getf (T := TX1) (N := 7) (k := 1) X.1 X.2.2.2.2.2.1 uX1_in rfl (by decide) wm_36 rfl dX1_putLast_1 rfl,
  List.forall_mem_cons.mpr ⟨fun X => zs_aload_n X.1 dX1_putLast_4 rfl rfl,
  List.forall_mem_cons.mpr ⟨fun X => zs_getf (T := TX1) (N := 7) (k := 0) X.1 X.2.2.2.2.2.1 uX1_in rfl (by decide) wm_35 rfl dX1_putLast_5 rfl,
  List.forall_mem_cons.mpr ⟨fun X => zs_alen X.1 X.2.2.2.2.2.1 dX1_putLast_8 rfl,
  List.forall_mem_cons.mpr ⟨fun X => zs_icmpge X.1 dX1_putLast_9 (by decide) rfl,
  List.forall_mem_cons.mpr ⟨fun X => zs_aload_n X.1 dX1_putLast_12 rfl rfl,
  List.forall_mem_cons.mpr ⟨fun X => zs_getf (T := TX1) (N := 7) (k := 0) X.1 X.2.2.2.2.2.1 uX1_in rfl (by decide) wm_35 rfl dX1_putLast_13 rfl,
  List.forall_mem_cons.mpr ⟨fun X => zs_aload_n X.1 dX1_putLast_16 rfl rfl,
  List.forall_mem_cons.mpr ⟨fun X => zs_getf (T := TX1) (N := 7) (k := 1) X.1 X.2.2.2.2.2.1 uX1_in rfl (by decide) wm_36 rfl dX1_putLast_17 rfl,
  List.forall_mem_cons.mpr ⟨fun X => zs_iload_n X.1 dX1_putLast_20 rfl rfl,
  List.forall_mem_cons.mpr ⟨fun X => zs_callSN (host := "DraftMerge") X.1 zNw_ok (fun _ h9 => Or.inr h9) X.2.2.2.2.2.1 X.2.2.2.2.2.2.1 zcal_117 rfl ⟨rfl, rfl⟩ (by decide +kernel) wm_19 dX1_putLast_21 rfl,
  List.forall_mem_cons.mpr ⟨fun X => zs_aload_n X.1 dX1_putLast_24 rfl rfl,
  List.forall_mem_cons.mpr ⟨fun X => zs_dup X.1 dX1_putLast_25 rfl,
  List.forall_mem_cons.mpr ⟨fun X => zs_getf (T := TX1) (N := 7) (k := 1) X.1 X.2.2.2.2.2.1 uX1_in rfl (by decide) wm_36 rfl dX1_putLast_26 rfl,
  List.forall_mem_cons.mpr ⟨fun X => zs_iconst X.1 dX1_putLast_29 (by decide) rfl,
  List.forall_mem_cons.mpr ⟨fun X => zs_iadd X.1 dX1_putLast_30 rfl,
  List.forall_mem_cons.mpr ⟨fun X => zs_putf (T := TX1) (N := 7) (k := 1) X.1 X.2.2.2.2.2.1 uX1_in tyX1 tyX1_ok nmX1 rfl (by decide) wm_36 rfl rfl (tyX1_ok 1 (by decide)) dX1_putLast_31 rfl,
  List.forall_mem_cons.mpr ⟨fun X => zs_aload_n X.1 dX1_putLast_34 rfl rfl,
  List.forall_mem_cons.mpr ⟨fun X => zs_getf (T := TX1) (N := 7) (k := 1) X.1 X.2.2.2.2.2.1 uX1_in rfl (by decide) wm_36 rfl dX1_putLast_35 rfl,
  List.forall_mem_cons.mpr ⟨fun X => zs_iret X.1 X.2.1 X.2.2.1 dX1_putLast_38,
  fun _ h9 => nomatch h9⟩⟩⟩⟩⟩⟩⟩⟩⟩⟩⟩⟩⟩⟩⟩⟩⟩⟩⟩⟩⟩
theorem zG_X1_putLast_0 : ∀ q ∈ zT_X1_putLast_0, zmono q.2 := List.forall_mem_cons.mpr ⟨zm_aload 0 1, List.forall_mem_cons.mpr ⟨zm_getf 1 1 4, List.forall_mem_cons.mpr ⟨zm_aload 0 5, List.forall_mem_cons.mpr ⟨zm_getf 1 0 8, List.forall_mem_cons.mpr ⟨zm_alen 9, List.forall_mem_cons.mpr ⟨zm_icmpge 34 12, List.forall_mem_cons.mpr ⟨zm_aload 0 13, List.forall_mem_cons.mpr ⟨zm_getf 1 0 16, List.forall_mem_cons.mpr ⟨zm_aload 0 17, List.forall_mem_cons.mpr ⟨zm_getf 1 1 20, List.forall_mem_cons.mpr ⟨zm_iload 1 21, List.forall_mem_cons.mpr ⟨zm_call 117 3 24, List.forall_mem_cons.mpr ⟨zm_aload 0 25, List.forall_mem_cons.mpr ⟨zm_dup 26, List.forall_mem_cons.mpr ⟨zm_getf 1 1 29, List.forall_mem_cons.mpr ⟨zm_iconst 1 30, List.forall_mem_cons.mpr ⟨zm_iadd 31, List.forall_mem_cons.mpr ⟨zm_putf 1 1 .int 34, List.forall_mem_cons.mpr ⟨zm_aload 0 35, List.forall_mem_cons.mpr ⟨zm_getf 1 1 38, List.forall_mem_cons.mpr ⟨zm_iret, fun _ h9 => nomatch h9⟩⟩⟩⟩⟩⟩⟩⟩⟩⟩⟩⟩⟩⟩⟩⟩⟩⟩⟩⟩⟩
theorem zE_X1_putLast : ∀ L ∈ zT_X1_putLast, ∀ q ∈ L, zEnt yX1_putLast cX1_putLast 2 (some .int) [] { frames := 1, cells := 0, slots := 0, locals := 22 } q := List.forall_mem_cons.mpr ⟨zE_X1_putLast_0, fun _ h9 => nomatch h9⟩
theorem zG_X1_putLast : ∀ L ∈ zT_X1_putLast, ∀ q ∈ L, zmono q.2 := List.forall_mem_cons.mpr ⟨zG_X1_putLast_0, fun _ h9 => nomatch h9⟩
set_option maxRecDepth 100000 in
theorem zE_X1_forget_0 : ∀ q ∈ zT_X1_forget_0, zEnt yX1_forget cX1_forget 2 (some .int) [] { frames := 0, cells := 0, slots := 0, locals := 0 } q := List.forall_mem_cons.mpr ⟨fun X => zs_aload_n X.1 dX1_forget_0 rfl rfl,
  List.forall_mem_cons.mpr ⟨fun X => zs_getf (T := TX1) (N := 7) (k := 1) X.1 X.2.2.2.2.2.1 uX1_in rfl (by decide) wm_36 rfl dX1_forget_1 rfl,
  List.forall_mem_cons.mpr ⟨fun X => zs_istore_n X.1 dX1_forget_4 rfl (Nat.le_of_ble_eq_true rfl) rfl,
  List.forall_mem_cons.mpr ⟨fun X => zs_aload_n X.1 dX1_forget_5 rfl rfl,
  List.forall_mem_cons.mpr ⟨fun X => zs_iconst X.1 dX1_forget_6 (by decide) rfl,
  List.forall_mem_cons.mpr ⟨fun X => zs_putf (T := TX1) (N := 7) (k := 1) X.1 X.2.2.2.2.2.1 uX1_in tyX1 tyX1_ok nmX1 rfl (by decide) wm_36 rfl rfl (tyX1_ok 1 (by decide)) dX1_forget_7 rfl,
  List.forall_mem_cons.mpr ⟨fun X => zs_iload_n X.1 dX1_forget_10 rfl rfl,
  List.forall_mem_cons.mpr ⟨fun X => zs_iret X.1 X.2.1 X.2.2.1 dX1_forget_11,
  fun _ h9 => nomatch h9⟩⟩⟩⟩⟩⟩⟩⟩
theorem zG_X1_forget_0 : ∀ q ∈ zT_X1_forget_0, zmono q.2 := List.forall_mem_cons.mpr ⟨zm_aload 0 1, List.forall_mem_cons.mpr ⟨zm_getf 1 1 4, List.forall_mem_cons.mpr ⟨zm_istore 1 5, List.forall_mem_cons.mpr ⟨zm_aload 0 6, List.forall_mem_cons.mpr ⟨zm_iconst 0 7, List.forall_mem_cons.mpr ⟨zm_putf 1 1 .int 10, List.forall_mem_cons.mpr ⟨zm_iload 1 11, List.forall_mem_cons.mpr ⟨zm_iret, fun _ h9 => nomatch h9⟩⟩⟩⟩⟩⟩⟩⟩
theorem zE_X1_forget : ∀ L ∈ zT_X1_forget, ∀ q ∈ L, zEnt yX1_forget cX1_forget 2 (some .int) [] { frames := 0, cells := 0, slots := 0, locals := 0 } q := List.forall_mem_cons.mpr ⟨zE_X1_forget_0, fun _ h9 => nomatch h9⟩
theorem zG_X1_forget : ∀ L ∈ zT_X1_forget, ∀ q ∈ L, zmono q.2 := List.forall_mem_cons.mpr ⟨zG_X1_forget_0, fun _ h9 => nomatch h9⟩
set_option maxRecDepth 100000 in
theorem zE_X1_findError_0 : ∀ q ∈ zT_X1_findError_0, zEnt yX1_findError cX1_findError 2 (some .int) [] { frames := 3, cells := 0, slots := 0, locals := 66 } q := List.forall_mem_cons.mpr ⟨fun X => zs_aload_n X.1 dX1_findError_0 rfl rfl,
  List.forall_mem_cons.mpr ⟨fun X => zs_callV (Cn := RX1) X.1 zNw_ok (fun _ h9 => Or.inr h9) X.2.2.2.2.2.1 X.2.2.2.2.2.2.1 zcal_22 rfl ⟨rfl, rfl⟩ wm_42 rfl wm_43 wm_44 dX1_findError_1 rfl,
  List.forall_mem_cons.mpr ⟨fun X => zs_iconst X.1 dX1_findError_4 (by decide) rfl,
  List.forall_mem_cons.mpr ⟨fun X => zs_istore_n X.1 dX1_findError_5 rfl (Nat.le_of_ble_eq_true rfl) rfl,
  List.forall_mem_cons.mpr ⟨fun X => zs_iload_n X.1 dX1_findError_6 rfl rfl,
  List.forall_mem_cons.mpr ⟨fun X => zs_aload_n X.1 dX1_findError_7 rfl rfl,
  List.forall_mem_cons.mpr ⟨fun X => zs_getf (T := TX1) (N := 7) (k := 1) X.1 X.2.2.2.2.2.1 uX1_in rfl (by decide) wm_36 rfl dX1_findError_8 rfl,
  List.forall_mem_cons.mpr ⟨fun X => zs_icmpge X.1 dX1_findError_11 (by decide) rfl,
  List.forall_mem_cons.mpr ⟨fun X => zs_aload_n X.1 dX1_findError_14 rfl rfl,
  List.forall_mem_cons.mpr ⟨fun X => zs_aload_n X.1 dX1_findError_15 rfl rfl,
  List.forall_mem_cons.mpr ⟨fun X => zs_iload_n X.1 dX1_findError_16 rfl rfl,
  List.forall_mem_cons.mpr ⟨fun X => zs_callV (Cn := RX1) X.1 zNw_ok (fun _ h9 => Or.inr h9) X.2.2.2.2.2.1 X.2.2.2.2.2.2.1 zcal_17 rfl ⟨rfl, rfl⟩ wm_45 rfl wm_46 wm_47 dX1_findError_17 rfl,
  List.forall_mem_cons.mpr ⟨fun X => zs_callV (Cn := RX1) X.1 zNw_ok (fun _ h9 => Or.inr h9) X.2.2.2.2.2.1 X.2.2.2.2.2.2.1 zcal_24 rfl ⟨rfl, rfl⟩ wm_48 rfl wm_49 wm_50 dX1_findError_20 rfl,
  List.forall_mem_cons.mpr ⟨fun X => zs_ifne X.1 dX1_findError_23 (by decide) rfl,
  List.forall_mem_cons.mpr ⟨fun X => zs_iload_n X.1 dX1_findError_26 rfl rfl,
  List.forall_mem_cons.mpr ⟨fun X => zs_iret X.1 X.2.1 X.2.2.1 dX1_findError_27,
  List.forall_mem_cons.mpr ⟨fun X => zs_iinc X.1 dX1_findError_28 (Nat.le_of_ble_eq_true rfl) rfl,
  List.forall_mem_cons.mpr ⟨fun X => zs_goto X.1 dX1_findError_31 (by decide),
  List.forall_mem_cons.mpr ⟨fun X => zs_aload_n X.1 dX1_findError_34 rfl rfl,
  List.forall_mem_cons.mpr ⟨fun X => zs_getf (T := TX1) (N := 7) (k := 1) X.1 X.2.2.2.2.2.1 uX1_in rfl (by decide) wm_36 rfl dX1_findError_35 rfl,
  List.forall_mem_cons.mpr ⟨fun X => zs_iret X.1 X.2.1 X.2.2.1 dX1_findError_38,
  fun _ h9 => nomatch h9⟩⟩⟩⟩⟩⟩⟩⟩⟩⟩⟩⟩⟩⟩⟩⟩⟩⟩⟩⟩⟩
theorem zG_X1_findError_0 : ∀ q ∈ zT_X1_findError_0, zmono q.2 := List.forall_mem_cons.mpr ⟨zm_aload 0 1, List.forall_mem_cons.mpr ⟨zm_callv 1 22 1 4, List.forall_mem_cons.mpr ⟨zm_iconst 0 5, List.forall_mem_cons.mpr ⟨zm_istore 1 6, List.forall_mem_cons.mpr ⟨zm_iload 1 7, List.forall_mem_cons.mpr ⟨zm_aload 0 8, List.forall_mem_cons.mpr ⟨zm_getf 1 1 11, List.forall_mem_cons.mpr ⟨zm_icmpge 34 14, List.forall_mem_cons.mpr ⟨zm_aload 0 15, List.forall_mem_cons.mpr ⟨zm_aload 0 16, List.forall_mem_cons.mpr ⟨zm_iload 1 17, List.forall_mem_cons.mpr ⟨zm_callv 1 17 2 20, List.forall_mem_cons.mpr ⟨zm_callv 1 24 2 23, List.forall_mem_cons.mpr ⟨zm_ifne 28 26, List.forall_mem_cons.mpr ⟨zm_iload 1 27, List.forall_mem_cons.mpr ⟨zm_iret, List.forall_mem_cons.mpr ⟨zm_iinc 1 1 31, List.forall_mem_cons.mpr ⟨zm_goto 6 [], List.forall_mem_cons.mpr ⟨zm_aload 0 35, List.forall_mem_cons.mpr ⟨zm_getf 1 1 38, List.forall_mem_cons.mpr ⟨zm_iret, fun _ h9 => nomatch h9⟩⟩⟩⟩⟩⟩⟩⟩⟩⟩⟩⟩⟩⟩⟩⟩⟩⟩⟩⟩⟩
theorem zE_X1_findError : ∀ L ∈ zT_X1_findError, ∀ q ∈ L, zEnt yX1_findError cX1_findError 2 (some .int) [] { frames := 3, cells := 0, slots := 0, locals := 66 } q := List.forall_mem_cons.mpr ⟨zE_X1_findError_0, fun _ h9 => nomatch h9⟩
theorem zG_X1_findError : ∀ L ∈ zT_X1_findError, ∀ q ∈ L, zmono q.2 := List.forall_mem_cons.mpr ⟨zG_X1_findError_0, fun _ h9 => nomatch h9⟩
set_option maxRecDepth 100000 in
theorem zE_X1_isComplete_0 : ∀ q ∈ zT_X1_isComplete_0, zEnt yX1_isComplete cX1_isComplete 1 (some .boolean) [] { frames := 4, cells := 0, slots := 0, locals := 87 } q := List.forall_mem_cons.mpr ⟨fun X => zs_aload_n X.1 dX1_isComplete_0 rfl rfl,
  List.forall_mem_cons.mpr ⟨fun X => zs_callV (Cn := RX1) X.1 zNw_ok (fun _ h9 => Or.inr h9) X.2.2.2.2.2.1 X.2.2.2.2.2.2.1 zcal_20 rfl ⟨rfl, rfl⟩ wm_51 rfl wm_52 wm_53 dX1_isComplete_1 rfl,
  List.forall_mem_cons.mpr ⟨fun X => zs_aload_n X.1 dX1_isComplete_4 rfl rfl,
  List.forall_mem_cons.mpr ⟨fun X => zs_getf (T := TX1) (N := 7) (k := 1) X.1 X.2.2.2.2.2.1 uX1_in rfl (by decide) wm_36 rfl dX1_isComplete_5 rfl,
  List.forall_mem_cons.mpr ⟨fun X => zs_icmpne X.1 dX1_isComplete_8 (by decide) rfl,
  List.forall_mem_cons.mpr ⟨fun X => zs_aload_n X.1 dX1_isComplete_11 rfl rfl,
  List.forall_mem_cons.mpr ⟨fun X => zs_callV (Cn := RX1) X.1 zNw_ok (fun _ h9 => Or.inr h9) X.2.2.2.2.2.1 X.2.2.2.2.2.2.1 zcal_23 rfl ⟨rfl, rfl⟩ wm_54 rfl wm_55 wm_56 dX1_isComplete_12 rfl,
  List.forall_mem_cons.mpr ⟨fun X => zs_ifeq X.1 dX1_isComplete_15 (by decide) rfl,
  List.forall_mem_cons.mpr ⟨fun X => zs_iconst X.1 dX1_isComplete_18 (by decide) rfl,
  List.forall_mem_cons.mpr ⟨fun X => zs_goto X.1 dX1_isComplete_19 (by decide),
  List.forall_mem_cons.mpr ⟨fun X => zs_iconst X.1 dX1_isComplete_22 (by decide) rfl,
  List.forall_mem_cons.mpr ⟨fun X => zs_zret X.1 X.2.1 X.2.2.1 dX1_isComplete_23,
  fun _ h9 => nomatch h9⟩⟩⟩⟩⟩⟩⟩⟩⟩⟩⟩⟩
theorem zG_X1_isComplete_0 : ∀ q ∈ zT_X1_isComplete_0, zmono q.2 := List.forall_mem_cons.mpr ⟨zm_aload 0 1, List.forall_mem_cons.mpr ⟨zm_callv 1 20 1 4, List.forall_mem_cons.mpr ⟨zm_aload 0 5, List.forall_mem_cons.mpr ⟨zm_getf 1 1 8, List.forall_mem_cons.mpr ⟨zm_icmpne 22 11, List.forall_mem_cons.mpr ⟨zm_aload 0 12, List.forall_mem_cons.mpr ⟨zm_callv 1 23 1 15, List.forall_mem_cons.mpr ⟨zm_ifeq 22 18, List.forall_mem_cons.mpr ⟨zm_iconst 1 19, List.forall_mem_cons.mpr ⟨zm_goto 23 [], List.forall_mem_cons.mpr ⟨zm_iconst 0 23, List.forall_mem_cons.mpr ⟨zm_zret, fun _ h9 => nomatch h9⟩⟩⟩⟩⟩⟩⟩⟩⟩⟩⟩⟩
theorem zE_X1_isComplete : ∀ L ∈ zT_X1_isComplete, ∀ q ∈ L, zEnt yX1_isComplete cX1_isComplete 1 (some .boolean) [] { frames := 4, cells := 0, slots := 0, locals := 87 } q := List.forall_mem_cons.mpr ⟨zE_X1_isComplete_0, fun _ h9 => nomatch h9⟩
theorem zG_X1_isComplete : ∀ L ∈ zT_X1_isComplete, ∀ q ∈ L, zmono q.2 := List.forall_mem_cons.mpr ⟨zG_X1_isComplete_0, fun _ h9 => nomatch h9⟩
set_option maxRecDepth 100000 in
theorem zE_X1_beginReading_0 : ∀ q ∈ zT_X1_beginReading_0, zEnt yX1_beginReading cX1_beginReading 1 none [] { frames := 0, cells := 0, slots := 0, locals := 0 } q := List.forall_mem_cons.mpr ⟨fun X => zs_aload_n X.1 dX1_beginReading_0 rfl rfl,
  List.forall_mem_cons.mpr ⟨fun X => zs_iconst X.1 dX1_beginReading_1 (by decide) rfl,
  List.forall_mem_cons.mpr ⟨fun X => zs_putf (T := TX1) (N := 7) (k := 2) X.1 X.2.2.2.2.2.1 uX1_in tyX1 tyX1_ok nmX1 rfl (by decide) wm_37 rfl rfl (tyX1_ok 2 (by decide)) dX1_beginReading_2 rfl,
  List.forall_mem_cons.mpr ⟨fun X => zs_aload_n X.1 dX1_beginReading_5 rfl rfl,
  List.forall_mem_cons.mpr ⟨fun X => zs_iconst X.1 dX1_beginReading_6 (by decide) rfl,
  List.forall_mem_cons.mpr ⟨fun X => zs_putf (T := TX1) (N := 7) (k := 3) X.1 X.2.2.2.2.2.1 uX1_in tyX1 tyX1_ok nmX1 rfl (by decide) wm_38 rfl rfl (tyX1_ok 3 (by decide)) dX1_beginReading_7 rfl,
  List.forall_mem_cons.mpr ⟨fun X => zs_aload_n X.1 dX1_beginReading_10 rfl rfl,
  List.forall_mem_cons.mpr ⟨fun X => zs_iconst X.1 dX1_beginReading_11 (by decide) rfl,
  List.forall_mem_cons.mpr ⟨fun X => zs_putf (T := TX1) (N := 7) (k := 4) X.1 X.2.2.2.2.2.1 uX1_in tyX1 tyX1_ok nmX1 rfl (by decide) wm_39 rfl rfl (tyX1_ok 4 (by decide)) dX1_beginReading_12 rfl,
  List.forall_mem_cons.mpr ⟨fun X => zs_aload_n X.1 dX1_beginReading_15 rfl rfl,
  List.forall_mem_cons.mpr ⟨fun X => zs_iconst X.1 dX1_beginReading_16 (by decide) rfl,
  List.forall_mem_cons.mpr ⟨fun X => zs_putf (T := TX1) (N := 7) (k := 5) X.1 X.2.2.2.2.2.1 uX1_in tyX1 tyX1_ok nmX1 rfl (by decide) wm_40 rfl rfl (tyX1_ok 5 (by decide)) dX1_beginReading_17 rfl,
  List.forall_mem_cons.mpr ⟨fun X => zs_aload_n X.1 dX1_beginReading_20 rfl rfl,
  List.forall_mem_cons.mpr ⟨fun X => zs_iconst X.1 dX1_beginReading_21 (by decide) rfl,
  List.forall_mem_cons.mpr ⟨fun X => zs_putf (T := TX1) (N := 7) (k := 6) X.1 X.2.2.2.2.2.1 uX1_in tyX1 tyX1_ok nmX1 rfl (by decide) wm_41 rfl rfl (tyX1_ok 6 (by decide)) dX1_beginReading_22 rfl,
  List.forall_mem_cons.mpr ⟨fun X => zs_vret X.1 X.2.1 X.2.2.1 dX1_beginReading_25,
  fun _ h9 => nomatch h9⟩⟩⟩⟩⟩⟩⟩⟩⟩⟩⟩⟩⟩⟩⟩⟩
theorem zG_X1_beginReading_0 : ∀ q ∈ zT_X1_beginReading_0, zmono q.2 := List.forall_mem_cons.mpr ⟨zm_aload 0 1, List.forall_mem_cons.mpr ⟨zm_iconst (-1) 2, List.forall_mem_cons.mpr ⟨zm_putf 1 2 .int 5, List.forall_mem_cons.mpr ⟨zm_aload 0 6, List.forall_mem_cons.mpr ⟨zm_iconst (-1) 7, List.forall_mem_cons.mpr ⟨zm_putf 1 3 .int 10, List.forall_mem_cons.mpr ⟨zm_aload 0 11, List.forall_mem_cons.mpr ⟨zm_iconst (-1) 12, List.forall_mem_cons.mpr ⟨zm_putf 1 4 .int 15, List.forall_mem_cons.mpr ⟨zm_aload 0 16, List.forall_mem_cons.mpr ⟨zm_iconst 0 17, List.forall_mem_cons.mpr ⟨zm_putf 1 5 .boolean 20, List.forall_mem_cons.mpr ⟨zm_aload 0 21, List.forall_mem_cons.mpr ⟨zm_iconst (-1) 22, List.forall_mem_cons.mpr ⟨zm_putf 1 6 .int 25, List.forall_mem_cons.mpr ⟨zm_vret, fun _ h9 => nomatch h9⟩⟩⟩⟩⟩⟩⟩⟩⟩⟩⟩⟩⟩⟩⟩⟩
theorem zE_X1_beginReading : ∀ L ∈ zT_X1_beginReading, ∀ q ∈ L, zEnt yX1_beginReading cX1_beginReading 1 none [] { frames := 0, cells := 0, slots := 0, locals := 0 } q := List.forall_mem_cons.mpr ⟨zE_X1_beginReading_0, fun _ h9 => nomatch h9⟩
theorem zG_X1_beginReading : ∀ L ∈ zT_X1_beginReading, ∀ q ∈ L, zmono q.2 := List.forall_mem_cons.mpr ⟨zG_X1_beginReading_0, fun _ h9 => nomatch h9⟩
set_option maxRecDepth 100000 in
theorem zE_X1_commandIsWhole_0 : ∀ q ∈ zT_X1_commandIsWhole_0, zEnt yX1_commandIsWhole cX1_commandIsWhole 1 (some .boolean) [] { frames := 0, cells := 0, slots := 0, locals := 0 } q := List.forall_mem_cons.mpr ⟨fun X => zs_aload_n X.1 dX1_commandIsWhole_0 rfl rfl,
  List.forall_mem_cons.mpr ⟨fun X => zs_getf (T := TX1) (N := 7) (k := 3) X.1 X.2.2.2.2.2.1 uX1_in rfl (by decide) wm_38 rfl dX1_commandIsWhole_1 rfl,
  List.forall_mem_cons.mpr ⟨fun X => zs_bipush X.1 dX1_commandIsWhole_4 (by decide) rfl,
  List.forall_mem_cons.mpr ⟨fun X => zs_icmpne X.1 dX1_commandIsWhole_6 (by decide) rfl,
  List.forall_mem_cons.mpr ⟨fun X => zs_aload_n X.1 dX1_commandIsWhole_9 rfl rfl,
  List.forall_mem_cons.mpr ⟨fun X => zs_getf (T := TX1) (N := 7) (k := 4) X.1 X.2.2.2.2.2.1 uX1_in rfl (by decide) wm_39 rfl dX1_commandIsWhole_10 rfl,
  List.forall_mem_cons.mpr ⟨fun X => zs_goto X.1 dX1_commandIsWhole_13 (by decide),
  List.forall_mem_cons.mpr ⟨fun X => zs_aload_n X.1 dX1_commandIsWhole_16 rfl rfl,
  List.forall_mem_cons.mpr ⟨fun X => zs_getf (T := TX1) (N := 7) (k := 6) X.1 X.2.2.2.2.2.1 uX1_in rfl (by decide) wm_41 rfl dX1_commandIsWhole_17 rfl,
  List.forall_mem_cons.mpr ⟨fun X => zs_iconst X.1 dX1_commandIsWhole_20 (by decide) rfl,
  List.forall_mem_cons.mpr ⟨fun X => zs_icmpeq X.1 dX1_commandIsWhole_21 (by decide) rfl,
  List.forall_mem_cons.mpr ⟨fun X => zs_iconst X.1 dX1_commandIsWhole_24 (by decide) rfl,
  List.forall_mem_cons.mpr ⟨fun X => zs_goto X.1 dX1_commandIsWhole_25 (by decide),
  List.forall_mem_cons.mpr ⟨fun X => zs_iconst X.1 dX1_commandIsWhole_28 (by decide) rfl,
  List.forall_mem_cons.mpr ⟨fun X => zs_zret X.1 X.2.1 X.2.2.1 dX1_commandIsWhole_29,
  fun _ h9 => nomatch h9⟩⟩⟩⟩⟩⟩⟩⟩⟩⟩⟩⟩⟩⟩⟩
theorem zG_X1_commandIsWhole_0 : ∀ q ∈ zT_X1_commandIsWhole_0, zmono q.2 := List.forall_mem_cons.mpr ⟨zm_aload 0 1, List.forall_mem_cons.mpr ⟨zm_getf 1 3 4, List.forall_mem_cons.mpr ⟨zm_iconst 114 6, List.forall_mem_cons.mpr ⟨zm_icmpne 16 9, List.forall_mem_cons.mpr ⟨zm_aload 0 10, List.forall_mem_cons.mpr ⟨zm_getf 1 4 13, List.forall_mem_cons.mpr ⟨zm_goto 20 [], List.forall_mem_cons.mpr ⟨zm_aload 0 17, List.forall_mem_cons.mpr ⟨zm_getf 1 6 20, List.forall_mem_cons.mpr ⟨zm_iconst (-1) 21, List.forall_mem_cons.mpr ⟨zm_icmpeq 28 24, List.forall_mem_cons.mpr ⟨zm_iconst 1 25, List.forall_mem_cons.mpr ⟨zm_goto 29 [], List.forall_mem_cons.mpr ⟨zm_iconst 0 29, List.forall_mem_cons.mpr ⟨zm_zret, fun _ h9 => nomatch h9⟩⟩⟩⟩⟩⟩⟩⟩⟩⟩⟩⟩⟩⟩⟩
theorem zE_X1_commandIsWhole : ∀ L ∈ zT_X1_commandIsWhole, ∀ q ∈ L, zEnt yX1_commandIsWhole cX1_commandIsWhole 1 (some .boolean) [] { frames := 0, cells := 0, slots := 0, locals := 0 } q := List.forall_mem_cons.mpr ⟨zE_X1_commandIsWhole_0, fun _ h9 => nomatch h9⟩
theorem zG_X1_commandIsWhole : ∀ L ∈ zT_X1_commandIsWhole, ∀ q ∈ L, zmono q.2 := List.forall_mem_cons.mpr ⟨zG_X1_commandIsWhole_0, fun _ h9 => nomatch h9⟩
set_option maxRecDepth 100000 in
theorem zE_X1_take_0 : ∀ q ∈ zT_X1_take_0, zEnt yX1_take cX1_take 2 (some .boolean) [] { frames := 2, cells := 0, slots := 0, locals := 45 } q := List.forall_mem_cons.mpr ⟨fun X => zs_iload_n X.1 dX1_take_0 rfl rfl,
  List.forall_mem_cons.mpr ⟨fun X => zs_bipush X.1 dX1_take_1 (by decide) rfl,
  List.forall_mem_cons.mpr ⟨fun X => zs_icmpne X.1 dX1_take_3 (by decide) rfl,
  List.forall_mem_cons.mpr ⟨fun X => zs_aload_n X.1 dX1_take_6 rfl rfl,
  List.forall_mem_cons.mpr ⟨fun X => zs_callV (Cn := RX1) X.1 zNw_ok (fun _ h9 => Or.inr h9) X.2.2.2.2.2.1 X.2.2.2.2.2.2.1 zcal_23 rfl ⟨rfl, rfl⟩ wm_54 rfl wm_55 wm_56 dX1_take_7 rfl,
  List.forall_mem_cons.mpr ⟨fun X => zs_ifeq X.1 dX1_take_10 (by decide) rfl,
  List.forall_mem_cons.mpr ⟨fun X => zs_aload_n X.1 dX1_take_13 rfl rfl,
  List.forall_mem_cons.mpr ⟨fun X => zs_callV (Cn := RX1) X.1 zNw_ok (fun _ h9 => Or.inr h9) X.2.2.2.2.2.1 X.2.2.2.2.2.2.1 zcal_22 rfl ⟨rfl, rfl⟩ wm_42 rfl wm_43 wm_44 dX1_take_14 rfl,
  List.forall_mem_cons.mpr ⟨fun X => zs_iconst X.1 dX1_take_17 (by decide) rfl,
  List.forall_mem_cons.mpr ⟨fun X => zs_zret X.1 X.2.1 X.2.2.1 dX1_take_18,
  List.forall_mem_cons.mpr ⟨fun X => zs_aload_n X.1 dX1_take_19 rfl rfl,
  List.forall_mem_cons.mpr ⟨fun X => zs_getf (T := TX1) (N := 7) (k := 2) X.1 X.2.2.2.2.2.1 uX1_in rfl (by decide) wm_37 rfl dX1_take_20 rfl,
  List.forall_mem_cons.mpr ⟨fun X => zs_iconst X.1 dX1_take_23 (by decide) rfl,
  List.forall_mem_cons.mpr ⟨fun X => zs_icmpne X.1 dX1_take_24 (by decide) rfl,
  List.forall_mem_cons.mpr ⟨fun X => zs_aload_n X.1 dX1_take_27 rfl rfl,
  List.forall_mem_cons.mpr ⟨fun X => zs_iload_n X.1 dX1_take_28 rfl rfl,
  List.forall_mem_cons.mpr ⟨fun X => zs_callV (Cn := RX1) X.1 zNw_ok (fun _ h9 => Or.inr h9) X.2.2.2.2.2.1 X.2.2.2.2.2.2.1 zcal_25 rfl ⟨rfl, rfl⟩ wm_57 rfl wm_58 wm_59 dX1_take_29 rfl,
  List.forall_mem_cons.mpr ⟨fun X => zs_zret X.1 X.2.1 X.2.2.1 dX1_take_32,
  List.forall_mem_cons.mpr ⟨fun X => zs_aload_n X.1 dX1_take_33 rfl rfl,
  List.forall_mem_cons.mpr ⟨fun X => zs_getf (T := TX1) (N := 7) (k := 3) X.1 X.2.2.2.2.2.1 uX1_in rfl (by decide) wm_38 rfl dX1_take_34 rfl,
  List.forall_mem_cons.mpr ⟨fun X => zs_iconst X.1 dX1_take_37 (by decide) rfl,
  List.forall_mem_cons.mpr ⟨fun X => zs_icmpne X.1 dX1_take_38 (by decide) rfl,
  List.forall_mem_cons.mpr ⟨fun X => zs_aload_n X.1 dX1_take_41 rfl rfl,
  List.forall_mem_cons.mpr ⟨fun X => zs_iload_n X.1 dX1_take_42 rfl rfl,
  List.forall_mem_cons.mpr ⟨fun X => zs_callV (Cn := RX1) X.1 zNw_ok (fun _ h9 => Or.inr h9) X.2.2.2.2.2.1 X.2.2.2.2.2.2.1 zcal_26 rfl ⟨rfl, rfl⟩ wm_60 rfl wm_61 wm_62 dX1_take_43 rfl,
  List.forall_mem_cons.mpr ⟨fun X => zs_zret X.1 X.2.1 X.2.2.1 dX1_take_46,
  List.forall_mem_cons.mpr ⟨fun X => zs_aload_n X.1 dX1_take_47 rfl rfl,
  List.forall_mem_cons.mpr ⟨fun X => zs_getf (T := TX1) (N := 7) (k := 5) X.1 X.2.2.2.2.2.1 uX1_in rfl (by decide) wm_40 rfl dX1_take_48 rfl,
  List.forall_mem_cons.mpr ⟨fun X => zs_ifeq X.1 dX1_take_51 (by decide) rfl,
  List.forall_mem_cons.mpr ⟨fun X => zs_aload_n X.1 dX1_take_54 rfl rfl,
  List.forall_mem_cons.mpr ⟨fun X => zs_iload_n X.1 dX1_take_55 rfl rfl,
  List.forall_mem_cons.mpr ⟨fun X => zs_callV (Cn := RX1) X.1 zNw_ok (fun _ h9 => Or.inr h9) X.2.2.2.2.2.1 X.2.2.2.2.2.2.1 zcal_28 rfl ⟨rfl, rfl⟩ wm_63 rfl wm_64 wm_65 dX1_take_56 rfl,
  List.forall_mem_cons.mpr ⟨fun X => zs_goto X.1 dX1_take_59 (by decide),
  List.forall_mem_cons.mpr ⟨fun X => zs_aload_n X.1 dX1_take_62 rfl rfl,
  List.forall_mem_cons.mpr ⟨fun X => zs_iload_n X.1 dX1_take_63 rfl rfl,
  fun _ h9 => nomatch h9⟩⟩⟩⟩⟩⟩⟩⟩⟩⟩⟩⟩⟩⟩⟩⟩⟩⟩⟩⟩⟩⟩⟩⟩⟩⟩⟩⟩⟩⟩⟩⟩⟩⟩⟩
theorem zG_X1_take_0 : ∀ q ∈ zT_X1_take_0, zmono q.2 := List.forall_mem_cons.mpr ⟨zm_iload 1 1, List.forall_mem_cons.mpr ⟨zm_iconst 59 3, List.forall_mem_cons.mpr ⟨zm_icmpne 19 6, List.forall_mem_cons.mpr ⟨zm_aload 0 7, List.forall_mem_cons.mpr ⟨zm_callv 1 23 1 10, List.forall_mem_cons.mpr ⟨zm_ifeq 19 13, List.forall_mem_cons.mpr ⟨zm_aload 0 14, List.forall_mem_cons.mpr ⟨zm_callv 1 22 1 17, List.forall_mem_cons.mpr ⟨zm_iconst 1 18, List.forall_mem_cons.mpr ⟨zm_zret, List.forall_mem_cons.mpr ⟨zm_aload 0 20, List.forall_mem_cons.mpr ⟨zm_getf 1 2 23, List.forall_mem_cons.mpr ⟨zm_iconst (-1) 24, List.forall_mem_cons.mpr ⟨zm_icmpne 33 27, List.forall_mem_cons.mpr ⟨zm_aload 0 28, List.forall_mem_cons.mpr ⟨zm_iload 1 29, List.forall_mem_cons.mpr ⟨zm_callv 1 25 2 32, List.forall_mem_cons.mpr ⟨zm_zret, List.forall_mem_cons.mpr ⟨zm_aload 0 34, List.forall_mem_cons.mpr ⟨zm_getf 1 3 37, List.forall_mem_cons.mpr ⟨zm_iconst (-1) 38, List.forall_mem_cons.mpr ⟨zm_icmpne 47 41, List.forall_mem_cons.mpr ⟨zm_aload 0 42, List.forall_mem_cons.mpr ⟨zm_iload 1 43, List.forall_mem_cons.mpr ⟨zm_callv 1 26 2 46, List.forall_mem_cons.mpr ⟨zm_zret, List.forall_mem_cons.mpr ⟨zm_aload 0 48, List.forall_mem_cons.mpr ⟨zm_getf 1 5 51, List.forall_mem_cons.mpr ⟨zm_ifeq 62 54, List.forall_mem_cons.mpr ⟨zm_aload 0 55, List.forall_mem_cons.mpr ⟨zm_iload 1 56, List.forall_mem_cons.mpr ⟨zm_callv 1 28 2 59, List.forall_mem_cons.mpr ⟨zm_goto 67 [], List.forall_mem_cons.mpr ⟨zm_aload 0 63, List.forall_mem_cons.mpr ⟨zm_iload 1 64, fun _ h9 => nomatch h9⟩⟩⟩⟩⟩⟩⟩⟩⟩⟩⟩⟩⟩⟩⟩⟩⟩⟩⟩⟩⟩⟩⟩⟩⟩⟩⟩⟩⟩⟩⟩⟩⟩⟩⟩
set_option maxRecDepth 100000 in
theorem zE_X1_take_1 : ∀ q ∈ zT_X1_take_1, zEnt yX1_take cX1_take 2 (some .boolean) [] { frames := 2, cells := 0, slots := 0, locals := 45 } q := List.forall_mem_cons.mpr ⟨fun X => zs_callV (Cn := RX1) X.1 zNw_ok (fun _ h9 => Or.inr h9) X.2.2.2.2.2.1 X.2.2.2.2.2.2.1 zcal_27 rfl ⟨rfl, rfl⟩ wm_66 rfl wm_67 wm_68 dX1_take_64 rfl,
  List.forall_mem_cons.mpr ⟨fun X => zs_zret X.1 X.2.1 X.2.2.1 dX1_take_67,
  fun _ h9 => nomatch h9⟩⟩
theorem zG_X1_take_1 : ∀ q ∈ zT_X1_take_1, zmono q.2 := List.forall_mem_cons.mpr ⟨zm_callv 1 27 2 67, List.forall_mem_cons.mpr ⟨zm_zret, fun _ h9 => nomatch h9⟩⟩
theorem zE_X1_take : ∀ L ∈ zT_X1_take, ∀ q ∈ L, zEnt yX1_take cX1_take 2 (some .boolean) [] { frames := 2, cells := 0, slots := 0, locals := 45 } q := List.forall_mem_cons.mpr ⟨zE_X1_take_0, List.forall_mem_cons.mpr ⟨zE_X1_take_1, fun _ h9 => nomatch h9⟩⟩
theorem zG_X1_take : ∀ L ∈ zT_X1_take, ∀ q ∈ L, zmono q.2 := List.forall_mem_cons.mpr ⟨zG_X1_take_0, List.forall_mem_cons.mpr ⟨zG_X1_take_1, fun _ h9 => nomatch h9⟩⟩
set_option maxRecDepth 100000 in
theorem zE_X1_takeDraft_0 : ∀ q ∈ zT_X1_takeDraft_0, zEnt yX1_takeDraft cX1_takeDraft 2 (some .boolean) [] { frames := 0, cells := 0, slots := 0, locals := 0 } q := List.forall_mem_cons.mpr ⟨fun X => zs_iload_n X.1 dX1_takeDraft_0 rfl rfl,
  List.forall_mem_cons.mpr ⟨fun X => zs_bipush X.1 dX1_takeDraft_1 (by decide) rfl,
  List.forall_mem_cons.mpr ⟨fun X => zs_icmpeq X.1 dX1_takeDraft_3 (by decide) rfl,
  List.forall_mem_cons.mpr ⟨fun X => zs_iload_n X.1 dX1_takeDraft_6 rfl rfl,
  List.forall_mem_cons.mpr ⟨fun X => zs_bipush X.1 dX1_takeDraft_7 (by decide) rfl,
  List.forall_mem_cons.mpr ⟨fun X => zs_icmpeq X.1 dX1_takeDraft_9 (by decide) rfl,
  List.forall_mem_cons.mpr ⟨fun X => zs_iconst X.1 dX1_takeDraft_12 (by decide) rfl,
  List.forall_mem_cons.mpr ⟨fun X => zs_zret X.1 X.2.1 X.2.2.1 dX1_takeDraft_13,
  List.forall_mem_cons.mpr ⟨fun X => zs_aload_n X.1 dX1_takeDraft_14 rfl rfl,
  List.forall_mem_cons.mpr ⟨fun X => zs_iload_n X.1 dX1_takeDraft_15 rfl rfl,
  List.forall_mem_cons.mpr ⟨fun X => zs_bipush X.1 dX1_takeDraft_16 (by decide) rfl,
  List.forall_mem_cons.mpr ⟨fun X => zs_isub X.1 dX1_takeDraft_18 rfl,
  List.forall_mem_cons.mpr ⟨fun X => zs_putf (T := TX1) (N := 7) (k := 2) X.1 X.2.2.2.2.2.1 uX1_in tyX1 tyX1_ok nmX1 rfl (by decide) wm_37 rfl rfl (tyX1_ok 2 (by decide)) dX1_takeDraft_19 rfl,
  List.forall_mem_cons.mpr ⟨fun X => zs_iconst X.1 dX1_takeDraft_22 (by decide) rfl,
  List.forall_mem_cons.mpr ⟨fun X => zs_zret X.1 X.2.1 X.2.2.1 dX1_takeDraft_23,
  fun _ h9 => nomatch h9⟩⟩⟩⟩⟩⟩⟩⟩⟩⟩⟩⟩⟩⟩⟩
theorem zG_X1_takeDraft_0 : ∀ q ∈ zT_X1_takeDraft_0, zmono q.2 := List.forall_mem_cons.mpr ⟨zm_iload 1 1, List.forall_mem_cons.mpr ⟨zm_iconst 48 3, List.forall_mem_cons.mpr ⟨zm_icmpeq 14 6, List.forall_mem_cons.mpr ⟨zm_iload 1 7, List.forall_mem_cons.mpr ⟨zm_iconst 49 9, List.forall_mem_cons.mpr ⟨zm_icmpeq 14 12, List.forall_mem_cons.mpr ⟨zm_iconst 0 13, List.forall_mem_cons.mpr ⟨zm_zret, List.forall_mem_cons.mpr ⟨zm_aload 0 15, List.forall_mem_cons.mpr ⟨zm_iload 1 16, List.forall_mem_cons.mpr ⟨zm_iconst 48 18, List.forall_mem_cons.mpr ⟨zm_isub 19, List.forall_mem_cons.mpr ⟨zm_putf 1 2 .int 22, List.forall_mem_cons.mpr ⟨zm_iconst 1 23, List.forall_mem_cons.mpr ⟨zm_zret, fun _ h9 => nomatch h9⟩⟩⟩⟩⟩⟩⟩⟩⟩⟩⟩⟩⟩⟩⟩
theorem zE_X1_takeDraft : ∀ L ∈ zT_X1_takeDraft, ∀ q ∈ L, zEnt yX1_takeDraft cX1_takeDraft 2 (some .boolean) [] { frames := 0, cells := 0, slots := 0, locals := 0 } q := List.forall_mem_cons.mpr ⟨zE_X1_takeDraft_0, fun _ h9 => nomatch h9⟩
theorem zG_X1_takeDraft : ∀ L ∈ zT_X1_takeDraft, ∀ q ∈ L, zmono q.2 := List.forall_mem_cons.mpr ⟨zG_X1_takeDraft_0, fun _ h9 => nomatch h9⟩
set_option maxRecDepth 100000 in
theorem zE_X1_takeKind_0 : ∀ q ∈ zT_X1_takeKind_0, zEnt yX1_takeKind cX1_takeKind 2 (some .boolean) [] { frames := 0, cells := 0, slots := 0, locals := 0 } q := List.forall_mem_cons.mpr ⟨fun X => zs_iload_n X.1 dX1_takeKind_0 rfl rfl,
  List.forall_mem_cons.mpr ⟨fun X => zs_bipush X.1 dX1_takeKind_1 (by decide) rfl,
  List.forall_mem_cons.mpr ⟨fun X => zs_icmpeq X.1 dX1_takeKind_3 (by decide) rfl,
  List.forall_mem_cons.mpr ⟨fun X => zs_iload_n X.1 dX1_takeKind_6 rfl rfl,
  List.forall_mem_cons.mpr ⟨fun X => zs_bipush X.1 dX1_takeKind_7 (by decide) rfl,
  List.forall_mem_cons.mpr ⟨fun X => zs_icmpeq X.1 dX1_takeKind_9 (by decide) rfl,
  List.forall_mem_cons.mpr ⟨fun X => zs_iload_n X.1 dX1_takeKind_12 rfl rfl,
  List.forall_mem_cons.mpr ⟨fun X => zs_bipush X.1 dX1_takeKind_13 (by decide) rfl,
  List.forall_mem_cons.mpr ⟨fun X => zs_icmpeq X.1 dX1_takeKind_15 (by decide) rfl,
  List.forall_mem_cons.mpr ⟨fun X => zs_iload_n X.1 dX1_takeKind_18 rfl rfl,
  List.forall_mem_cons.mpr ⟨fun X => zs_bipush X.1 dX1_takeKind_19 (by decide) rfl,
  List.forall_mem_cons.mpr ⟨fun X => zs_icmpeq X.1 dX1_takeKind_21 (by decide) rfl,
  List.forall_mem_cons.mpr ⟨fun X => zs_iconst X.1 dX1_takeKind_24 (by decide) rfl,
  List.forall_mem_cons.mpr ⟨fun X => zs_zret X.1 X.2.1 X.2.2.1 dX1_takeKind_25,
  List.forall_mem_cons.mpr ⟨fun X => zs_aload_n X.1 dX1_takeKind_26 rfl rfl,
  List.forall_mem_cons.mpr ⟨fun X => zs_iload_n X.1 dX1_takeKind_27 rfl rfl,
  List.forall_mem_cons.mpr ⟨fun X => zs_putf (T := TX1) (N := 7) (k := 3) X.1 X.2.2.2.2.2.1 uX1_in tyX1 tyX1_ok nmX1 rfl (by decide) wm_38 rfl rfl (tyX1_ok 3 (by decide)) dX1_takeKind_28 rfl,
  List.forall_mem_cons.mpr ⟨fun X => zs_iconst X.1 dX1_takeKind_31 (by decide) rfl,
  List.forall_mem_cons.mpr ⟨fun X => zs_zret X.1 X.2.1 X.2.2.1 dX1_takeKind_32,
  fun _ h9 => nomatch h9⟩⟩⟩⟩⟩⟩⟩⟩⟩⟩⟩⟩⟩⟩⟩⟩⟩⟩⟩
theorem zG_X1_takeKind_0 : ∀ q ∈ zT_X1_takeKind_0, zmono q.2 := List.forall_mem_cons.mpr ⟨zm_iload 1 1, List.forall_mem_cons.mpr ⟨zm_iconst 101 3, List.forall_mem_cons.mpr ⟨zm_icmpeq 26 6, List.forall_mem_cons.mpr ⟨zm_iload 1 7, List.forall_mem_cons.mpr ⟨zm_iconst 109 9, List.forall_mem_cons.mpr ⟨zm_icmpeq 26 12, List.forall_mem_cons.mpr ⟨zm_iload 1 13, List.forall_mem_cons.mpr ⟨zm_iconst 105 15, List.forall_mem_cons.mpr ⟨zm_icmpeq 26 18, List.forall_mem_cons.mpr ⟨zm_iload 1 19, List.forall_mem_cons.mpr ⟨zm_iconst 114 21, List.forall_mem_cons.mpr ⟨zm_icmpeq 26 24, List.forall_mem_cons.mpr ⟨zm_iconst 0 25, List.forall_mem_cons.mpr ⟨zm_zret, List.forall_mem_cons.mpr ⟨zm_aload 0 27, List.forall_mem_cons.mpr ⟨zm_iload 1 28, List.forall_mem_cons.mpr ⟨zm_putf 1 3 .int 31, List.forall_mem_cons.mpr ⟨zm_iconst 1 32, List.forall_mem_cons.mpr ⟨zm_zret, fun _ h9 => nomatch h9⟩⟩⟩⟩⟩⟩⟩⟩⟩⟩⟩⟩⟩⟩⟩⟩⟩⟩⟩
theorem zE_X1_takeKind : ∀ L ∈ zT_X1_takeKind, ∀ q ∈ L, zEnt yX1_takeKind cX1_takeKind 2 (some .boolean) [] { frames := 0, cells := 0, slots := 0, locals := 0 } q := List.forall_mem_cons.mpr ⟨zE_X1_takeKind_0, fun _ h9 => nomatch h9⟩
theorem zG_X1_takeKind : ∀ L ∈ zT_X1_takeKind, ∀ q ∈ L, zmono q.2 := List.forall_mem_cons.mpr ⟨zG_X1_takeKind_0, fun _ h9 => nomatch h9⟩
set_option maxRecDepth 100000 in
theorem zE_X1_takeFirst_0 : ∀ q ∈ zT_X1_takeFirst_0, zEnt yX1_takeFirst cX1_takeFirst 3 (some .boolean) [] { frames := 1, cells := 0, slots := 0, locals := 23 } q := List.forall_mem_cons.mpr ⟨fun X => zs_aload_n X.1 dX1_takeFirst_0 rfl rfl,
  List.forall_mem_cons.mpr ⟨fun X => zs_getf (T := TX1) (N := 7) (k := 4) X.1 X.2.2.2.2.2.1 uX1_in rfl (by decide) wm_39 rfl dX1_takeFirst_1 rfl,
  List.forall_mem_cons.mpr ⟨fun X => zs_iconst X.1 dX1_takeFirst_4 (by decide) rfl,
  List.forall_mem_cons.mpr ⟨fun X => zs_icmpeq X.1 dX1_takeFirst_5 (by decide) rfl,
  List.forall_mem_cons.mpr ⟨fun X => zs_aload_n X.1 dX1_takeFirst_8 rfl rfl,
  List.forall_mem_cons.mpr ⟨fun X => zs_getf (T := TX1) (N := 7) (k := 3) X.1 X.2.2.2.2.2.1 uX1_in rfl (by decide) wm_38 rfl dX1_takeFirst_9 rfl,
  List.forall_mem_cons.mpr ⟨fun X => zs_bipush X.1 dX1_takeFirst_12 (by decide) rfl,
  List.forall_mem_cons.mpr ⟨fun X => zs_icmpeq X.1 dX1_takeFirst_14 (by decide) rfl,
  List.forall_mem_cons.mpr ⟨fun X => zs_iload_n X.1 dX1_takeFirst_17 rfl rfl,
  List.forall_mem_cons.mpr ⟨fun X => zs_aload_n X.1 dX1_takeFirst_18 rfl rfl,
  List.forall_mem_cons.mpr ⟨fun X => zs_getf (T := TX1) (N := 7) (k := 3) X.1 X.2.2.2.2.2.1 uX1_in rfl (by decide) wm_38 rfl dX1_takeFirst_19 rfl,
  List.forall_mem_cons.mpr ⟨fun X => zs_bipush X.1 dX1_takeFirst_22 (by decide) rfl,
  List.forall_mem_cons.mpr ⟨fun X => zs_icmpne X.1 dX1_takeFirst_24 (by decide) rfl,
  List.forall_mem_cons.mpr ⟨fun X => zs_bipush X.1 dX1_takeFirst_27 (by decide) rfl,
  List.forall_mem_cons.mpr ⟨fun X => zs_goto X.1 dX1_takeFirst_29 (by decide),
  List.forall_mem_cons.mpr ⟨fun X => zs_bipush X.1 dX1_takeFirst_32 (by decide) rfl,
  List.forall_mem_cons.mpr ⟨fun X => zs_icmpne X.1 dX1_takeFirst_34 (by decide) rfl,
  List.forall_mem_cons.mpr ⟨fun X => zs_aload_n X.1 dX1_takeFirst_37 rfl rfl,
  List.forall_mem_cons.mpr ⟨fun X => zs_iconst X.1 dX1_takeFirst_38 (by decide) rfl,
  List.forall_mem_cons.mpr ⟨fun X => zs_putf (T := TX1) (N := 7) (k := 5) X.1 X.2.2.2.2.2.1 uX1_in tyX1 tyX1_ok nmX1 rfl (by decide) wm_40 rfl rfl (tyX1_ok 5 (by decide)) dX1_takeFirst_39 rfl,
  List.forall_mem_cons.mpr ⟨fun X => zs_iconst X.1 dX1_takeFirst_42 (by decide) rfl,
  List.forall_mem_cons.mpr ⟨fun X => zs_zret X.1 X.2.1 X.2.2.1 dX1_takeFirst_43,
  List.forall_mem_cons.mpr ⟨fun X => zs_aload_n X.1 dX1_takeFirst_44 rfl rfl,
  List.forall_mem_cons.mpr ⟨fun X => zs_getf (T := TX1) (N := 7) (k := 4) X.1 X.2.2.2.2.2.1 uX1_in rfl (by decide) wm_39 rfl dX1_takeFirst_45 rfl,
  List.forall_mem_cons.mpr ⟨fun X => zs_iload_n X.1 dX1_takeFirst_48 rfl rfl,
  List.forall_mem_cons.mpr ⟨fun X => zs_bipush X.1 dX1_takeFirst_49 (by decide) rfl,
  List.forall_mem_cons.mpr ⟨fun X => zs_callS X.1 zNw_ok (fun _ h9 => Or.inr h9) X.2.2.2.2.2.1 X.2.2.2.2.2.2.1 zcal_29 rfl ⟨rfl, rfl⟩ wm_69 wm_70 dX1_takeFirst_51 rfl,
  List.forall_mem_cons.mpr ⟨fun X => zs_istore_n X.1 dX1_takeFirst_54 rfl (Nat.le_of_ble_eq_true rfl) rfl,
  List.forall_mem_cons.mpr ⟨fun X => zs_aload_n X.1 dX1_takeFirst_55 rfl rfl,
  List.forall_mem_cons.mpr ⟨fun X => zs_iload_n X.1 dX1_takeFirst_56 rfl rfl,
  List.forall_mem_cons.mpr ⟨fun X => zs_iconst X.1 dX1_takeFirst_57 (by decide) rfl,
  List.forall_mem_cons.mpr ⟨fun X => zs_icmpne X.1 dX1_takeFirst_58 (by decide) rfl,
  List.forall_mem_cons.mpr ⟨fun X => zs_aload_n X.1 dX1_takeFirst_61 rfl rfl,
  List.forall_mem_cons.mpr ⟨fun X => zs_getf (T := TX1) (N := 7) (k := 4) X.1 X.2.2.2.2.2.1 uX1_in rfl (by decide) wm_39 rfl dX1_takeFirst_62 rfl,
  fun _ h9 => nomatch h9⟩⟩⟩⟩⟩⟩⟩⟩⟩⟩⟩⟩⟩⟩⟩⟩⟩⟩⟩⟩⟩⟩⟩⟩⟩⟩⟩⟩⟩⟩⟩⟩⟩⟩
theorem zG_X1_takeFirst_0 : ∀ q ∈ zT_X1_takeFirst_0, zmono q.2 := List.forall_mem_cons.mpr ⟨zm_aload 0 1, List.forall_mem_cons.mpr ⟨zm_getf 1 4 4, List.forall_mem_cons.mpr ⟨zm_iconst (-1) 5, List.forall_mem_cons.mpr ⟨zm_icmpeq 44 8, List.forall_mem_cons.mpr ⟨zm_aload 0 9, List.forall_mem_cons.mpr ⟨zm_getf 1 3 12, List.forall_mem_cons.mpr ⟨zm_iconst 114 14, List.forall_mem_cons.mpr ⟨zm_icmpeq 44 17, List.forall_mem_cons.mpr ⟨zm_iload 1 18, List.forall_mem_cons.mpr ⟨zm_aload 0 19, List.forall_mem_cons.mpr ⟨zm_getf 1 3 22, List.forall_mem_cons.mpr ⟨zm_iconst 109 24, List.forall_mem_cons.mpr ⟨zm_icmpne 32 27, List.forall_mem_cons.mpr ⟨zm_iconst 62 29, List.forall_mem_cons.mpr ⟨zm_goto 34 [], List.forall_mem_cons.mpr ⟨zm_iconst 61 34, List.forall_mem_cons.mpr ⟨zm_icmpne 44 37, List.forall_mem_cons.mpr ⟨zm_aload 0 38, List.forall_mem_cons.mpr ⟨zm_iconst 1 39, List.forall_mem_cons.mpr ⟨zm_putf 1 5 .boolean 42, List.forall_mem_cons.mpr ⟨zm_iconst 1 43, List.forall_mem_cons.mpr ⟨zm_zret, List.forall_mem_cons.mpr ⟨zm_aload 0 45, List.forall_mem_cons.mpr ⟨zm_getf 1 4 48, List.forall_mem_cons.mpr ⟨zm_iload 1 49, List.forall_mem_cons.mpr ⟨zm_iconst 15 51, List.forall_mem_cons.mpr ⟨zm_call 29 3 54, List.forall_mem_cons.mpr ⟨zm_istore 2 55, List.forall_mem_cons.mpr ⟨zm_aload 0 56, List.forall_mem_cons.mpr ⟨zm_iload 2 57, List.forall_mem_cons.mpr ⟨zm_iconst (-1) 58, List.forall_mem_cons.mpr ⟨zm_icmpne 68 61, List.forall_mem_cons.mpr ⟨zm_aload 0 62, List.forall_mem_cons.mpr ⟨zm_getf 1 4 65, fun _ h9 => nomatch h9⟩⟩⟩⟩⟩⟩⟩⟩⟩⟩⟩⟩⟩⟩⟩⟩⟩⟩⟩⟩⟩⟩⟩⟩⟩⟩⟩⟩⟩⟩⟩⟩⟩⟩
set_option maxRecDepth 100000 in
theorem zE_X1_takeFirst_1 : ∀ q ∈ zT_X1_takeFirst_1, zEnt yX1_takeFirst cX1_takeFirst 3 (some .boolean) [] { frames := 1, cells := 0, slots := 0, locals := 23 } q := List.forall_mem_cons.mpr ⟨fun X => zs_goto X.1 dX1_takeFirst_65 (by decide),
  List.forall_mem_cons.mpr ⟨fun X => zs_iload_n X.1 dX1_takeFirst_68 rfl rfl,
  List.forall_mem_cons.mpr ⟨fun X => zs_putf (T := TX1) (N := 7) (k := 4) X.1 X.2.2.2.2.2.1 uX1_in tyX1 tyX1_ok nmX1 rfl (by decide) wm_39 rfl rfl (tyX1_ok 4 (by decide)) dX1_takeFirst_69 rfl,
  List.forall_mem_cons.mpr ⟨fun X => zs_iload_n X.1 dX1_takeFirst_72 rfl rfl,
  List.forall_mem_cons.mpr ⟨fun X => zs_iconst X.1 dX1_takeFirst_73 (by decide) rfl,
  List.forall_mem_cons.mpr ⟨fun X => zs_icmpeq X.1 dX1_takeFirst_74 (by decide) rfl,
  List.forall_mem_cons.mpr ⟨fun X => zs_iconst X.1 dX1_takeFirst_77 (by decide) rfl,
  List.forall_mem_cons.mpr ⟨fun X => zs_goto X.1 dX1_takeFirst_78 (by decide),
  List.forall_mem_cons.mpr ⟨fun X => zs_iconst X.1 dX1_takeFirst_81 (by decide) rfl,
  List.forall_mem_cons.mpr ⟨fun X => zs_zret X.1 X.2.1 X.2.2.1 dX1_takeFirst_82,
  fun _ h9 => nomatch h9⟩⟩⟩⟩⟩⟩⟩⟩⟩⟩
theorem zG_X1_takeFirst_1 : ∀ q ∈ zT_X1_takeFirst_1, zmono q.2 := List.forall_mem_cons.mpr ⟨zm_goto 69 [], List.forall_mem_cons.mpr ⟨zm_iload 2 69, List.forall_mem_cons.mpr ⟨zm_putf 1 4 .int 72, List.forall_mem_cons.mpr ⟨zm_iload 2 73, List.forall_mem_cons.mpr ⟨zm_iconst (-1) 74, List.forall_mem_cons.mpr ⟨zm_icmpeq 81 77, List.forall_mem_cons.mpr ⟨zm_iconst 1 78, List.forall_mem_cons.mpr ⟨zm_goto 82 [], List.forall_mem_cons.mpr ⟨zm_iconst 0 82, List.forall_mem_cons.mpr ⟨zm_zret, fun _ h9 => nomatch h9⟩⟩⟩⟩⟩⟩⟩⟩⟩⟩
theorem zE_X1_takeFirst : ∀ L ∈ zT_X1_takeFirst, ∀ q ∈ L, zEnt yX1_takeFirst cX1_takeFirst 3 (some .boolean) [] { frames := 1, cells := 0, slots := 0, locals := 23 } q := List.forall_mem_cons.mpr ⟨zE_X1_takeFirst_0, List.forall_mem_cons.mpr ⟨zE_X1_takeFirst_1, fun _ h9 => nomatch h9⟩⟩
theorem zG_X1_takeFirst : ∀ L ∈ zT_X1_takeFirst, ∀ q ∈ L, zmono q.2 := List.forall_mem_cons.mpr ⟨zG_X1_takeFirst_0, List.forall_mem_cons.mpr ⟨zG_X1_takeFirst_1, fun _ h9 => nomatch h9⟩⟩
set_option maxRecDepth 100000 in
theorem zE_X1_takeSecond_0 : ∀ q ∈ zT_X1_takeSecond_0, zEnt yX1_takeSecond cX1_takeSecond 3 (some .boolean) [] { frames := 1, cells := 0, slots := 0, locals := 23 } q := List.forall_mem_cons.mpr ⟨fun X => zs_aload_n X.1 dX1_takeSecond_0 rfl rfl,
  List.forall_mem_cons.mpr ⟨fun X => zs_getf (T := TX1) (N := 7) (k := 6) X.1 X.2.2.2.2.2.1 uX1_in rfl (by decide) wm_41 rfl dX1_takeSecond_1 rfl,
  List.forall_mem_cons.mpr ⟨fun X => zs_iload_n X.1 dX1_takeSecond_4 rfl rfl,
  List.forall_mem_cons.mpr ⟨fun X => zs_aload_n X.1 dX1_takeSecond_5 rfl rfl,
  List.forall_mem_cons.mpr ⟨fun X => zs_getf (T := TX1) (N := 7) (k := 3) X.1 X.2.2.2.2.2.1 uX1_in rfl (by decide) wm_38 rfl dX1_takeSecond_6 rfl,
  List.forall_mem_cons.mpr ⟨fun X => zs_bipush X.1 dX1_takeSecond_9 (by decide) rfl,
  List.forall_mem_cons.mpr ⟨fun X => zs_icmpne X.1 dX1_takeSecond_11 (by decide) rfl,
  List.forall_mem_cons.mpr ⟨fun X => zs_bipush X.1 dX1_takeSecond_14 (by decide) rfl,
  List.forall_mem_cons.mpr ⟨fun X => zs_goto X.1 dX1_takeSecond_16 (by decide),
  List.forall_mem_cons.mpr ⟨fun X => zs_bipush X.1 dX1_takeSecond_19 (by decide) rfl,
  List.forall_mem_cons.mpr ⟨fun X => zs_callS X.1 zNw_ok (fun _ h9 => Or.inr h9) X.2.2.2.2.2.1 X.2.2.2.2.2.2.1 zcal_29 rfl ⟨rfl, rfl⟩ wm_69 wm_70 dX1_takeSecond_21 rfl,
  List.forall_mem_cons.mpr ⟨fun X => zs_istore_n X.1 dX1_takeSecond_24 rfl (Nat.le_of_ble_eq_true rfl) rfl,
  List.forall_mem_cons.mpr ⟨fun X => zs_aload_n X.1 dX1_takeSecond_25 rfl rfl,
  List.forall_mem_cons.mpr ⟨fun X => zs_iload_n X.1 dX1_takeSecond_26 rfl rfl,
  List.forall_mem_cons.mpr ⟨fun X => zs_iconst X.1 dX1_takeSecond_27 (by decide) rfl,
  List.forall_mem_cons.mpr ⟨fun X => zs_icmpne X.1 dX1_takeSecond_28 (by decide) rfl,
  List.forall_mem_cons.mpr ⟨fun X => zs_aload_n X.1 dX1_takeSecond_31 rfl rfl,
  List.forall_mem_cons.mpr ⟨fun X => zs_getf (T := TX1) (N := 7) (k := 6) X.1 X.2.2.2.2.2.1 uX1_in rfl (by decide) wm_41 rfl dX1_takeSecond_32 rfl,
  List.forall_mem_cons.mpr ⟨fun X => zs_goto X.1 dX1_takeSecond_35 (by decide),
  List.forall_mem_cons.mpr ⟨fun X => zs_iload_n X.1 dX1_takeSecond_38 rfl rfl,
  List.forall_mem_cons.mpr ⟨fun X => zs_putf (T := TX1) (N := 7) (k := 6) X.1 X.2.2.2.2.2.1 uX1_in tyX1 tyX1_ok nmX1 rfl (by decide) wm_41 rfl rfl (tyX1_ok 6 (by decide)) dX1_takeSecond_39 rfl,
  List.forall_mem_cons.mpr ⟨fun X => zs_iload_n X.1 dX1_takeSecond_42 rfl rfl,
  List.forall_mem_cons.mpr ⟨fun X => zs_iconst X.1 dX1_takeSecond_43 (by decide) rfl,
  List.forall_mem_cons.mpr ⟨fun X => zs_icmpeq X.1 dX1_takeSecond_44 (by decide) rfl,
  List.forall_mem_cons.mpr ⟨fun X => zs_iconst X.1 dX1_takeSecond_47 (by decide) rfl,
  List.forall_mem_cons.mpr ⟨fun X => zs_goto X.1 dX1_takeSecond_48 (by decide),
  List.forall_mem_cons.mpr ⟨fun X => zs_iconst X.1 dX1_takeSecond_51 (by decide) rfl,
  List.forall_mem_cons.mpr ⟨fun X => zs_zret X.1 X.2.1 X.2.2.1 dX1_takeSecond_52,
  fun _ h9 => nomatch h9⟩⟩⟩⟩⟩⟩⟩⟩⟩⟩⟩⟩⟩⟩⟩⟩⟩⟩⟩⟩⟩⟩⟩⟩⟩⟩⟩⟩
theorem zG_X1_takeSecond_0 : ∀ q ∈ zT_X1_takeSecond_0, zmono q.2 := List.forall_mem_cons.mpr ⟨zm_aload 0 1, List.forall_mem_cons.mpr ⟨zm_getf 1 6 4, List.forall_mem_cons.mpr ⟨zm_iload 1 5, List.forall_mem_cons.mpr ⟨zm_aload 0 6, List.forall_mem_cons.mpr ⟨zm_getf 1 3 9, List.forall_mem_cons.mpr ⟨zm_iconst 109 11, List.forall_mem_cons.mpr ⟨zm_icmpne 19 14, List.forall_mem_cons.mpr ⟨zm_iconst 15 16, List.forall_mem_cons.mpr ⟨zm_goto 21 [], List.forall_mem_cons.mpr ⟨zm_iconst 99 21, List.forall_mem_cons.mpr ⟨zm_call 29 3 24, List.forall_mem_cons.mpr ⟨zm_istore 2 25, List.forall_mem_cons.mpr ⟨zm_aload 0 26, List.forall_mem_cons.mpr ⟨zm_iload 2 27, List.forall_mem_cons.mpr ⟨zm_iconst (-1) 28, List.forall_mem_cons.mpr ⟨zm_icmpne 38 31, List.forall_mem_cons.mpr ⟨zm_aload 0 32, List.forall_mem_cons.mpr ⟨zm_getf 1 6 35, List.forall_mem_cons.mpr ⟨zm_goto 39 [], List.forall_mem_cons.mpr ⟨zm_iload 2 39, List.forall_mem_cons.mpr ⟨zm_putf 1 6 .int 42, List.forall_mem_cons.mpr ⟨zm_iload 2 43, List.forall_mem_cons.mpr ⟨zm_iconst (-1) 44, List.forall_mem_cons.mpr ⟨zm_icmpeq 51 47, List.forall_mem_cons.mpr ⟨zm_iconst 1 48, List.forall_mem_cons.mpr ⟨zm_goto 52 [], List.forall_mem_cons.mpr ⟨zm_iconst 0 52, List.forall_mem_cons.mpr ⟨zm_zret, fun _ h9 => nomatch h9⟩⟩⟩⟩⟩⟩⟩⟩⟩⟩⟩⟩⟩⟩⟩⟩⟩⟩⟩⟩⟩⟩⟩⟩⟩⟩⟩⟩
theorem zE_X1_takeSecond : ∀ L ∈ zT_X1_takeSecond, ∀ q ∈ L, zEnt yX1_takeSecond cX1_takeSecond 3 (some .boolean) [] { frames := 1, cells := 0, slots := 0, locals := 23 } q := List.forall_mem_cons.mpr ⟨zE_X1_takeSecond_0, fun _ h9 => nomatch h9⟩
theorem zG_X1_takeSecond : ∀ L ∈ zT_X1_takeSecond, ∀ q ∈ L, zmono q.2 := List.forall_mem_cons.mpr ⟨zG_X1_takeSecond_0, fun _ h9 => nomatch h9⟩
set_option maxRecDepth 100000 in
theorem zE_X1_withDigit_0 : ∀ q ∈ zT_X1_withDigit_0, zEnt yX1_withDigit cX1_withDigit 4 (some .int) [] { frames := 0, cells := 0, slots := 0, locals := 0 } q := List.forall_mem_cons.mpr ⟨fun X => zs_iload_n X.1 dX1_withDigit_0 rfl rfl,
  List.forall_mem_cons.mpr ⟨fun X => zs_bipush X.1 dX1_withDigit_1 (by decide) rfl,
  List.forall_mem_cons.mpr ⟨fun X => zs_icmplt X.1 dX1_withDigit_3 (by decide) rfl,
  List.forall_mem_cons.mpr ⟨fun X => zs_iload_n X.1 dX1_withDigit_6 rfl rfl,
  List.forall_mem_cons.mpr ⟨fun X => zs_bipush X.1 dX1_withDigit_7 (by decide) rfl,
  List.forall_mem_cons.mpr ⟨fun X => zs_icmpgt X.1 dX1_withDigit_9 (by decide) rfl,
  List.forall_mem_cons.mpr ⟨fun X => zs_iload_n X.1 dX1_withDigit_12 rfl rfl,
  List.forall_mem_cons.mpr ⟨fun X => zs_ifne X.1 dX1_withDigit_13 (by decide) rfl,
  List.forall_mem_cons.mpr ⟨fun X => zs_iconst X.1 dX1_withDigit_16 (by decide) rfl,
  List.forall_mem_cons.mpr ⟨fun X => zs_iret X.1 X.2.1 X.2.2.1 dX1_withDigit_17,
  List.forall_mem_cons.mpr ⟨fun X => zs_iload_n X.1 dX1_withDigit_18 rfl rfl,
  List.forall_mem_cons.mpr ⟨fun X => zs_iconst X.1 dX1_withDigit_19 (by decide) rfl,
  List.forall_mem_cons.mpr ⟨fun X => zs_icmpne X.1 dX1_withDigit_20 (by decide) rfl,
  List.forall_mem_cons.mpr ⟨fun X => zs_iconst X.1 dX1_withDigit_23 (by decide) rfl,
  List.forall_mem_cons.mpr ⟨fun X => zs_goto X.1 dX1_withDigit_24 (by decide),
  List.forall_mem_cons.mpr ⟨fun X => zs_iload_n X.1 dX1_withDigit_27 rfl rfl,
  List.forall_mem_cons.mpr ⟨fun X => zs_bipush X.1 dX1_withDigit_28 (by decide) rfl,
  List.forall_mem_cons.mpr ⟨fun X => zs_imul X.1 dX1_withDigit_30 rfl,
  List.forall_mem_cons.mpr ⟨fun X => zs_iload_n X.1 dX1_withDigit_31 rfl rfl,
  List.forall_mem_cons.mpr ⟨fun X => zs_iadd X.1 dX1_withDigit_32 rfl,
  List.forall_mem_cons.mpr ⟨fun X => zs_bipush X.1 dX1_withDigit_33 (by decide) rfl,
  List.forall_mem_cons.mpr ⟨fun X => zs_isub X.1 dX1_withDigit_35 rfl,
  List.forall_mem_cons.mpr ⟨fun X => zs_istore_n X.1 dX1_withDigit_36 rfl (Nat.le_of_ble_eq_true rfl) rfl,
  List.forall_mem_cons.mpr ⟨fun X => zs_iload_n X.1 dX1_withDigit_37 rfl rfl,
  List.forall_mem_cons.mpr ⟨fun X => zs_iload_n X.1 dX1_withDigit_38 rfl rfl,
  List.forall_mem_cons.mpr ⟨fun X => zs_icmpgt X.1 dX1_withDigit_39 (by decide) rfl,
  List.forall_mem_cons.mpr ⟨fun X => zs_iload_n X.1 dX1_withDigit_42 rfl rfl,
  List.forall_mem_cons.mpr ⟨fun X => zs_goto X.1 dX1_withDigit_43 (by decide),
  List.forall_mem_cons.mpr ⟨fun X => zs_iconst X.1 dX1_withDigit_46 (by decide) rfl,
  List.forall_mem_cons.mpr ⟨fun X => zs_iret X.1 X.2.1 X.2.2.1 dX1_withDigit_47,
  fun _ h9 => nomatch h9⟩⟩⟩⟩⟩⟩⟩⟩⟩⟩⟩⟩⟩⟩⟩⟩⟩⟩⟩⟩⟩⟩⟩⟩⟩⟩⟩⟩⟩⟩
theorem zG_X1_withDigit_0 : ∀ q ∈ zT_X1_withDigit_0, zmono q.2 := List.forall_mem_cons.mpr ⟨zm_iload 1 1, List.forall_mem_cons.mpr ⟨zm_iconst 48 3, List.forall_mem_cons.mpr ⟨zm_icmplt 16 6, List.forall_mem_cons.mpr ⟨zm_iload 1 7, List.forall_mem_cons.mpr ⟨zm_iconst 57 9, List.forall_mem_cons.mpr ⟨zm_icmpgt 16 12, List.forall_mem_cons.mpr ⟨zm_iload 0 13, List.forall_mem_cons.mpr ⟨zm_ifne 18 16, List.forall_mem_cons.mpr ⟨zm_iconst (-1) 17, List.forall_mem_cons.mpr ⟨zm_iret, List.forall_mem_cons.mpr ⟨zm_iload 0 19, List.forall_mem_cons.mpr ⟨zm_iconst (-1) 20, List.forall_mem_cons.mpr ⟨zm_icmpne 27 23, List.forall_mem_cons.mpr ⟨zm_iconst 0 24, List.forall_mem_cons.mpr ⟨zm_goto 31 [], List.forall_mem_cons.mpr ⟨zm_iload 0 28, List.forall_mem_cons.mpr ⟨zm_iconst 10 30, List.forall_mem_cons.mpr ⟨zm_imul 31, List.forall_mem_cons.mpr ⟨zm_iload 1 32, List.forall_mem_cons.mpr ⟨zm_iadd 33, List.forall_mem_cons.mpr ⟨zm_iconst 48 35, List.forall_mem_cons.mpr ⟨zm_isub 36, List.forall_mem_cons.mpr ⟨zm_istore 3 37, List.forall_mem_cons.mpr ⟨zm_iload 3 38, List.forall_mem_cons.mpr ⟨zm_iload 2 39, List.forall_mem_cons.mpr ⟨zm_icmpgt 46 42, List.forall_mem_cons.mpr ⟨zm_iload 3 43, List.forall_mem_cons.mpr ⟨zm_goto 47 [], List.forall_mem_cons.mpr ⟨zm_iconst (-1) 47, List.forall_mem_cons.mpr ⟨zm_iret, fun _ h9 => nomatch h9⟩⟩⟩⟩⟩⟩⟩⟩⟩⟩⟩⟩⟩⟩⟩⟩⟩⟩⟩⟩⟩⟩⟩⟩⟩⟩⟩⟩⟩⟩
theorem zE_X1_withDigit : ∀ L ∈ zT_X1_withDigit, ∀ q ∈ L, zEnt yX1_withDigit cX1_withDigit 4 (some .int) [] { frames := 0, cells := 0, slots := 0, locals := 0 } q := List.forall_mem_cons.mpr ⟨zE_X1_withDigit_0, fun _ h9 => nomatch h9⟩
theorem zG_X1_withDigit : ∀ L ∈ zT_X1_withDigit, ∀ q ∈ L, zmono q.2 := List.forall_mem_cons.mpr ⟨zG_X1_withDigit_0, fun _ h9 => nomatch h9⟩
