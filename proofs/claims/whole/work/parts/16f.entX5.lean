/-! every entry of the tables of X5 is sound, and grows -/
set_option maxRecDepth 100000 in
theorem zE_X5_init_0 : ∀ q ∈ zT_X5_init_0, zEnt yX5_init cX5_init 1 none [] { frames := 2, cells := 10, slots := 119, locals := 42 } q := List.forall_mem_cons.mpr ⟨fun X => zs_aload_n X.1 dX5_init_0 rfl rfl,
  List.forall_mem_cons.mpr ⟨fun X => zs_objinit X.1 wm_204 wm_1 wm_2 ⟨Nat.le_of_ble_eq_true rfl, Nat.le_of_ble_eq_true rfl⟩ dX5_init_1 rfl,
  List.forall_mem_cons.mpr ⟨fun X => zs_aload_n X.1 dX5_init_4 rfl rfl,
  List.forall_mem_cons.mpr ⟨fun X => zs_new (T := TX0) (N := 3) X.1 X.2.2.2.2.2.1 (fun _ h9 => Or.inr h9) ⟨Nat.le_refl _, Nat.le_refl _⟩ uX0_in tyX0 tyX0_ok wm_205 wm_120 wm_121 rfl (by decide +kernel) rfl rfl dX5_init_5 rfl,
  List.forall_mem_cons.mpr ⟨fun X => zs_dup X.1 dX5_init_8 rfl,
  List.forall_mem_cons.mpr ⟨fun X => zs_bipush X.1 dX5_init_9 (by decide) rfl,
  List.forall_mem_cons.mpr ⟨fun X => zs_newi X.1 X.2.2.2.2.2.1 (fun _ h9 => Or.inr h9) ⟨Nat.le_refl _, Nat.le_refl _⟩ wm_34 dX5_init_11 rfl,
  List.forall_mem_cons.mpr ⟨fun X => zs_bipush X.1 dX5_init_13 (by decide) rfl,
  List.forall_mem_cons.mpr ⟨fun X => zs_newi X.1 X.2.2.2.2.2.1 (fun _ h9 => Or.inr h9) ⟨Nat.le_refl _, Nat.le_refl _⟩ wm_34 dX5_init_15 rfl,
  List.forall_mem_cons.mpr ⟨fun X => zs_callI X.1 zNw_ok (fun _ h9 => Or.inr h9) X.2.2.2.2.2.1 X.2.2.2.2.2.2.1 zcal_0 rfl ⟨rfl, rfl⟩ wm_206 rfl rfl wm_123 dX5_init_17 rfl,
  List.forall_mem_cons.mpr ⟨fun X => zs_putfF (T := TX5) (N := 7) (k := 0) X.1 X.2.2.2.2.2.1 uX5_in tyX5 tyX5_ok nmX5 rfl (by decide) wm_207 rfl rfl X.2.2.2.1 rfl (tyX5_ok 0 (by decide)) dX5_init_20 rfl,
  List.forall_mem_cons.mpr ⟨fun X => zs_aload_n X.1 dX5_init_23 rfl rfl,
  List.forall_mem_cons.mpr ⟨fun X => zs_new (T := TX0) (N := 3) X.1 X.2.2.2.2.2.1 (fun _ h9 => Or.inr h9) ⟨Nat.le_refl _, Nat.le_refl _⟩ uX0_in tyX0 tyX0_ok wm_205 wm_120 wm_121 rfl (by decide +kernel) rfl rfl dX5_init_24 rfl,
  List.forall_mem_cons.mpr ⟨fun X => zs_dup X.1 dX5_init_27 rfl,
  List.forall_mem_cons.mpr ⟨fun X => zs_bipush X.1 dX5_init_28 (by decide) rfl,
  List.forall_mem_cons.mpr ⟨fun X => zs_newi X.1 X.2.2.2.2.2.1 (fun _ h9 => Or.inr h9) ⟨Nat.le_refl _, Nat.le_refl _⟩ wm_34 dX5_init_30 rfl,
  List.forall_mem_cons.mpr ⟨fun X => zs_bipush X.1 dX5_init_32 (by decide) rfl,
  List.forall_mem_cons.mpr ⟨fun X => zs_newi X.1 X.2.2.2.2.2.1 (fun _ h9 => Or.inr h9) ⟨Nat.le_refl _, Nat.le_refl _⟩ wm_34 dX5_init_34 rfl,
  List.forall_mem_cons.mpr ⟨fun X => zs_callI X.1 zNw_ok (fun _ h9 => Or.inr h9) X.2.2.2.2.2.1 X.2.2.2.2.2.2.1 zcal_0 rfl ⟨rfl, rfl⟩ wm_206 rfl rfl wm_123 dX5_init_36 rfl,
  List.forall_mem_cons.mpr ⟨fun X => zs_putfF (T := TX5) (N := 7) (k := 1) X.1 X.2.2.2.2.2.1 uX5_in tyX5 tyX5_ok nmX5 rfl (by decide) wm_208 rfl rfl X.2.2.2.1 rfl (tyX5_ok 1 (by decide)) dX5_init_39 rfl,
  List.forall_mem_cons.mpr ⟨fun X => zs_aload_n X.1 dX5_init_42 rfl rfl,
  List.forall_mem_cons.mpr ⟨fun X => zs_new (T := TX0) (N := 3) X.1 X.2.2.2.2.2.1 (fun _ h9 => Or.inr h9) ⟨Nat.le_refl _, Nat.le_refl _⟩ uX0_in tyX0 tyX0_ok wm_205 wm_120 wm_121 rfl (by decide +kernel) rfl rfl dX5_init_43 rfl,
  List.forall_mem_cons.mpr ⟨fun X => zs_dup X.1 dX5_init_46 rfl,
  List.forall_mem_cons.mpr ⟨fun X => zs_bipush X.1 dX5_init_47 (by decide) rfl,
  List.forall_mem_cons.mpr ⟨fun X => zs_newi X.1 X.2.2.2.2.2.1 (fun _ h9 => Or.inr h9) ⟨Nat.le_refl _, Nat.le_refl _⟩ wm_34 dX5_init_49 rfl,
  List.forall_mem_cons.mpr ⟨fun X => zs_bipush X.1 dX5_init_51 (by decide) rfl,
  List.forall_mem_cons.mpr ⟨fun X => zs_newi X.1 X.2.2.2.2.2.1 (fun _ h9 => Or.inr h9) ⟨Nat.le_refl _, Nat.le_refl _⟩ wm_34 dX5_init_53 rfl,
  List.forall_mem_cons.mpr ⟨fun X => zs_callI X.1 zNw_ok (fun _ h9 => Or.inr h9) X.2.2.2.2.2.1 X.2.2.2.2.2.2.1 zcal_0 rfl ⟨rfl, rfl⟩ wm_206 rfl rfl wm_123 dX5_init_55 rfl,
  List.forall_mem_cons.mpr ⟨fun X => zs_putfF (T := TX5) (N := 7) (k := 2) X.1 X.2.2.2.2.2.1 uX5_in tyX5 tyX5_ok nmX5 rfl (by decide) wm_209 rfl rfl X.2.2.2.1 rfl (tyX5_ok 2 (by decide)) dX5_init_58 rfl,
  List.forall_mem_cons.mpr ⟨fun X => zs_aload_n X.1 dX5_init_61 rfl rfl,
  List.forall_mem_cons.mpr ⟨fun X => zs_bipush X.1 dX5_init_62 (by decide) rfl,
  fun _ h9 => nomatch h9⟩⟩⟩⟩⟩⟩⟩⟩⟩⟩⟩⟩⟩⟩⟩⟩⟩⟩⟩⟩⟩⟩⟩⟩⟩⟩⟩⟩⟩⟩⟩
theorem zG_X5_init_0 : ∀ q ∈ zT_X5_init_0, zmono q.2 := List.forall_mem_cons.mpr ⟨zm_aload 0 1, List.forall_mem_cons.mpr ⟨zm_objinit 4, List.forall_mem_cons.mpr ⟨zm_aload 0 5, List.forall_mem_cons.mpr ⟨zm_new 0 [.null, .null, .int 0] (10, 119) 8, List.forall_mem_cons.mpr ⟨zm_dup 9, List.forall_mem_cons.mpr ⟨zm_iconst 10 11, List.forall_mem_cons.mpr ⟨zm_newi (10, 119) 13, List.forall_mem_cons.mpr ⟨zm_iconst 10 15, List.forall_mem_cons.mpr ⟨zm_newi (10, 119) 17, List.forall_mem_cons.mpr ⟨zm_callv 0 0 3 20, List.forall_mem_cons.mpr ⟨zm_putf 5 0 (.object "DraftMerge$Blocks") 23, List.forall_mem_cons.mpr ⟨zm_aload 0 24, List.forall_mem_cons.mpr ⟨zm_new 0 [.null, .null, .int 0] (10, 119) 27, List.forall_mem_cons.mpr ⟨zm_dup 28, List.forall_mem_cons.mpr ⟨zm_iconst 15 30, List.forall_mem_cons.mpr ⟨zm_newi (10, 119) 32, List.forall_mem_cons.mpr ⟨zm_iconst 15 34, List.forall_mem_cons.mpr ⟨zm_newi (10, 119) 36, List.forall_mem_cons.mpr ⟨zm_callv 0 0 3 39, List.forall_mem_cons.mpr ⟨zm_putf 5 1 (.object "DraftMerge$Blocks") 42, List.forall_mem_cons.mpr ⟨zm_aload 0 43, List.forall_mem_cons.mpr ⟨zm_new 0 [.null, .null, .int 0] (10, 119) 46, List.forall_mem_cons.mpr ⟨zm_dup 47, List.forall_mem_cons.mpr ⟨zm_iconst 15 49, List.forall_mem_cons.mpr ⟨zm_newi (10, 119) 51, List.forall_mem_cons.mpr ⟨zm_iconst 15 53, List.forall_mem_cons.mpr ⟨zm_newi (10, 119) 55, List.forall_mem_cons.mpr ⟨zm_callv 0 0 3 58, List.forall_mem_cons.mpr ⟨zm_putf 5 2 (.object "DraftMerge$Blocks") 61, List.forall_mem_cons.mpr ⟨zm_aload 0 62, List.forall_mem_cons.mpr ⟨zm_iconst 30 64, fun _ h9 => nomatch h9⟩⟩⟩⟩⟩⟩⟩⟩⟩⟩⟩⟩⟩⟩⟩⟩⟩⟩⟩⟩⟩⟩⟩⟩⟩⟩⟩⟩⟩⟩⟩
set_option maxRecDepth 100000 in
theorem zE_X5_init_1 : ∀ q ∈ zT_X5_init_1, zEnt yX5_init cX5_init 1 none [] { frames := 2, cells := 10, slots := 119, locals := 42 } q := List.forall_mem_cons.mpr ⟨fun X => zs_newi X.1 X.2.2.2.2.2.1 (fun _ h9 => Or.inr h9) ⟨Nat.le_refl _, Nat.le_refl _⟩ wm_34 dX5_init_64 rfl,
  List.forall_mem_cons.mpr ⟨fun X => zs_putfF (T := TX5) (N := 7) (k := 3) X.1 X.2.2.2.2.2.1 uX5_in tyX5 tyX5_ok nmX5 rfl (by decide) wm_210 rfl rfl X.2.2.2.1 rfl (tyX5_ok 3 (by decide)) dX5_init_66 rfl,
  List.forall_mem_cons.mpr ⟨fun X => zs_aload_n X.1 dX5_init_69 rfl rfl,
  List.forall_mem_cons.mpr ⟨fun X => zs_iconst X.1 dX5_init_70 (by decide) rfl,
  List.forall_mem_cons.mpr ⟨fun X => zs_putf (T := TX5) (N := 7) (k := 4) X.1 X.2.2.2.2.2.1 uX5_in tyX5 tyX5_ok nmX5 rfl (by decide) wm_211 rfl rfl (tyX5_ok 4 (by decide)) dX5_init_71 rfl,
  List.forall_mem_cons.mpr ⟨fun X => zs_aload_n X.1 dX5_init_74 rfl rfl,
  List.forall_mem_cons.mpr ⟨fun X => zs_iconst X.1 dX5_init_75 (by decide) rfl,
  List.forall_mem_cons.mpr ⟨fun X => zs_putf (T := TX5) (N := 7) (k := 5) X.1 X.2.2.2.2.2.1 uX5_in tyX5 tyX5_ok nmX5 rfl (by decide) wm_212 rfl rfl (tyX5_ok 5 (by decide)) dX5_init_76 rfl,
  List.forall_mem_cons.mpr ⟨fun X => zs_aload_n X.1 dX5_init_79 rfl rfl,
  List.forall_mem_cons.mpr ⟨fun X => zs_iconst X.1 dX5_init_80 (by decide) rfl,
  List.forall_mem_cons.mpr ⟨fun X => zs_putf (T := TX5) (N := 7) (k := 6) X.1 X.2.2.2.2.2.1 uX5_in tyX5 tyX5_ok nmX5 rfl (by decide) wm_213 rfl rfl (tyX5_ok 6 (by decide)) dX5_init_81 rfl,
  List.forall_mem_cons.mpr ⟨fun X => zs_aload_n X.1 dX5_init_84 rfl rfl,
  List.forall_mem_cons.mpr ⟨fun X => zs_getf (T := TX5) (N := 7) (k := 3) X.1 X.2.2.2.2.2.1 uX5_in rfl (by decide) wm_210 rfl dX5_init_85 rfl,
  List.forall_mem_cons.mpr ⟨fun X => zs_iconst X.1 dX5_init_88 (by decide) rfl,
  List.forall_mem_cons.mpr ⟨fun X => zs_callS X.1 zNw_ok (fun _ h9 => Or.inr h9) X.2.2.2.2.2.1 X.2.2.2.2.2.2.1 zcal_193 rfl ⟨rfl, rfl⟩ wm_214 wm_215 dX5_init_89 rfl,
  List.forall_mem_cons.mpr ⟨fun X => zs_vret X.1 X.2.1 X.2.2.1 dX5_init_92,
  fun _ h9 => nomatch h9⟩⟩⟩⟩⟩⟩⟩⟩⟩⟩⟩⟩⟩⟩⟩⟩
theorem zG_X5_init_1 : ∀ q ∈ zT_X5_init_1, zmono q.2 := List.forall_mem_cons.mpr ⟨zm_newi (10, 119) 66, List.forall_mem_cons.mpr ⟨zm_putf 5 3 (.array .int) 69, List.forall_mem_cons.mpr ⟨zm_aload 0 70, List.forall_mem_cons.mpr ⟨zm_iconst 0 71, List.forall_mem_cons.mpr ⟨zm_putf 5 4 .int 74, List.forall_mem_cons.mpr ⟨zm_aload 0 75, List.forall_mem_cons.mpr ⟨zm_iconst 0 76, List.forall_mem_cons.mpr ⟨zm_putf 5 5 .int 79, List.forall_mem_cons.mpr ⟨zm_aload 0 80, List.forall_mem_cons.mpr ⟨zm_iconst 0 81, List.forall_mem_cons.mpr ⟨zm_putf 5 6 .int 84, List.forall_mem_cons.mpr ⟨zm_aload 0 85, List.forall_mem_cons.mpr ⟨zm_getf 5 3 88, List.forall_mem_cons.mpr ⟨zm_iconst (-1) 89, List.forall_mem_cons.mpr ⟨zm_call 193 2 92, List.forall_mem_cons.mpr ⟨zm_vret, fun _ h9 => nomatch h9⟩⟩⟩⟩⟩⟩⟩⟩⟩⟩⟩⟩⟩⟩⟩⟩
theorem zE_X5_init : ∀ L ∈ zT_X5_init, ∀ q ∈ L, zEnt yX5_init cX5_init 1 none [] { frames := 2, cells := 10, slots := 119, locals := 42 } q := List.forall_mem_cons.mpr ⟨zE_X5_init_0, List.forall_mem_cons.mpr ⟨zE_X5_init_1, fun _ h9 => nomatch h9⟩⟩
theorem zG_X5_init : ∀ L ∈ zT_X5_init, ∀ q ∈ L, zmono q.2 := List.forall_mem_cons.mpr ⟨zG_X5_init_0, List.forall_mem_cons.mpr ⟨zG_X5_init_1, fun _ h9 => nomatch h9⟩⟩
set_option maxRecDepth 100000 in
theorem zE_X5_draft_0 : ∀ q ∈ zT_X5_draft_0, zEnt yX5_draft cX5_draft 2 (some (.object "DraftMerge$Blocks")) [] { frames := 0, cells := 0, slots := 0, locals := 0 } q := List.forall_mem_cons.mpr ⟨fun X => zs_iload_n X.1 dX5_draft_0 rfl rfl,
  List.forall_mem_cons.mpr ⟨fun X => zs_ifne X.1 dX5_draft_1 (by decide) rfl,
  List.forall_mem_cons.mpr ⟨fun X => zs_aload_n X.1 dX5_draft_4 rfl rfl,
  List.forall_mem_cons.mpr ⟨fun X => zs_getf (T := TX5) (N := 7) (k := 1) X.1 X.2.2.2.2.2.1 uX5_in rfl (by decide) wm_208 rfl dX5_draft_5 rfl,
  List.forall_mem_cons.mpr ⟨fun X => zs_goto X.1 dX5_draft_8 (by decide),
  List.forall_mem_cons.mpr ⟨fun X => zs_aload_n X.1 dX5_draft_11 rfl rfl,
  List.forall_mem_cons.mpr ⟨fun X => zs_getf (T := TX5) (N := 7) (k := 2) X.1 X.2.2.2.2.2.1 uX5_in rfl (by decide) wm_209 rfl dX5_draft_12 rfl,
  List.forall_mem_cons.mpr ⟨fun X => zs_aret X.1 X.2.1 (Or.inl ⟨_, rfl⟩) X.2.2.1 dX5_draft_15,
  fun _ h9 => nomatch h9⟩⟩⟩⟩⟩⟩⟩⟩
theorem zG_X5_draft_0 : ∀ q ∈ zT_X5_draft_0, zmono q.2 := List.forall_mem_cons.mpr ⟨zm_iload 1 1, List.forall_mem_cons.mpr ⟨zm_ifne 11 4, List.forall_mem_cons.mpr ⟨zm_aload 0 5, List.forall_mem_cons.mpr ⟨zm_getf 5 1 8, List.forall_mem_cons.mpr ⟨zm_goto 15 [], List.forall_mem_cons.mpr ⟨zm_aload 0 12, List.forall_mem_cons.mpr ⟨zm_getf 5 2 15, List.forall_mem_cons.mpr ⟨zm_aret, fun _ h9 => nomatch h9⟩⟩⟩⟩⟩⟩⟩⟩
theorem zE_X5_draft : ∀ L ∈ zT_X5_draft, ∀ q ∈ L, zEnt yX5_draft cX5_draft 2 (some (.object "DraftMerge$Blocks")) [] { frames := 0, cells := 0, slots := 0, locals := 0 } q := List.forall_mem_cons.mpr ⟨zE_X5_draft_0, fun _ h9 => nomatch h9⟩
theorem zG_X5_draft : ∀ L ∈ zT_X5_draft, ∀ q ∈ L, zmono q.2 := List.forall_mem_cons.mpr ⟨zG_X5_draft_0, fun _ h9 => nomatch h9⟩
set_option maxRecDepth 100000 in
theorem zE_X5_baseCanGrow_0 : ∀ q ∈ zT_X5_baseCanGrow_0, zEnt yX5_baseCanGrow cX5_baseCanGrow 1 (some .boolean) [] { frames := 3, cells := 0, slots := 0, locals := 64 } q := List.forall_mem_cons.mpr ⟨fun X => zs_aload_n X.1 dX5_baseCanGrow_0 rfl rfl,
  List.forall_mem_cons.mpr ⟨fun X => zs_getf (T := TX5) (N := 7) (k := 0) X.1 X.2.2.2.2.2.1 uX5_in rfl (by decide) wm_207 rfl dX5_baseCanGrow_1 rfl,
  List.forall_mem_cons.mpr ⟨fun X => zs_callV (Cn := RX0) X.1 zNw_ok (fun _ h9 => Or.inr h9) X.2.2.2.2.2.1 X.2.2.2.2.2.2.1 zcal_2 rfl ⟨rfl, rfl⟩ wm_216 rfl wm_21 wm_22 dX5_baseCanGrow_4 rfl,
  List.forall_mem_cons.mpr ⟨fun X => zs_ifne X.1 dX5_baseCanGrow_7 (by decide) rfl,
  List.forall_mem_cons.mpr ⟨fun X => zs_aload_n X.1 dX5_baseCanGrow_10 rfl rfl,
  List.forall_mem_cons.mpr ⟨fun X => zs_getf (T := TX5) (N := 7) (k := 4) X.1 X.2.2.2.2.2.1 uX5_in rfl (by decide) wm_211 rfl dX5_baseCanGrow_11 rfl,
  List.forall_mem_cons.mpr ⟨fun X => zs_aload_n X.1 dX5_baseCanGrow_14 rfl rfl,
  List.forall_mem_cons.mpr ⟨fun X => zs_getf (T := TX5) (N := 7) (k := 0) X.1 X.2.2.2.2.2.1 uX5_in rfl (by decide) wm_207 rfl dX5_baseCanGrow_15 rfl,
  List.forall_mem_cons.mpr ⟨fun X => zs_getf (T := TX0) (N := 3) (k := 2) X.1 X.2.2.2.2.2.1 uX0_in rfl (by decide) wm_217 rfl dX5_baseCanGrow_18 rfl,
  List.forall_mem_cons.mpr ⟨fun X => zs_icmpne X.1 dX5_baseCanGrow_21 (by decide) rfl,
  List.forall_mem_cons.mpr ⟨fun X => zs_aload_n X.1 dX5_baseCanGrow_24 rfl rfl,
  List.forall_mem_cons.mpr ⟨fun X => zs_getf (T := TX5) (N := 7) (k := 0) X.1 X.2.2.2.2.2.1 uX5_in rfl (by decide) wm_207 rfl dX5_baseCanGrow_25 rfl,
  List.forall_mem_cons.mpr ⟨fun X => zs_aload_n X.1 dX5_baseCanGrow_28 rfl rfl,
  List.forall_mem_cons.mpr ⟨fun X => zs_getf (T := TX5) (N := 7) (k := 1) X.1 X.2.2.2.2.2.1 uX5_in rfl (by decide) wm_208 rfl dX5_baseCanGrow_29 rfl,
  List.forall_mem_cons.mpr ⟨fun X => zs_callV (Cn := RX0) X.1 zNw_ok (fun _ h9 => Or.inr h9) X.2.2.2.2.2.1 X.2.2.2.2.2.2.1 zcal_14 rfl ⟨rfl, rfl⟩ wm_218 rfl wm_219 wm_220 dX5_baseCanGrow_32 rfl,
  List.forall_mem_cons.mpr ⟨fun X => zs_ifeq X.1 dX5_baseCanGrow_35 (by decide) rfl,
  List.forall_mem_cons.mpr ⟨fun X => zs_aload_n X.1 dX5_baseCanGrow_38 rfl rfl,
  List.forall_mem_cons.mpr ⟨fun X => zs_getf (T := TX5) (N := 7) (k := 0) X.1 X.2.2.2.2.2.1 uX5_in rfl (by decide) wm_207 rfl dX5_baseCanGrow_39 rfl,
  List.forall_mem_cons.mpr ⟨fun X => zs_aload_n X.1 dX5_baseCanGrow_42 rfl rfl,
  List.forall_mem_cons.mpr ⟨fun X => zs_getf (T := TX5) (N := 7) (k := 2) X.1 X.2.2.2.2.2.1 uX5_in rfl (by decide) wm_209 rfl dX5_baseCanGrow_43 rfl,
  List.forall_mem_cons.mpr ⟨fun X => zs_callV (Cn := RX0) X.1 zNw_ok (fun _ h9 => Or.inr h9) X.2.2.2.2.2.1 X.2.2.2.2.2.2.1 zcal_14 rfl ⟨rfl, rfl⟩ wm_218 rfl wm_219 wm_220 dX5_baseCanGrow_46 rfl,
  List.forall_mem_cons.mpr ⟨fun X => zs_ifeq X.1 dX5_baseCanGrow_49 (by decide) rfl,
  List.forall_mem_cons.mpr ⟨fun X => zs_iconst X.1 dX5_baseCanGrow_52 (by decide) rfl,
  List.forall_mem_cons.mpr ⟨fun X => zs_goto X.1 dX5_baseCanGrow_53 (by decide),
  List.forall_mem_cons.mpr ⟨fun X => zs_iconst X.1 dX5_baseCanGrow_56 (by decide) rfl,
  List.forall_mem_cons.mpr ⟨fun X => zs_zret X.1 X.2.1 X.2.2.1 dX5_baseCanGrow_57,
  fun _ h9 => nomatch h9⟩⟩⟩⟩⟩⟩⟩⟩⟩⟩⟩⟩⟩⟩⟩⟩⟩⟩⟩⟩⟩⟩⟩⟩⟩⟩
theorem zG_X5_baseCanGrow_0 : ∀ q ∈ zT_X5_baseCanGrow_0, zmono q.2 := List.forall_mem_cons.mpr ⟨zm_aload 0 1, List.forall_mem_cons.mpr ⟨zm_getf 5 0 4, List.forall_mem_cons.mpr ⟨zm_callv 0 2 1 7, List.forall_mem_cons.mpr ⟨zm_ifne 56 10, List.forall_mem_cons.mpr ⟨zm_aload 0 11, List.forall_mem_cons.mpr ⟨zm_getf 5 4 14, List.forall_mem_cons.mpr ⟨zm_aload 0 15, List.forall_mem_cons.mpr ⟨zm_getf 5 0 18, List.forall_mem_cons.mpr ⟨zm_getf 0 2 21, List.forall_mem_cons.mpr ⟨zm_icmpne 56 24, List.forall_mem_cons.mpr ⟨zm_aload 0 25, List.forall_mem_cons.mpr ⟨zm_getf 5 0 28, List.forall_mem_cons.mpr ⟨zm_aload 0 29, List.forall_mem_cons.mpr ⟨zm_getf 5 1 32, List.forall_mem_cons.mpr ⟨zm_callv 0 14 2 35, List.forall_mem_cons.mpr ⟨zm_ifeq 56 38, List.forall_mem_cons.mpr ⟨zm_aload 0 39, List.forall_mem_cons.mpr ⟨zm_getf 5 0 42, List.forall_mem_cons.mpr ⟨zm_aload 0 43, List.forall_mem_cons.mpr ⟨zm_getf 5 2 46, List.forall_mem_cons.mpr ⟨zm_callv 0 14 2 49, List.forall_mem_cons.mpr ⟨zm_ifeq 56 52, List.forall_mem_cons.mpr ⟨zm_iconst 1 53, List.forall_mem_cons.mpr ⟨zm_goto 57 [], List.forall_mem_cons.mpr ⟨zm_iconst 0 57, List.forall_mem_cons.mpr ⟨zm_zret, fun _ h9 => nomatch h9⟩⟩⟩⟩⟩⟩⟩⟩⟩⟩⟩⟩⟩⟩⟩⟩⟩⟩⟩⟩⟩⟩⟩⟩⟩⟩
theorem zE_X5_baseCanGrow : ∀ L ∈ zT_X5_baseCanGrow, ∀ q ∈ L, zEnt yX5_baseCanGrow cX5_baseCanGrow 1 (some .boolean) [] { frames := 3, cells := 0, slots := 0, locals := 64 } q := List.forall_mem_cons.mpr ⟨zE_X5_baseCanGrow_0, fun _ h9 => nomatch h9⟩
theorem zG_X5_baseCanGrow : ∀ L ∈ zT_X5_baseCanGrow, ∀ q ∈ L, zmono q.2 := List.forall_mem_cons.mpr ⟨zG_X5_baseCanGrow_0, fun _ h9 => nomatch h9⟩
set_option maxRecDepth 100000 in
theorem zE_X5_growBase_0 : ∀ q ∈ zT_X5_growBase_0, zEnt yX5_growBase cX5_growBase 3 (some .int) [] { frames := 3, cells := 0, slots := 0, locals := 68 } q := List.forall_mem_cons.mpr ⟨fun X => zs_aload_n X.1 dX5_growBase_0 rfl rfl,
  List.forall_mem_cons.mpr ⟨fun X => zs_callV (Cn := RX5) X.1 zNw_ok (fun _ h9 => Or.inr h9) X.2.2.2.2.2.1 X.2.2.2.2.2.2.1 zcal_67 rfl ⟨rfl, rfl⟩ wm_221 rfl wm_222 wm_223 dX5_growBase_1 rfl,
  List.forall_mem_cons.mpr ⟨fun X => zs_istore_n X.1 dX5_growBase_4 rfl (Nat.le_of_ble_eq_true rfl) rfl,
  List.forall_mem_cons.mpr ⟨fun X => zs_aload_n X.1 dX5_growBase_5 rfl rfl,
  List.forall_mem_cons.mpr ⟨fun X => zs_getf (T := TX5) (N := 7) (k := 0) X.1 X.2.2.2.2.2.1 uX5_in rfl (by decide) wm_207 rfl dX5_growBase_6 rfl,
  List.forall_mem_cons.mpr ⟨fun X => zs_iload_n X.1 dX5_growBase_9 rfl rfl,
  List.forall_mem_cons.mpr ⟨fun X => zs_iload_n X.1 dX5_growBase_10 rfl rfl,
  List.forall_mem_cons.mpr ⟨fun X => zs_callV (Cn := RX0) X.1 zNw_ok (fun _ h9 => Or.inr h9) X.2.2.2.2.2.1 X.2.2.2.2.2.2.1 zcal_9 rfl ⟨rfl, rfl⟩ wm_224 rfl wm_159 wm_160 dX5_growBase_11 rfl,
  List.forall_mem_cons.mpr ⟨fun X => zs_aload_n X.1 dX5_growBase_14 rfl rfl,
  List.forall_mem_cons.mpr ⟨fun X => zs_getf (T := TX5) (N := 7) (k := 1) X.1 X.2.2.2.2.2.1 uX5_in rfl (by decide) wm_208 rfl dX5_growBase_15 rfl,
  List.forall_mem_cons.mpr ⟨fun X => zs_iload_n X.1 dX5_growBase_18 rfl rfl,
  List.forall_mem_cons.mpr ⟨fun X => zs_iload_n X.1 dX5_growBase_19 rfl rfl,
  List.forall_mem_cons.mpr ⟨fun X => zs_callV (Cn := RX0) X.1 zNw_ok (fun _ h9 => Or.inr h9) X.2.2.2.2.2.1 X.2.2.2.2.2.2.1 zcal_9 rfl ⟨rfl, rfl⟩ wm_224 rfl wm_159 wm_160 dX5_growBase_20 rfl,
  List.forall_mem_cons.mpr ⟨fun X => zs_aload_n X.1 dX5_growBase_23 rfl rfl,
  List.forall_mem_cons.mpr ⟨fun X => zs_getf (T := TX5) (N := 7) (k := 2) X.1 X.2.2.2.2.2.1 uX5_in rfl (by decide) wm_209 rfl dX5_growBase_24 rfl,
  List.forall_mem_cons.mpr ⟨fun X => zs_iload_n X.1 dX5_growBase_27 rfl rfl,
  List.forall_mem_cons.mpr ⟨fun X => zs_iload_n X.1 dX5_growBase_28 rfl rfl,
  List.forall_mem_cons.mpr ⟨fun X => zs_callV (Cn := RX0) X.1 zNw_ok (fun _ h9 => Or.inr h9) X.2.2.2.2.2.1 X.2.2.2.2.2.2.1 zcal_9 rfl ⟨rfl, rfl⟩ wm_224 rfl wm_159 wm_160 dX5_growBase_29 rfl,
  List.forall_mem_cons.mpr ⟨fun X => zs_iload_n X.1 dX5_growBase_32 rfl rfl,
  List.forall_mem_cons.mpr ⟨fun X => zs_iret X.1 X.2.1 X.2.2.1 dX5_growBase_33,
  fun _ h9 => nomatch h9⟩⟩⟩⟩⟩⟩⟩⟩⟩⟩⟩⟩⟩⟩⟩⟩⟩⟩⟩⟩
theorem zG_X5_growBase_0 : ∀ q ∈ zT_X5_growBase_0, zmono q.2 := List.forall_mem_cons.mpr ⟨zm_aload 0 1, List.forall_mem_cons.mpr ⟨zm_callv 5 67 1 4, List.forall_mem_cons.mpr ⟨zm_istore 2 5, List.forall_mem_cons.mpr ⟨zm_aload 0 6, List.forall_mem_cons.mpr ⟨zm_getf 5 0 9, List.forall_mem_cons.mpr ⟨zm_iload 2 10, List.forall_mem_cons.mpr ⟨zm_iload 1 11, List.forall_mem_cons.mpr ⟨zm_callv 0 9 3 14, List.forall_mem_cons.mpr ⟨zm_aload 0 15, List.forall_mem_cons.mpr ⟨zm_getf 5 1 18, List.forall_mem_cons.mpr ⟨zm_iload 2 19, List.forall_mem_cons.mpr ⟨zm_iload 1 20, List.forall_mem_cons.mpr ⟨zm_callv 0 9 3 23, List.forall_mem_cons.mpr ⟨zm_aload 0 24, List.forall_mem_cons.mpr ⟨zm_getf 5 2 27, List.forall_mem_cons.mpr ⟨zm_iload 2 28, List.forall_mem_cons.mpr ⟨zm_iload 1 29, List.forall_mem_cons.mpr ⟨zm_callv 0 9 3 32, List.forall_mem_cons.mpr ⟨zm_iload 2 33, List.forall_mem_cons.mpr ⟨zm_iret, fun _ h9 => nomatch h9⟩⟩⟩⟩⟩⟩⟩⟩⟩⟩⟩⟩⟩⟩⟩⟩⟩⟩⟩⟩
theorem zE_X5_growBase : ∀ L ∈ zT_X5_growBase, ∀ q ∈ L, zEnt yX5_growBase cX5_growBase 3 (some .int) [] { frames := 3, cells := 0, slots := 0, locals := 68 } q := List.forall_mem_cons.mpr ⟨zE_X5_growBase_0, fun _ h9 => nomatch h9⟩
theorem zG_X5_growBase : ∀ L ∈ zT_X5_growBase, ∀ q ∈ L, zmono q.2 := List.forall_mem_cons.mpr ⟨zG_X5_growBase_0, fun _ h9 => nomatch h9⟩
set_option maxRecDepth 100000 in
theorem zE_X5_putNewBlock_0 : ∀ q ∈ zT_X5_putNewBlock_0, zEnt yX5_putNewBlock cX5_putNewBlock 5 (some .int) [] { frames := 2, cells := 0, slots := 0, locals := 46 } q := List.forall_mem_cons.mpr ⟨fun X => zs_aload_n X.1 dX5_putNewBlock_0 rfl rfl,
  List.forall_mem_cons.mpr ⟨fun X => zs_callV (Cn := RX5) X.1 zNw_ok (fun _ h9 => Or.inr h9) X.2.2.2.2.2.1 X.2.2.2.2.2.2.1 zcal_67 rfl ⟨rfl, rfl⟩ wm_221 rfl wm_222 wm_223 dX5_putNewBlock_1 rfl,
  List.forall_mem_cons.mpr ⟨fun X => zs_istore X.1 dX5_putNewBlock_4 (Nat.le_of_ble_eq_true rfl) rfl,
  List.forall_mem_cons.mpr ⟨fun X => zs_aload_n X.1 dX5_putNewBlock_6 rfl rfl,
  List.forall_mem_cons.mpr ⟨fun X => zs_iload_n X.1 dX5_putNewBlock_7 rfl rfl,
  List.forall_mem_cons.mpr ⟨fun X => zs_callV (Cn := RX5) X.1 zNw_ok (fun _ h9 => Or.inr h9) X.2.2.2.2.2.1 X.2.2.2.2.2.2.1 zcal_63 rfl ⟨rfl, rfl⟩ wm_225 rfl wm_189 wm_190 dX5_putNewBlock_8 rfl,
  List.forall_mem_cons.mpr ⟨fun X => zs_iload_n X.1 dX5_putNewBlock_11 rfl rfl,
  List.forall_mem_cons.mpr ⟨fun X => zs_iload X.1 dX5_putNewBlock_12 rfl,
  List.forall_mem_cons.mpr ⟨fun X => zs_iload_n X.1 dX5_putNewBlock_14 rfl rfl,
  List.forall_mem_cons.mpr ⟨fun X => zs_callV (Cn := RX0) X.1 zNw_ok (fun _ h9 => Or.inr h9) X.2.2.2.2.2.1 X.2.2.2.2.2.2.1 zcal_8 rfl ⟨rfl, rfl⟩ wm_226 rfl wm_24 wm_25 dX5_putNewBlock_15 rfl,
  List.forall_mem_cons.mpr ⟨fun X => zs_iload X.1 dX5_putNewBlock_18 rfl,
  List.forall_mem_cons.mpr ⟨fun X => zs_iret X.1 X.2.1 X.2.2.1 dX5_putNewBlock_20,
  fun _ h9 => nomatch h9⟩⟩⟩⟩⟩⟩⟩⟩⟩⟩⟩⟩
theorem zG_X5_putNewBlock_0 : ∀ q ∈ zT_X5_putNewBlock_0, zmono q.2 := List.forall_mem_cons.mpr ⟨zm_aload 0 1, List.forall_mem_cons.mpr ⟨zm_callv 5 67 1 4, List.forall_mem_cons.mpr ⟨zm_istore 4 6, List.forall_mem_cons.mpr ⟨zm_aload 0 7, List.forall_mem_cons.mpr ⟨zm_iload 1 8, List.forall_mem_cons.mpr ⟨zm_callv 5 63 2 11, List.forall_mem_cons.mpr ⟨zm_iload 2 12, List.forall_mem_cons.mpr ⟨zm_iload 4 14, List.forall_mem_cons.mpr ⟨zm_iload 3 15, List.forall_mem_cons.mpr ⟨zm_callv 0 8 4 18, List.forall_mem_cons.mpr ⟨zm_iload 4 20, List.forall_mem_cons.mpr ⟨zm_iret, fun _ h9 => nomatch h9⟩⟩⟩⟩⟩⟩⟩⟩⟩⟩⟩⟩
theorem zE_X5_putNewBlock : ∀ L ∈ zT_X5_putNewBlock, ∀ q ∈ L, zEnt yX5_putNewBlock cX5_putNewBlock 5 (some .int) [] { frames := 2, cells := 0, slots := 0, locals := 46 } q := List.forall_mem_cons.mpr ⟨zE_X5_putNewBlock_0, fun _ h9 => nomatch h9⟩
theorem zG_X5_putNewBlock : ∀ L ∈ zT_X5_putNewBlock, ∀ q ∈ L, zmono q.2 := List.forall_mem_cons.mpr ⟨zG_X5_putNewBlock_0, fun _ h9 => nomatch h9⟩
set_option maxRecDepth 100000 in
theorem zE_X5_takeNumber_0 : ∀ q ∈ zT_X5_takeNumber_0, zEnt yX5_takeNumber cX5_takeNumber 2 (some .int) [] { frames := 0, cells := 0, slots := 0, locals := 0 } q := List.forall_mem_cons.mpr ⟨fun X => zs_aload_n X.1 dX5_takeNumber_0 rfl rfl,
  List.forall_mem_cons.mpr ⟨fun X => zs_getf (T := TX5) (N := 7) (k := 4) X.1 X.2.2.2.2.2.1 uX5_in rfl (by decide) wm_211 rfl dX5_takeNumber_1 rfl,
  List.forall_mem_cons.mpr ⟨fun X => zs_istore_n X.1 dX5_takeNumber_4 rfl (Nat.le_of_ble_eq_true rfl) rfl,
  List.forall_mem_cons.mpr ⟨fun X => zs_aload_n X.1 dX5_takeNumber_5 rfl rfl,
  List.forall_mem_cons.mpr ⟨fun X => zs_dup X.1 dX5_takeNumber_6 rfl,
  List.forall_mem_cons.mpr ⟨fun X => zs_getf (T := TX5) (N := 7) (k := 4) X.1 X.2.2.2.2.2.1 uX5_in rfl (by decide) wm_211 rfl dX5_takeNumber_7 rfl,
  List.forall_mem_cons.mpr ⟨fun X => zs_iconst X.1 dX5_takeNumber_10 (by decide) rfl,
  List.forall_mem_cons.mpr ⟨fun X => zs_iadd X.1 dX5_takeNumber_11 rfl,
  List.forall_mem_cons.mpr ⟨fun X => zs_putf (T := TX5) (N := 7) (k := 4) X.1 X.2.2.2.2.2.1 uX5_in tyX5 tyX5_ok nmX5 rfl (by decide) wm_211 rfl rfl (tyX5_ok 4 (by decide)) dX5_takeNumber_12 rfl,
  List.forall_mem_cons.mpr ⟨fun X => zs_iload_n X.1 dX5_takeNumber_15 rfl rfl,
  List.forall_mem_cons.mpr ⟨fun X => zs_iret X.1 X.2.1 X.2.2.1 dX5_takeNumber_16,
  fun _ h9 => nomatch h9⟩⟩⟩⟩⟩⟩⟩⟩⟩⟩⟩
theorem zG_X5_takeNumber_0 : ∀ q ∈ zT_X5_takeNumber_0, zmono q.2 := List.forall_mem_cons.mpr ⟨zm_aload 0 1, List.forall_mem_cons.mpr ⟨zm_getf 5 4 4, List.forall_mem_cons.mpr ⟨zm_istore 1 5, List.forall_mem_cons.mpr ⟨zm_aload 0 6, List.forall_mem_cons.mpr ⟨zm_dup 7, List.forall_mem_cons.mpr ⟨zm_getf 5 4 10, List.forall_mem_cons.mpr ⟨zm_iconst 1 11, List.forall_mem_cons.mpr ⟨zm_iadd 12, List.forall_mem_cons.mpr ⟨zm_putf 5 4 .int 15, List.forall_mem_cons.mpr ⟨zm_iload 1 16, List.forall_mem_cons.mpr ⟨zm_iret, fun _ h9 => nomatch h9⟩⟩⟩⟩⟩⟩⟩⟩⟩⟩⟩
theorem zE_X5_takeNumber : ∀ L ∈ zT_X5_takeNumber, ∀ q ∈ L, zEnt yX5_takeNumber cX5_takeNumber 2 (some .int) [] { frames := 0, cells := 0, slots := 0, locals := 0 } q := List.forall_mem_cons.mpr ⟨zE_X5_takeNumber_0, fun _ h9 => nomatch h9⟩
theorem zG_X5_takeNumber : ∀ L ∈ zT_X5_takeNumber, ∀ q ∈ L, zmono q.2 := List.forall_mem_cons.mpr ⟨zG_X5_takeNumber_0, fun _ h9 => nomatch h9⟩
set_option maxRecDepth 100000 in
theorem zE_X5_choice_0 : ∀ q ∈ zT_X5_choice_0, zEnt yX5_choice cX5_choice 3 (some .int) [] { frames := 1, cells := 0, slots := 0, locals := 21 } q := List.forall_mem_cons.mpr ⟨fun X => zs_aload_n X.1 dX5_choice_0 rfl rfl,
  List.forall_mem_cons.mpr ⟨fun X => zs_getf (T := TX5) (N := 7) (k := 3) X.1 X.2.2.2.2.2.1 uX5_in rfl (by decide) wm_210 rfl dX5_choice_1 rfl,
  List.forall_mem_cons.mpr ⟨fun X => zs_iload_n X.1 dX5_choice_4 rfl rfl,
  List.forall_mem_cons.mpr ⟨fun X => zs_iload_n X.1 dX5_choice_5 rfl rfl,
  List.forall_mem_cons.mpr ⟨fun X => zs_callS X.1 zNw_ok (fun _ h9 => Or.inr h9) X.2.2.2.2.2.1 X.2.2.2.2.2.2.1 zcal_71 rfl ⟨rfl, rfl⟩ wm_227 wm_228 dX5_choice_6 rfl,
  List.forall_mem_cons.mpr ⟨fun X => zs_callSN (host := "DraftMerge") X.1 zNw_ok (fun _ h9 => Or.inr h9) X.2.2.2.2.2.1 X.2.2.2.2.2.2.1 zcal_116 rfl ⟨rfl, rfl⟩ (by decide +kernel) wm_9 dX5_choice_9 rfl,
  List.forall_mem_cons.mpr ⟨fun X => zs_iret X.1 X.2.1 X.2.2.1 dX5_choice_12,
  fun _ h9 => nomatch h9⟩⟩⟩⟩⟩⟩⟩
theorem zG_X5_choice_0 : ∀ q ∈ zT_X5_choice_0, zmono q.2 := List.forall_mem_cons.mpr ⟨zm_aload 0 1, List.forall_mem_cons.mpr ⟨zm_getf 5 3 4, List.forall_mem_cons.mpr ⟨zm_iload 1 5, List.forall_mem_cons.mpr ⟨zm_iload 2 6, List.forall_mem_cons.mpr ⟨zm_call 71 2 9, List.forall_mem_cons.mpr ⟨zm_call 116 2 12, List.forall_mem_cons.mpr ⟨zm_iret, fun _ h9 => nomatch h9⟩⟩⟩⟩⟩⟩⟩
theorem zE_X5_choice : ∀ L ∈ zT_X5_choice, ∀ q ∈ L, zEnt yX5_choice cX5_choice 3 (some .int) [] { frames := 1, cells := 0, slots := 0, locals := 21 } q := List.forall_mem_cons.mpr ⟨zE_X5_choice_0, fun _ h9 => nomatch h9⟩
theorem zG_X5_choice : ∀ L ∈ zT_X5_choice, ∀ q ∈ L, zmono q.2 := List.forall_mem_cons.mpr ⟨zG_X5_choice_0, fun _ h9 => nomatch h9⟩
set_option maxRecDepth 100000 in
theorem zE_X5_choiceOrPreferred_0 : ∀ q ∈ zT_X5_choiceOrPreferred_0, zEnt yX5_choiceOrPreferred cX5_choiceOrPreferred 4 (some .int) [] { frames := 2, cells := 0, slots := 0, locals := 43 } q := List.forall_mem_cons.mpr ⟨fun X => zs_aload_n X.1 dX5_choiceOrPreferred_0 rfl rfl,
  List.forall_mem_cons.mpr ⟨fun X => zs_iload_n X.1 dX5_choiceOrPreferred_1 rfl rfl,
  List.forall_mem_cons.mpr ⟨fun X => zs_iload_n X.1 dX5_choiceOrPreferred_2 rfl rfl,
  List.forall_mem_cons.mpr ⟨fun X => zs_callV (Cn := RX5) X.1 zNw_ok (fun _ h9 => Or.inr h9) X.2.2.2.2.2.1 X.2.2.2.2.2.2.1 zcal_68 rfl ⟨rfl, rfl⟩ wm_229 rfl wm_143 wm_144 dX5_choiceOrPreferred_3 rfl,
  List.forall_mem_cons.mpr ⟨fun X => zs_istore_n X.1 dX5_choiceOrPreferred_6 rfl (Nat.le_of_ble_eq_true rfl) rfl,
  List.forall_mem_cons.mpr ⟨fun X => zs_iload_n X.1 dX5_choiceOrPreferred_7 rfl rfl,
  List.forall_mem_cons.mpr ⟨fun X => zs_iconst X.1 dX5_choiceOrPreferred_8 (by decide) rfl,
  List.forall_mem_cons.mpr ⟨fun X => zs_icmpne X.1 dX5_choiceOrPreferred_9 (by decide) rfl,
  List.forall_mem_cons.mpr ⟨fun X => zs_aload_n X.1 dX5_choiceOrPreferred_12 rfl rfl,
  List.forall_mem_cons.mpr ⟨fun X => zs_getf (T := TX5) (N := 7) (k := 5) X.1 X.2.2.2.2.2.1 uX5_in rfl (by decide) wm_212 rfl dX5_choiceOrPreferred_13 rfl,
  List.forall_mem_cons.mpr ⟨fun X => zs_goto X.1 dX5_choiceOrPreferred_16 (by decide),
  List.forall_mem_cons.mpr ⟨fun X => zs_iload_n X.1 dX5_choiceOrPreferred_19 rfl rfl,
  List.forall_mem_cons.mpr ⟨fun X => zs_iret X.1 X.2.1 X.2.2.1 dX5_choiceOrPreferred_20,
  fun _ h9 => nomatch h9⟩⟩⟩⟩⟩⟩⟩⟩⟩⟩⟩⟩⟩
theorem zG_X5_choiceOrPreferred_0 : ∀ q ∈ zT_X5_choiceOrPreferred_0, zmono q.2 := List.forall_mem_cons.mpr ⟨zm_aload 0 1, List.forall_mem_cons.mpr ⟨zm_iload 1 2, List.forall_mem_cons.mpr ⟨zm_iload 2 3, List.forall_mem_cons.mpr ⟨zm_callv 5 68 3 6, List.forall_mem_cons.mpr ⟨zm_istore 3 7, List.forall_mem_cons.mpr ⟨zm_iload 3 8, List.forall_mem_cons.mpr ⟨zm_iconst (-1) 9, List.forall_mem_cons.mpr ⟨zm_icmpne 19 12, List.forall_mem_cons.mpr ⟨zm_aload 0 13, List.forall_mem_cons.mpr ⟨zm_getf 5 5 16, List.forall_mem_cons.mpr ⟨zm_goto 20 [], List.forall_mem_cons.mpr ⟨zm_iload 3 20, List.forall_mem_cons.mpr ⟨zm_iret, fun _ h9 => nomatch h9⟩⟩⟩⟩⟩⟩⟩⟩⟩⟩⟩⟩⟩
theorem zE_X5_choiceOrPreferred : ∀ L ∈ zT_X5_choiceOrPreferred, ∀ q ∈ L, zEnt yX5_choiceOrPreferred cX5_choiceOrPreferred 4 (some .int) [] { frames := 2, cells := 0, slots := 0, locals := 43 } q := List.forall_mem_cons.mpr ⟨zE_X5_choiceOrPreferred_0, fun _ h9 => nomatch h9⟩
theorem zG_X5_choiceOrPreferred : ∀ L ∈ zT_X5_choiceOrPreferred, ∀ q ∈ L, zmono q.2 := List.forall_mem_cons.mpr ⟨zG_X5_choiceOrPreferred_0, fun _ h9 => nomatch h9⟩
set_option maxRecDepth 100000 in
theorem zE_X5_setChoice_0 : ∀ q ∈ zT_X5_setChoice_0, zEnt yX5_setChoice cX5_setChoice 5 (some .int) [] { frames := 2, cells := 0, slots := 0, locals := 43 } q := List.forall_mem_cons.mpr ⟨fun X => zs_aload_n X.1 dX5_setChoice_0 rfl rfl,
  List.forall_mem_cons.mpr ⟨fun X => zs_iload_n X.1 dX5_setChoice_1 rfl rfl,
  List.forall_mem_cons.mpr ⟨fun X => zs_iload_n X.1 dX5_setChoice_2 rfl rfl,
  List.forall_mem_cons.mpr ⟨fun X => zs_callV (Cn := RX5) X.1 zNw_ok (fun _ h9 => Or.inr h9) X.2.2.2.2.2.1 X.2.2.2.2.2.2.1 zcal_68 rfl ⟨rfl, rfl⟩ wm_229 rfl wm_143 wm_144 dX5_setChoice_3 rfl,
  List.forall_mem_cons.mpr ⟨fun X => zs_istore X.1 dX5_setChoice_6 (Nat.le_of_ble_eq_true rfl) rfl,
  List.forall_mem_cons.mpr ⟨fun X => zs_aload_n X.1 dX5_setChoice_8 rfl rfl,
  List.forall_mem_cons.mpr ⟨fun X => zs_getf (T := TX5) (N := 7) (k := 3) X.1 X.2.2.2.2.2.1 uX5_in rfl (by decide) wm_210 rfl dX5_setChoice_9 rfl,
  List.forall_mem_cons.mpr ⟨fun X => zs_iload_n X.1 dX5_setChoice_12 rfl rfl,
  List.forall_mem_cons.mpr ⟨fun X => zs_iload_n X.1 dX5_setChoice_13 rfl rfl,
  List.forall_mem_cons.mpr ⟨fun X => zs_callS X.1 zNw_ok (fun _ h9 => Or.inr h9) X.2.2.2.2.2.1 X.2.2.2.2.2.2.1 zcal_71 rfl ⟨rfl, rfl⟩ wm_227 wm_228 dX5_setChoice_14 rfl,
  List.forall_mem_cons.mpr ⟨fun X => zs_iload_n X.1 dX5_setChoice_17 rfl rfl,
  List.forall_mem_cons.mpr ⟨fun X => zs_callSN (host := "DraftMerge") X.1 zNw_ok (fun _ h9 => Or.inr h9) X.2.2.2.2.2.1 X.2.2.2.2.2.2.1 zcal_117 rfl ⟨rfl, rfl⟩ (by decide +kernel) wm_19 dX5_setChoice_18 rfl,
  List.forall_mem_cons.mpr ⟨fun X => zs_iload X.1 dX5_setChoice_21 rfl,
  List.forall_mem_cons.mpr ⟨fun X => zs_iret X.1 X.2.1 X.2.2.1 dX5_setChoice_23,
  fun _ h9 => nomatch h9⟩⟩⟩⟩⟩⟩⟩⟩⟩⟩⟩⟩⟩⟩
theorem zG_X5_setChoice_0 : ∀ q ∈ zT_X5_setChoice_0, zmono q.2 := List.forall_mem_cons.mpr ⟨zm_aload 0 1, List.forall_mem_cons.mpr ⟨zm_iload 1 2, List.forall_mem_cons.mpr ⟨zm_iload 2 3, List.forall_mem_cons.mpr ⟨zm_callv 5 68 3 6, List.forall_mem_cons.mpr ⟨zm_istore 4 8, List.forall_mem_cons.mpr ⟨zm_aload 0 9, List.forall_mem_cons.mpr ⟨zm_getf 5 3 12, List.forall_mem_cons.mpr ⟨zm_iload 1 13, List.forall_mem_cons.mpr ⟨zm_iload 2 14, List.forall_mem_cons.mpr ⟨zm_call 71 2 17, List.forall_mem_cons.mpr ⟨zm_iload 3 18, List.forall_mem_cons.mpr ⟨zm_call 117 3 21, List.forall_mem_cons.mpr ⟨zm_iload 4 23, List.forall_mem_cons.mpr ⟨zm_iret, fun _ h9 => nomatch h9⟩⟩⟩⟩⟩⟩⟩⟩⟩⟩⟩⟩⟩⟩
theorem zE_X5_setChoice : ∀ L ∈ zT_X5_setChoice, ∀ q ∈ L, zEnt yX5_setChoice cX5_setChoice 5 (some .int) [] { frames := 2, cells := 0, slots := 0, locals := 43 } q := List.forall_mem_cons.mpr ⟨zE_X5_setChoice_0, fun _ h9 => nomatch h9⟩
theorem zG_X5_setChoice : ∀ L ∈ zT_X5_setChoice, ∀ q ∈ L, zmono q.2 := List.forall_mem_cons.mpr ⟨zG_X5_setChoice_0, fun _ h9 => nomatch h9⟩
set_option maxRecDepth 100000 in
theorem zE_X5_choiceIndex_0 : ∀ q ∈ zT_X5_choiceIndex_0, zEnt yX5_choiceIndex cX5_choiceIndex 2 (some .int) [] { frames := 0, cells := 0, slots := 0, locals := 0 } q := List.forall_mem_cons.mpr ⟨fun X => zs_iload_n X.1 dX5_choiceIndex_0 rfl rfl,
  List.forall_mem_cons.mpr ⟨fun X => zs_iconst X.1 dX5_choiceIndex_1 (by decide) rfl,
  List.forall_mem_cons.mpr ⟨fun X => zs_imul X.1 dX5_choiceIndex_2 rfl,
  List.forall_mem_cons.mpr ⟨fun X => zs_iload_n X.1 dX5_choiceIndex_3 rfl rfl,
  List.forall_mem_cons.mpr ⟨fun X => zs_iadd X.1 dX5_choiceIndex_4 rfl,
  List.forall_mem_cons.mpr ⟨fun X => zs_iconst X.1 dX5_choiceIndex_5 (by decide) rfl,
  List.forall_mem_cons.mpr ⟨fun X => zs_isub X.1 dX5_choiceIndex_6 rfl,
  List.forall_mem_cons.mpr ⟨fun X => zs_iret X.1 X.2.1 X.2.2.1 dX5_choiceIndex_7,
  fun _ h9 => nomatch h9⟩⟩⟩⟩⟩⟩⟩⟩
theorem zG_X5_choiceIndex_0 : ∀ q ∈ zT_X5_choiceIndex_0, zmono q.2 := List.forall_mem_cons.mpr ⟨zm_iload 0 1, List.forall_mem_cons.mpr ⟨zm_iconst 3 2, List.forall_mem_cons.mpr ⟨zm_imul 3, List.forall_mem_cons.mpr ⟨zm_iload 1 4, List.forall_mem_cons.mpr ⟨zm_iadd 5, List.forall_mem_cons.mpr ⟨zm_iconst 1 6, List.forall_mem_cons.mpr ⟨zm_isub 7, List.forall_mem_cons.mpr ⟨zm_iret, fun _ h9 => nomatch h9⟩⟩⟩⟩⟩⟩⟩⟩
theorem zE_X5_choiceIndex : ∀ L ∈ zT_X5_choiceIndex, ∀ q ∈ L, zEnt yX5_choiceIndex cX5_choiceIndex 2 (some .int) [] { frames := 0, cells := 0, slots := 0, locals := 0 } q := List.forall_mem_cons.mpr ⟨zE_X5_choiceIndex_0, fun _ h9 => nomatch h9⟩
theorem zG_X5_choiceIndex : ∀ L ∈ zT_X5_choiceIndex, ∀ q ∈ L, zmono q.2 := List.forall_mem_cons.mpr ⟨zG_X5_choiceIndex_0, fun _ h9 => nomatch h9⟩
set_option maxRecDepth 100000 in
theorem zE_X5_takeAsBase_0 : ∀ q ∈ zT_X5_takeAsBase_0, zEnt yX5_takeAsBase cX5_takeAsBase 3 none [] { frames := 3, cells := 0, slots := 0, locals := 68 } q := List.forall_mem_cons.mpr ⟨fun X => zs_aload_n X.1 dX5_takeAsBase_0 rfl rfl,
  List.forall_mem_cons.mpr ⟨fun X => zs_getf (T := TX5) (N := 7) (k := 0) X.1 X.2.2.2.2.2.1 uX5_in rfl (by decide) wm_207 rfl dX5_takeAsBase_1 rfl,
  List.forall_mem_cons.mpr ⟨fun X => zs_callV (Cn := RX0) X.1 zNw_ok (fun _ h9 => Or.inr h9) X.2.2.2.2.2.1 X.2.2.2.2.2.2.1 zcal_12 rfl ⟨rfl, rfl⟩ wm_230 rfl wm_152 wm_153 dX5_takeAsBase_4 rfl,
  List.forall_mem_cons.mpr ⟨fun X => zs_iconst X.1 dX5_takeAsBase_7 (by decide) rfl,
  List.forall_mem_cons.mpr ⟨fun X => zs_istore_n X.1 dX5_takeAsBase_8 rfl (Nat.le_of_ble_eq_true rfl) rfl,
  List.forall_mem_cons.mpr ⟨fun X => zs_iload_n X.1 dX5_takeAsBase_9 rfl rfl,
  List.forall_mem_cons.mpr ⟨fun X => zs_aload_n X.1 dX5_takeAsBase_10 rfl rfl,
  List.forall_mem_cons.mpr ⟨fun X => zs_getf (T := TX0) (N := 3) (k := 2) X.1 X.2.2.2.2.2.1 uX0_in rfl (by decide) wm_217 rfl dX5_takeAsBase_11 rfl,
  List.forall_mem_cons.mpr ⟨fun X => zs_icmpge X.1 dX5_takeAsBase_14 (by decide) rfl,
  List.forall_mem_cons.mpr ⟨fun X => zs_aload_n X.1 dX5_takeAsBase_17 rfl rfl,
  List.forall_mem_cons.mpr ⟨fun X => zs_getf (T := TX5) (N := 7) (k := 0) X.1 X.2.2.2.2.2.1 uX5_in rfl (by decide) wm_207 rfl dX5_takeAsBase_18 rfl,
  List.forall_mem_cons.mpr ⟨fun X => zs_iload_n X.1 dX5_takeAsBase_21 rfl rfl,
  List.forall_mem_cons.mpr ⟨fun X => zs_aload_n X.1 dX5_takeAsBase_22 rfl rfl,
  List.forall_mem_cons.mpr ⟨fun X => zs_iload_n X.1 dX5_takeAsBase_23 rfl rfl,
  List.forall_mem_cons.mpr ⟨fun X => zs_callV (Cn := RX0) X.1 zNw_ok (fun _ h9 => Or.inr h9) X.2.2.2.2.2.1 X.2.2.2.2.2.2.1 zcal_4 rfl ⟨rfl, rfl⟩ wm_231 rfl wm_17 wm_18 dX5_takeAsBase_24 rfl,
  List.forall_mem_cons.mpr ⟨fun X => zs_callV (Cn := RX0) X.1 zNw_ok (fun _ h9 => Or.inr h9) X.2.2.2.2.2.1 X.2.2.2.2.2.2.1 zcal_9 rfl ⟨rfl, rfl⟩ wm_224 rfl wm_159 wm_160 dX5_takeAsBase_27 rfl,
  List.forall_mem_cons.mpr ⟨fun X => zs_iinc X.1 dX5_takeAsBase_30 (Nat.le_of_ble_eq_true rfl) rfl,
  List.forall_mem_cons.mpr ⟨fun X => zs_goto X.1 dX5_takeAsBase_33 (by decide),
  List.forall_mem_cons.mpr ⟨fun X => zs_aload_n X.1 dX5_takeAsBase_36 rfl rfl,
  List.forall_mem_cons.mpr ⟨fun X => zs_getf (T := TX5) (N := 7) (k := 1) X.1 X.2.2.2.2.2.1 uX5_in rfl (by decide) wm_208 rfl dX5_takeAsBase_37 rfl,
  List.forall_mem_cons.mpr ⟨fun X => zs_aload_n X.1 dX5_takeAsBase_40 rfl rfl,
  List.forall_mem_cons.mpr ⟨fun X => zs_getf (T := TX5) (N := 7) (k := 0) X.1 X.2.2.2.2.2.1 uX5_in rfl (by decide) wm_207 rfl dX5_takeAsBase_41 rfl,
  List.forall_mem_cons.mpr ⟨fun X => zs_callV (Cn := RX0) X.1 zNw_ok (fun _ h9 => Or.inr h9) X.2.2.2.2.2.1 X.2.2.2.2.2.2.1 zcal_13 rfl ⟨rfl, rfl⟩ wm_232 rfl wm_233 wm_234 dX5_takeAsBase_44 rfl,
  List.forall_mem_cons.mpr ⟨fun X => zs_aload_n X.1 dX5_takeAsBase_47 rfl rfl,
  List.forall_mem_cons.mpr ⟨fun X => zs_getf (T := TX5) (N := 7) (k := 2) X.1 X.2.2.2.2.2.1 uX5_in rfl (by decide) wm_209 rfl dX5_takeAsBase_48 rfl,
  List.forall_mem_cons.mpr ⟨fun X => zs_aload_n X.1 dX5_takeAsBase_51 rfl rfl,
  List.forall_mem_cons.mpr ⟨fun X => zs_getf (T := TX5) (N := 7) (k := 0) X.1 X.2.2.2.2.2.1 uX5_in rfl (by decide) wm_207 rfl dX5_takeAsBase_52 rfl,
  List.forall_mem_cons.mpr ⟨fun X => zs_callV (Cn := RX0) X.1 zNw_ok (fun _ h9 => Or.inr h9) X.2.2.2.2.2.1 X.2.2.2.2.2.2.1 zcal_13 rfl ⟨rfl, rfl⟩ wm_232 rfl wm_233 wm_234 dX5_takeAsBase_55 rfl,
  List.forall_mem_cons.mpr ⟨fun X => zs_aload_n X.1 dX5_takeAsBase_58 rfl rfl,
  List.forall_mem_cons.mpr ⟨fun X => zs_getf (T := TX5) (N := 7) (k := 3) X.1 X.2.2.2.2.2.1 uX5_in rfl (by decide) wm_210 rfl dX5_takeAsBase_59 rfl,
  List.forall_mem_cons.mpr ⟨fun X => zs_iconst X.1 dX5_takeAsBase_62 (by decide) rfl,
  List.forall_mem_cons.mpr ⟨fun X => zs_callS X.1 zNw_ok (fun _ h9 => Or.inr h9) X.2.2.2.2.2.1 X.2.2.2.2.2.2.1 zcal_193 rfl ⟨rfl, rfl⟩ wm_214 wm_215 dX5_takeAsBase_63 rfl,
  fun _ h9 => nomatch h9⟩⟩⟩⟩⟩⟩⟩⟩⟩⟩⟩⟩⟩⟩⟩⟩⟩⟩⟩⟩⟩⟩⟩⟩⟩⟩⟩⟩⟩⟩⟩⟩
theorem zG_X5_takeAsBase_0 : ∀ q ∈ zT_X5_takeAsBase_0, zmono q.2 := List.forall_mem_cons.mpr ⟨zm_aload 0 1, List.forall_mem_cons.mpr ⟨zm_getf 5 0 4, List.forall_mem_cons.mpr ⟨zm_callv 0 12 1 7, List.forall_mem_cons.mpr ⟨zm_iconst 0 8, List.forall_mem_cons.mpr ⟨zm_istore 2 9, List.forall_mem_cons.mpr ⟨zm_iload 2 10, List.forall_mem_cons.mpr ⟨zm_aload 1 11, List.forall_mem_cons.mpr ⟨zm_getf 0 2 14, List.forall_mem_cons.mpr ⟨zm_icmpge 36 17, List.forall_mem_cons.mpr ⟨zm_aload 0 18, List.forall_mem_cons.mpr ⟨zm_getf 5 0 21, List.forall_mem_cons.mpr ⟨zm_iload 2 22, List.forall_mem_cons.mpr ⟨zm_aload 1 23, List.forall_mem_cons.mpr ⟨zm_iload 2 24, List.forall_mem_cons.mpr ⟨zm_callv 0 4 2 27, List.forall_mem_cons.mpr ⟨zm_callv 0 9 3 30, List.forall_mem_cons.mpr ⟨zm_iinc 2 1 33, List.forall_mem_cons.mpr ⟨zm_goto 9 [], List.forall_mem_cons.mpr ⟨zm_aload 0 37, List.forall_mem_cons.mpr ⟨zm_getf 5 1 40, List.forall_mem_cons.mpr ⟨zm_aload 0 41, List.forall_mem_cons.mpr ⟨zm_getf 5 0 44, List.forall_mem_cons.mpr ⟨zm_callv 0 13 2 47, List.forall_mem_cons.mpr ⟨zm_aload 0 48, List.forall_mem_cons.mpr ⟨zm_getf 5 2 51, List.forall_mem_cons.mpr ⟨zm_aload 0 52, List.forall_mem_cons.mpr ⟨zm_getf 5 0 55, List.forall_mem_cons.mpr ⟨zm_callv 0 13 2 58, List.forall_mem_cons.mpr ⟨zm_aload 0 59, List.forall_mem_cons.mpr ⟨zm_getf 5 3 62, List.forall_mem_cons.mpr ⟨zm_iconst (-1) 63, List.forall_mem_cons.mpr ⟨zm_call 193 2 66, fun _ h9 => nomatch h9⟩⟩⟩⟩⟩⟩⟩⟩⟩⟩⟩⟩⟩⟩⟩⟩⟩⟩⟩⟩⟩⟩⟩⟩⟩⟩⟩⟩⟩⟩⟩⟩
set_option maxRecDepth 100000 in
theorem zE_X5_takeAsBase_1 : ∀ q ∈ zT_X5_takeAsBase_1, zEnt yX5_takeAsBase cX5_takeAsBase 3 none [] { frames := 3, cells := 0, slots := 0, locals := 68 } q := List.forall_mem_cons.mpr ⟨fun X => zs_aload_n X.1 dX5_takeAsBase_66 rfl rfl,
  List.forall_mem_cons.mpr ⟨fun X => zs_aload_n X.1 dX5_takeAsBase_67 rfl rfl,
  List.forall_mem_cons.mpr ⟨fun X => zs_getf (T := TX5) (N := 7) (k := 0) X.1 X.2.2.2.2.2.1 uX5_in rfl (by decide) wm_207 rfl dX5_takeAsBase_68 rfl,
  List.forall_mem_cons.mpr ⟨fun X => zs_getf (T := TX0) (N := 3) (k := 2) X.1 X.2.2.2.2.2.1 uX0_in rfl (by decide) wm_217 rfl dX5_takeAsBase_71 rfl,
  List.forall_mem_cons.mpr ⟨fun X => zs_putf (T := TX5) (N := 7) (k := 4) X.1 X.2.2.2.2.2.1 uX5_in tyX5 tyX5_ok nmX5 rfl (by decide) wm_211 rfl rfl (tyX5_ok 4 (by decide)) dX5_takeAsBase_74 rfl,
  List.forall_mem_cons.mpr ⟨fun X => zs_aload_n X.1 dX5_takeAsBase_77 rfl rfl,
  List.forall_mem_cons.mpr ⟨fun X => zs_dup X.1 dX5_takeAsBase_78 rfl,
  List.forall_mem_cons.mpr ⟨fun X => zs_getf (T := TX5) (N := 7) (k := 6) X.1 X.2.2.2.2.2.1 uX5_in rfl (by decide) wm_213 rfl dX5_takeAsBase_79 rfl,
  List.forall_mem_cons.mpr ⟨fun X => zs_iconst X.1 dX5_takeAsBase_82 (by decide) rfl,
  List.forall_mem_cons.mpr ⟨fun X => zs_iadd X.1 dX5_takeAsBase_83 rfl,
  List.forall_mem_cons.mpr ⟨fun X => zs_putf (T := TX5) (N := 7) (k := 6) X.1 X.2.2.2.2.2.1 uX5_in tyX5 tyX5_ok nmX5 rfl (by decide) wm_213 rfl rfl (tyX5_ok 6 (by decide)) dX5_takeAsBase_84 rfl,
  List.forall_mem_cons.mpr ⟨fun X => zs_vret X.1 X.2.1 X.2.2.1 dX5_takeAsBase_87,
  fun _ h9 => nomatch h9⟩⟩⟩⟩⟩⟩⟩⟩⟩⟩⟩⟩
theorem zG_X5_takeAsBase_1 : ∀ q ∈ zT_X5_takeAsBase_1, zmono q.2 := List.forall_mem_cons.mpr ⟨zm_aload 0 67, List.forall_mem_cons.mpr ⟨zm_aload 0 68, List.forall_mem_cons.mpr ⟨zm_getf 5 0 71, List.forall_mem_cons.mpr ⟨zm_getf 0 2 74, List.forall_mem_cons.mpr ⟨zm_putf 5 4 .int 77, List.forall_mem_cons.mpr ⟨zm_aload 0 78, List.forall_mem_cons.mpr ⟨zm_dup 79, List.forall_mem_cons.mpr ⟨zm_getf 5 6 82, List.forall_mem_cons.mpr ⟨zm_iconst 1 83, List.forall_mem_cons.mpr ⟨zm_iadd 84, List.forall_mem_cons.mpr ⟨zm_putf 5 6 .int 87, List.forall_mem_cons.mpr ⟨zm_vret, fun _ h9 => nomatch h9⟩⟩⟩⟩⟩⟩⟩⟩⟩⟩⟩⟩
theorem zE_X5_takeAsBase : ∀ L ∈ zT_X5_takeAsBase, ∀ q ∈ L, zEnt yX5_takeAsBase cX5_takeAsBase 3 none [] { frames := 3, cells := 0, slots := 0, locals := 68 } q := List.forall_mem_cons.mpr ⟨zE_X5_takeAsBase_0, List.forall_mem_cons.mpr ⟨zE_X5_takeAsBase_1, fun _ h9 => nomatch h9⟩⟩
theorem zG_X5_takeAsBase : ∀ L ∈ zT_X5_takeAsBase, ∀ q ∈ L, zmono q.2 := List.forall_mem_cons.mpr ⟨zG_X5_takeAsBase_0, List.forall_mem_cons.mpr ⟨zG_X5_takeAsBase_1, fun _ h9 => nomatch h9⟩⟩
set_option maxRecDepth 100000 in
theorem zE_X5_copyFrom_0 : ∀ q ∈ zT_X5_copyFrom_0, zEnt yX5_copyFrom cX5_copyFrom 3 none [] { frames := 3, cells := 0, slots := 0, locals := 64 } q := List.forall_mem_cons.mpr ⟨fun X => zs_aload_n X.1 dX5_copyFrom_0 rfl rfl,
  List.forall_mem_cons.mpr ⟨fun X => zs_getf (T := TX5) (N := 7) (k := 0) X.1 X.2.2.2.2.2.1 uX5_in rfl (by decide) wm_207 rfl dX5_copyFrom_1 rfl,
  List.forall_mem_cons.mpr ⟨fun X => zs_aload_n X.1 dX5_copyFrom_4 rfl rfl,
  List.forall_mem_cons.mpr ⟨fun X => zs_getf (T := TX5) (N := 7) (k := 0) X.1 X.2.2.2.2.2.1 uX5_in rfl (by decide) wm_207 rfl dX5_copyFrom_5 rfl,
  List.forall_mem_cons.mpr ⟨fun X => zs_callV (Cn := RX0) X.1 zNw_ok (fun _ h9 => Or.inr h9) X.2.2.2.2.2.1 X.2.2.2.2.2.2.1 zcal_13 rfl ⟨rfl, rfl⟩ wm_232 rfl wm_233 wm_234 dX5_copyFrom_8 rfl,
  List.forall_mem_cons.mpr ⟨fun X => zs_aload_n X.1 dX5_copyFrom_11 rfl rfl,
  List.forall_mem_cons.mpr ⟨fun X => zs_getf (T := TX5) (N := 7) (k := 1) X.1 X.2.2.2.2.2.1 uX5_in rfl (by decide) wm_208 rfl dX5_copyFrom_12 rfl,
  List.forall_mem_cons.mpr ⟨fun X => zs_aload_n X.1 dX5_copyFrom_15 rfl rfl,
  List.forall_mem_cons.mpr ⟨fun X => zs_getf (T := TX5) (N := 7) (k := 1) X.1 X.2.2.2.2.2.1 uX5_in rfl (by decide) wm_208 rfl dX5_copyFrom_16 rfl,
  List.forall_mem_cons.mpr ⟨fun X => zs_callV (Cn := RX0) X.1 zNw_ok (fun _ h9 => Or.inr h9) X.2.2.2.2.2.1 X.2.2.2.2.2.2.1 zcal_13 rfl ⟨rfl, rfl⟩ wm_232 rfl wm_233 wm_234 dX5_copyFrom_19 rfl,
  List.forall_mem_cons.mpr ⟨fun X => zs_aload_n X.1 dX5_copyFrom_22 rfl rfl,
  List.forall_mem_cons.mpr ⟨fun X => zs_getf (T := TX5) (N := 7) (k := 2) X.1 X.2.2.2.2.2.1 uX5_in rfl (by decide) wm_209 rfl dX5_copyFrom_23 rfl,
  List.forall_mem_cons.mpr ⟨fun X => zs_aload_n X.1 dX5_copyFrom_26 rfl rfl,
  List.forall_mem_cons.mpr ⟨fun X => zs_getf (T := TX5) (N := 7) (k := 2) X.1 X.2.2.2.2.2.1 uX5_in rfl (by decide) wm_209 rfl dX5_copyFrom_27 rfl,
  List.forall_mem_cons.mpr ⟨fun X => zs_callV (Cn := RX0) X.1 zNw_ok (fun _ h9 => Or.inr h9) X.2.2.2.2.2.1 X.2.2.2.2.2.2.1 zcal_13 rfl ⟨rfl, rfl⟩ wm_232 rfl wm_233 wm_234 dX5_copyFrom_30 rfl,
  List.forall_mem_cons.mpr ⟨fun X => zs_iconst X.1 dX5_copyFrom_33 (by decide) rfl,
  List.forall_mem_cons.mpr ⟨fun X => zs_istore_n X.1 dX5_copyFrom_34 rfl (Nat.le_of_ble_eq_true rfl) rfl,
  List.forall_mem_cons.mpr ⟨fun X => zs_iload_n X.1 dX5_copyFrom_35 rfl rfl,
  List.forall_mem_cons.mpr ⟨fun X => zs_aload_n X.1 dX5_copyFrom_36 rfl rfl,
  List.forall_mem_cons.mpr ⟨fun X => zs_getf (T := TX5) (N := 7) (k := 3) X.1 X.2.2.2.2.2.1 uX5_in rfl (by decide) wm_210 rfl dX5_copyFrom_37 rfl,
  List.forall_mem_cons.mpr ⟨fun X => zs_alen X.1 X.2.2.2.2.2.1 dX5_copyFrom_40 rfl,
  List.forall_mem_cons.mpr ⟨fun X => zs_icmpge X.1 dX5_copyFrom_41 (by decide) rfl,
  List.forall_mem_cons.mpr ⟨fun X => zs_aload_n X.1 dX5_copyFrom_44 rfl rfl,
  List.forall_mem_cons.mpr ⟨fun X => zs_getf (T := TX5) (N := 7) (k := 3) X.1 X.2.2.2.2.2.1 uX5_in rfl (by decide) wm_210 rfl dX5_copyFrom_45 rfl,
  List.forall_mem_cons.mpr ⟨fun X => zs_iload_n X.1 dX5_copyFrom_48 rfl rfl,
  List.forall_mem_cons.mpr ⟨fun X => zs_aload_n X.1 dX5_copyFrom_49 rfl rfl,
  List.forall_mem_cons.mpr ⟨fun X => zs_getf (T := TX5) (N := 7) (k := 3) X.1 X.2.2.2.2.2.1 uX5_in rfl (by decide) wm_210 rfl dX5_copyFrom_50 rfl,
  List.forall_mem_cons.mpr ⟨fun X => zs_iload_n X.1 dX5_copyFrom_53 rfl rfl,
  List.forall_mem_cons.mpr ⟨fun X => zs_callSN (host := "DraftMerge") X.1 zNw_ok (fun _ h9 => Or.inr h9) X.2.2.2.2.2.1 X.2.2.2.2.2.2.1 zcal_116 rfl ⟨rfl, rfl⟩ (by decide +kernel) wm_9 dX5_copyFrom_54 rfl,
  List.forall_mem_cons.mpr ⟨fun X => zs_callSN (host := "DraftMerge") X.1 zNw_ok (fun _ h9 => Or.inr h9) X.2.2.2.2.2.1 X.2.2.2.2.2.2.1 zcal_117 rfl ⟨rfl, rfl⟩ (by decide +kernel) wm_19 dX5_copyFrom_57 rfl,
  List.forall_mem_cons.mpr ⟨fun X => zs_iinc X.1 dX5_copyFrom_60 (Nat.le_of_ble_eq_true rfl) rfl,
  List.forall_mem_cons.mpr ⟨fun X => zs_goto X.1 dX5_copyFrom_63 (by decide),
  fun _ h9 => nomatch h9⟩⟩⟩⟩⟩⟩⟩⟩⟩⟩⟩⟩⟩⟩⟩⟩⟩⟩⟩⟩⟩⟩⟩⟩⟩⟩⟩⟩⟩⟩⟩⟩
theorem zG_X5_copyFrom_0 : ∀ q ∈ zT_X5_copyFrom_0, zmono q.2 := List.forall_mem_cons.mpr ⟨zm_aload 0 1, List.forall_mem_cons.mpr ⟨zm_getf 5 0 4, List.forall_mem_cons.mpr ⟨zm_aload 1 5, List.forall_mem_cons.mpr ⟨zm_getf 5 0 8, List.forall_mem_cons.mpr ⟨zm_callv 0 13 2 11, List.forall_mem_cons.mpr ⟨zm_aload 0 12, List.forall_mem_cons.mpr ⟨zm_getf 5 1 15, List.forall_mem_cons.mpr ⟨zm_aload 1 16, List.forall_mem_cons.mpr ⟨zm_getf 5 1 19, List.forall_mem_cons.mpr ⟨zm_callv 0 13 2 22, List.forall_mem_cons.mpr ⟨zm_aload 0 23, List.forall_mem_cons.mpr ⟨zm_getf 5 2 26, List.forall_mem_cons.mpr ⟨zm_aload 1 27, List.forall_mem_cons.mpr ⟨zm_getf 5 2 30, List.forall_mem_cons.mpr ⟨zm_callv 0 13 2 33, List.forall_mem_cons.mpr ⟨zm_iconst 0 34, List.forall_mem_cons.mpr ⟨zm_istore 2 35, List.forall_mem_cons.mpr ⟨zm_iload 2 36, List.forall_mem_cons.mpr ⟨zm_aload 0 37, List.forall_mem_cons.mpr ⟨zm_getf 5 3 40, List.forall_mem_cons.mpr ⟨zm_alen 41, List.forall_mem_cons.mpr ⟨zm_icmpge 66 44, List.forall_mem_cons.mpr ⟨zm_aload 0 45, List.forall_mem_cons.mpr ⟨zm_getf 5 3 48, List.forall_mem_cons.mpr ⟨zm_iload 2 49, List.forall_mem_cons.mpr ⟨zm_aload 1 50, List.forall_mem_cons.mpr ⟨zm_getf 5 3 53, List.forall_mem_cons.mpr ⟨zm_iload 2 54, List.forall_mem_cons.mpr ⟨zm_call 116 2 57, List.forall_mem_cons.mpr ⟨zm_call 117 3 60, List.forall_mem_cons.mpr ⟨zm_iinc 2 1 63, List.forall_mem_cons.mpr ⟨zm_goto 35 [], fun _ h9 => nomatch h9⟩⟩⟩⟩⟩⟩⟩⟩⟩⟩⟩⟩⟩⟩⟩⟩⟩⟩⟩⟩⟩⟩⟩⟩⟩⟩⟩⟩⟩⟩⟩⟩
set_option maxRecDepth 100000 in
theorem zE_X5_copyFrom_1 : ∀ q ∈ zT_X5_copyFrom_1, zEnt yX5_copyFrom cX5_copyFrom 3 none [] { frames := 3, cells := 0, slots := 0, locals := 64 } q := List.forall_mem_cons.mpr ⟨fun X => zs_aload_n X.1 dX5_copyFrom_66 rfl rfl,
  List.forall_mem_cons.mpr ⟨fun X => zs_aload_n X.1 dX5_copyFrom_67 rfl rfl,
  List.forall_mem_cons.mpr ⟨fun X => zs_getf (T := TX5) (N := 7) (k := 4) X.1 X.2.2.2.2.2.1 uX5_in rfl (by decide) wm_211 rfl dX5_copyFrom_68 rfl,
  List.forall_mem_cons.mpr ⟨fun X => zs_putf (T := TX5) (N := 7) (k := 4) X.1 X.2.2.2.2.2.1 uX5_in tyX5 tyX5_ok nmX5 rfl (by decide) wm_211 rfl rfl (tyX5_ok 4 (by decide)) dX5_copyFrom_71 rfl,
  List.forall_mem_cons.mpr ⟨fun X => zs_aload_n X.1 dX5_copyFrom_74 rfl rfl,
  List.forall_mem_cons.mpr ⟨fun X => zs_aload_n X.1 dX5_copyFrom_75 rfl rfl,
  List.forall_mem_cons.mpr ⟨fun X => zs_getf (T := TX5) (N := 7) (k := 5) X.1 X.2.2.2.2.2.1 uX5_in rfl (by decide) wm_212 rfl dX5_copyFrom_76 rfl,
  List.forall_mem_cons.mpr ⟨fun X => zs_putf (T := TX5) (N := 7) (k := 5) X.1 X.2.2.2.2.2.1 uX5_in tyX5 tyX5_ok nmX5 rfl (by decide) wm_212 rfl rfl (tyX5_ok 5 (by decide)) dX5_copyFrom_79 rfl,
  List.forall_mem_cons.mpr ⟨fun X => zs_aload_n X.1 dX5_copyFrom_82 rfl rfl,
  List.forall_mem_cons.mpr ⟨fun X => zs_aload_n X.1 dX5_copyFrom_83 rfl rfl,
  List.forall_mem_cons.mpr ⟨fun X => zs_getf (T := TX5) (N := 7) (k := 6) X.1 X.2.2.2.2.2.1 uX5_in rfl (by decide) wm_213 rfl dX5_copyFrom_84 rfl,
  List.forall_mem_cons.mpr ⟨fun X => zs_putf (T := TX5) (N := 7) (k := 6) X.1 X.2.2.2.2.2.1 uX5_in tyX5 tyX5_ok nmX5 rfl (by decide) wm_213 rfl rfl (tyX5_ok 6 (by decide)) dX5_copyFrom_87 rfl,
  List.forall_mem_cons.mpr ⟨fun X => zs_vret X.1 X.2.1 X.2.2.1 dX5_copyFrom_90,
  fun _ h9 => nomatch h9⟩⟩⟩⟩⟩⟩⟩⟩⟩⟩⟩⟩⟩
theorem zG_X5_copyFrom_1 : ∀ q ∈ zT_X5_copyFrom_1, zmono q.2 := List.forall_mem_cons.mpr ⟨zm_aload 0 67, List.forall_mem_cons.mpr ⟨zm_aload 1 68, List.forall_mem_cons.mpr ⟨zm_getf 5 4 71, List.forall_mem_cons.mpr ⟨zm_putf 5 4 .int 74, List.forall_mem_cons.mpr ⟨zm_aload 0 75, List.forall_mem_cons.mpr ⟨zm_aload 1 76, List.forall_mem_cons.mpr ⟨zm_getf 5 5 79, List.forall_mem_cons.mpr ⟨zm_putf 5 5 .int 82, List.forall_mem_cons.mpr ⟨zm_aload 0 83, List.forall_mem_cons.mpr ⟨zm_aload 1 84, List.forall_mem_cons.mpr ⟨zm_getf 5 6 87, List.forall_mem_cons.mpr ⟨zm_putf 5 6 .int 90, List.forall_mem_cons.mpr ⟨zm_vret, fun _ h9 => nomatch h9⟩⟩⟩⟩⟩⟩⟩⟩⟩⟩⟩⟩⟩
theorem zE_X5_copyFrom : ∀ L ∈ zT_X5_copyFrom, ∀ q ∈ L, zEnt yX5_copyFrom cX5_copyFrom 3 none [] { frames := 3, cells := 0, slots := 0, locals := 64 } q := List.forall_mem_cons.mpr ⟨zE_X5_copyFrom_0, List.forall_mem_cons.mpr ⟨zE_X5_copyFrom_1, fun _ h9 => nomatch h9⟩⟩
theorem zG_X5_copyFrom : ∀ L ∈ zT_X5_copyFrom, ∀ q ∈ L, zmono q.2 := List.forall_mem_cons.mpr ⟨zG_X5_copyFrom_0, List.forall_mem_cons.mpr ⟨zG_X5_copyFrom_1, fun _ h9 => nomatch h9⟩⟩
