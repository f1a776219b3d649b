/-! every entry of the tables of X6 is sound, and grows -/
set_option maxRecDepth 100000 in
theorem zE_X6_init_0 : ∀ q ∈ zT_X6_init_0, zEnt yX6_init cX6_init 1 none [] { frames := 4, cells := 95, slots := 1163, locals := 83 } q := List.forall_mem_cons.mpr ⟨fun X => zs_aload_n X.1 dX6_init_0 rfl rfl,
  List.forall_mem_cons.mpr ⟨fun X => zs_objinit X.1 wm_235 wm_1 wm_2 ⟨Nat.le_of_ble_eq_true rfl, Nat.le_of_ble_eq_true rfl⟩ dX6_init_1 rfl,
  List.forall_mem_cons.mpr ⟨fun X => zs_aload_n X.1 dX6_init_4 rfl rfl,
  List.forall_mem_cons.mpr ⟨fun X => zs_new (T := TX5) (N := 7) X.1 X.2.2.2.2.2.1 (fun _ h9 => Or.inr h9) ⟨Nat.le_refl _, Nat.le_refl _⟩ uX5_in tyX5 tyX5_ok wm_236 wm_106 wm_107 rfl (by decide +kernel) rfl rfl dX6_init_5 rfl,
  List.forall_mem_cons.mpr ⟨fun X => zs_dup X.1 dX6_init_8 rfl,
  List.forall_mem_cons.mpr ⟨fun X => zs_callIM X.1 zNw_ok (fun _ h9 => Or.inr h9) X.2.2.2.2.2.1 X.2.2.2.2.2.2.1 zcal_62 rfl ⟨Nat.le_refl _, Nat.le_refl _⟩ ⟨rfl, rfl⟩ wm_237 rfl rfl wm_109 dX6_init_9 rfl,
  List.forall_mem_cons.mpr ⟨fun X => zs_putfF (T := TX6) (N := 4) (k := 0) X.1 X.2.2.2.2.2.1 uX6_in tyX6 tyX6_ok nmX6 rfl (by decide) wm_238 rfl rfl X.2.2.2.1 rfl (tyX6_ok 0 (by decide)) dX6_init_12 rfl,
  List.forall_mem_cons.mpr ⟨fun X => zs_aload_n X.1 dX6_init_15 rfl rfl,
  List.forall_mem_cons.mpr ⟨fun X => zs_new (T := TX3) (N := 3) X.1 X.2.2.2.2.2.1 (fun _ h9 => Or.inr h9) ⟨Nat.le_refl _, Nat.le_refl _⟩ uX3_in tyX3 tyX3_ok wm_239 wm_240 wm_241 rfl (by decide +kernel) rfl rfl dX6_init_16 rfl,
  List.forall_mem_cons.mpr ⟨fun X => zs_dup X.1 dX6_init_19 rfl,
  List.forall_mem_cons.mpr ⟨fun X => zs_callIM X.1 zNw_ok (fun _ h9 => Or.inr h9) X.2.2.2.2.2.1 X.2.2.2.2.2.2.1 zcal_42 rfl ⟨Nat.le_refl _, Nat.le_refl _⟩ ⟨rfl, rfl⟩ wm_242 rfl rfl wm_243 dX6_init_20 rfl,
  List.forall_mem_cons.mpr ⟨fun X => zs_putfF (T := TX6) (N := 4) (k := 1) X.1 X.2.2.2.2.2.1 uX6_in tyX6 tyX6_ok nmX6 rfl (by decide) wm_244 rfl rfl X.2.2.2.1 rfl (tyX6_ok 1 (by decide)) dX6_init_23 rfl,
  List.forall_mem_cons.mpr ⟨fun X => zs_aload_n X.1 dX6_init_26 rfl rfl,
  List.forall_mem_cons.mpr ⟨fun X => zs_new (T := TX4) (N := 8) X.1 X.2.2.2.2.2.1 (fun _ h9 => Or.inr h9) ⟨Nat.le_refl _, Nat.le_refl _⟩ uX4_in tyX4 tyX4_ok wm_245 wm_246 wm_247 rfl (by decide +kernel) rfl rfl dX6_init_27 rfl,
  List.forall_mem_cons.mpr ⟨fun X => zs_dup X.1 dX6_init_30 rfl,
  List.forall_mem_cons.mpr ⟨fun X => zs_callINM (host := "DraftMerge") X.1 zNw_ok (fun _ h9 => Or.inr h9) X.2.2.2.2.2.1 X.2.2.2.2.2.2.1 zcal_47 rfl ⟨Nat.le_refl _, Nat.le_refl _⟩ ⟨rfl, rfl⟩ (by decide +kernel) rfl rfl wm_248 dX6_init_31 rfl,
  List.forall_mem_cons.mpr ⟨fun X => zs_putfF (T := TX6) (N := 4) (k := 2) X.1 X.2.2.2.2.2.1 uX6_in tyX6 tyX6_ok nmX6 rfl (by decide) wm_249 rfl rfl X.2.2.2.1 rfl (tyX6_ok 2 (by decide)) dX6_init_34 rfl,
  List.forall_mem_cons.mpr ⟨fun X => zs_aload_n X.1 dX6_init_37 rfl rfl,
  List.forall_mem_cons.mpr ⟨fun X => zs_new (T := TX1) (N := 7) X.1 X.2.2.2.2.2.1 (fun _ h9 => Or.inr h9) ⟨Nat.le_refl _, Nat.le_refl _⟩ uX1_in tyX1 tyX1_ok wm_250 wm_251 wm_252 rfl (by decide +kernel) rfl rfl dX6_init_38 rfl,
  List.forall_mem_cons.mpr ⟨fun X => zs_dup X.1 dX6_init_41 rfl,
  List.forall_mem_cons.mpr ⟨fun X => zs_callINM (host := "DraftMerge") X.1 zNw_ok (fun _ h9 => Or.inr h9) X.2.2.2.2.2.1 X.2.2.2.2.2.2.1 zcal_16 rfl ⟨Nat.le_refl _, Nat.le_refl _⟩ ⟨rfl, rfl⟩ (by decide +kernel) rfl rfl wm_253 dX6_init_42 rfl,
  List.forall_mem_cons.mpr ⟨fun X => zs_putfF (T := TX6) (N := 4) (k := 3) X.1 X.2.2.2.2.2.1 uX6_in tyX6 tyX6_ok nmX6 rfl (by decide) wm_254 rfl rfl X.2.2.2.1 rfl (tyX6_ok 3 (by decide)) dX6_init_45 rfl,
  List.forall_mem_cons.mpr ⟨fun X => zs_vret X.1 X.2.1 X.2.2.1 dX6_init_48,
  fun _ h9 => nomatch h9⟩⟩⟩⟩⟩⟩⟩⟩⟩⟩⟩⟩⟩⟩⟩⟩⟩⟩⟩⟩⟩⟩⟩
theorem zG_X6_init_0 : ∀ q ∈ zT_X6_init_0, zmono q.2 := List.forall_mem_cons.mpr ⟨zm_aload 0 1, List.forall_mem_cons.mpr ⟨zm_objinit 4, List.forall_mem_cons.mpr ⟨zm_aload 0 5, List.forall_mem_cons.mpr ⟨zm_new 5 [.null, .null, .null, .null, .int 0, .int 0, .int 0] (95, 1163) 8, List.forall_mem_cons.mpr ⟨zm_dup 9, List.forall_mem_cons.mpr ⟨zm_callvm 5 62 1 10 119 (95, 1163) 12, List.forall_mem_cons.mpr ⟨zm_putf 6 0 (.object "DraftMerge$State") 15, List.forall_mem_cons.mpr ⟨zm_aload 0 16, List.forall_mem_cons.mpr ⟨zm_new 3 [.null, .int 0, .int 0] (95, 1163) 19, List.forall_mem_cons.mpr ⟨zm_dup 20, List.forall_mem_cons.mpr ⟨zm_callvm 3 42 1 67 762 (95, 1163) 23, List.forall_mem_cons.mpr ⟨zm_putf 6 1 (.object "DraftMerge$History") 26, List.forall_mem_cons.mpr ⟨zm_aload 0 27, List.forall_mem_cons.mpr ⟨zm_new 4 [.null, .null, .null, .null, .null, .int 0, .null, .null] (95, 1163) 30, List.forall_mem_cons.mpr ⟨zm_dup 31, List.forall_mem_cons.mpr ⟨zm_callvm 4 47 1 13 197 (95, 1163) 34, List.forall_mem_cons.mpr ⟨zm_putf 6 2 (.object "DraftMerge$Merge") 37, List.forall_mem_cons.mpr ⟨zm_aload 0 38, List.forall_mem_cons.mpr ⟨zm_new 1 [.null, .int 0, .int 0, .int 0, .int 0, .int 0, .int 0] (95, 1163) 41, List.forall_mem_cons.mpr ⟨zm_dup 42, List.forall_mem_cons.mpr ⟨zm_callvm 1 16 1 1 60 (95, 1163) 45, List.forall_mem_cons.mpr ⟨zm_putf 6 3 (.object "DraftMerge$CommandText") 48, List.forall_mem_cons.mpr ⟨zm_vret, fun _ h9 => nomatch h9⟩⟩⟩⟩⟩⟩⟩⟩⟩⟩⟩⟩⟩⟩⟩⟩⟩⟩⟩⟩⟩⟩⟩
theorem zE_X6_init : ∀ L ∈ zT_X6_init, ∀ q ∈ L, zEnt yX6_init cX6_init 1 none [] { frames := 4, cells := 95, slots := 1163, locals := 83 } q := List.forall_mem_cons.mpr ⟨zE_X6_init_0, fun _ h9 => nomatch h9⟩
theorem zG_X6_init : ∀ L ∈ zT_X6_init, ∀ q ∈ L, zmono q.2 := List.forall_mem_cons.mpr ⟨zG_X6_init_0, fun _ h9 => nomatch h9⟩
set_option maxRecDepth 100000 in
theorem zE_X6_addBase_0 : ∀ q ∈ zT_X6_addBase_0, zEnt yX6_addBase cX6_addBase 2 (some .int) [] { frames := 6, cells := 1, slots := 6, locals := 128 } q := List.forall_mem_cons.mpr ⟨fun X => zs_iload_n X.1 dX6_addBase_0 rfl rfl,
  List.forall_mem_cons.mpr ⟨fun X => zs_callS X.1 zNw_ok (fun _ h9 => Or.inr h9) X.2.2.2.2.2.1 X.2.2.2.2.2.2.1 zcal_108 rfl ⟨rfl, rfl⟩ wm_255 wm_256 dX6_addBase_1 rfl,
  List.forall_mem_cons.mpr ⟨fun X => zs_ifne X.1 dX6_addBase_4 (by decide) rfl,
  List.forall_mem_cons.mpr ⟨fun X => zs_throw (x := 0) (text := "content is out of range") X.1 X.2.2.2.2.2.2.1 X.2.2.2.2.2.2.2 X.2.2.1 (by decide) thr_0_41_45 (by decide +kernel) X.2.2.2.2.1 (Nat.le_of_ble_eq_true rfl) (Nat.le_of_ble_eq_true rfl) dX6_addBase_7 dX6_addBase_10 dX6_addBase_11 dX6_addBase_13 dX6_addBase_16,
  List.forall_mem_cons.mpr ⟨fun X => zs_aload_n X.1 dX6_addBase_17 rfl rfl,
  List.forall_mem_cons.mpr ⟨fun X => zs_getf (T := TX6) (N := 4) (k := 0) X.1 X.2.2.2.2.2.1 uX6_in rfl (by decide) wm_238 rfl dX6_addBase_18 rfl,
  List.forall_mem_cons.mpr ⟨fun X => zs_callV (Cn := RX5) X.1 zNw_ok (fun _ h9 => Or.inr h9) X.2.2.2.2.2.1 X.2.2.2.2.2.2.1 zcal_64 rfl ⟨rfl, rfl⟩ wm_257 rfl wm_258 wm_259 dX6_addBase_21 rfl,
  List.forall_mem_cons.mpr ⟨fun X => zs_ifne X.1 dX6_addBase_24 (by decide) rfl,
  List.forall_mem_cons.mpr ⟨fun X => zs_throw (x := 1) (text := "the base is full, or a draft differs from it") X.1 X.2.2.2.2.2.2.1 X.2.2.2.2.2.2.2 X.2.2.1 (by decide) thr_1_52_56 (by decide +kernel) X.2.2.2.2.1 (Nat.le_of_ble_eq_true rfl) (Nat.le_of_ble_eq_true rfl) dX6_addBase_27 dX6_addBase_30 dX6_addBase_31 dX6_addBase_33 dX6_addBase_36,
  List.forall_mem_cons.mpr ⟨fun X => zs_aload_n X.1 dX6_addBase_37 rfl rfl,
  List.forall_mem_cons.mpr ⟨fun X => zs_getf (T := TX6) (N := 4) (k := 1) X.1 X.2.2.2.2.2.1 uX6_in rfl (by decide) wm_244 rfl dX6_addBase_38 rfl,
  List.forall_mem_cons.mpr ⟨fun X => zs_aload_n X.1 dX6_addBase_41 rfl rfl,
  List.forall_mem_cons.mpr ⟨fun X => zs_getf (T := TX6) (N := 4) (k := 0) X.1 X.2.2.2.2.2.1 uX6_in rfl (by decide) wm_238 rfl dX6_addBase_42 rfl,
  List.forall_mem_cons.mpr ⟨fun X => zs_callV (Cn := RX3) X.1 zNw_ok (fun _ h9 => Or.inr h9) X.2.2.2.2.2.1 X.2.2.2.2.2.2.1 zcal_43 rfl ⟨rfl, rfl⟩ wm_260 rfl wm_261 wm_262 dX6_addBase_45 rfl,
  List.forall_mem_cons.mpr ⟨fun X => zs_aload_n X.1 dX6_addBase_48 rfl rfl,
  List.forall_mem_cons.mpr ⟨fun X => zs_getf (T := TX6) (N := 4) (k := 0) X.1 X.2.2.2.2.2.1 uX6_in rfl (by decide) wm_238 rfl dX6_addBase_49 rfl,
  List.forall_mem_cons.mpr ⟨fun X => zs_iload_n X.1 dX6_addBase_52 rfl rfl,
  List.forall_mem_cons.mpr ⟨fun X => zs_callV (Cn := RX5) X.1 zNw_ok (fun _ h9 => Or.inr h9) X.2.2.2.2.2.1 X.2.2.2.2.2.2.1 zcal_65 rfl ⟨rfl, rfl⟩ wm_263 rfl wm_264 wm_265 dX6_addBase_53 rfl,
  List.forall_mem_cons.mpr ⟨fun X => zs_iret X.1 X.2.1 X.2.2.1 dX6_addBase_56,
  fun _ h9 => nomatch h9⟩⟩⟩⟩⟩⟩⟩⟩⟩⟩⟩⟩⟩⟩⟩⟩⟩⟩⟩
theorem zG_X6_addBase_0 : ∀ q ∈ zT_X6_addBase_0, zmono q.2 := List.forall_mem_cons.mpr ⟨zm_iload 1 1, List.forall_mem_cons.mpr ⟨zm_call 108 1 4, List.forall_mem_cons.mpr ⟨zm_ifne 17 7, List.forall_mem_cons.mpr ⟨zm_throw 0 (1, 6), List.forall_mem_cons.mpr ⟨zm_aload 0 18, List.forall_mem_cons.mpr ⟨zm_getf 6 0 21, List.forall_mem_cons.mpr ⟨zm_callv 5 64 1 24, List.forall_mem_cons.mpr ⟨zm_ifne 37 27, List.forall_mem_cons.mpr ⟨zm_throw 1 (1, 6), List.forall_mem_cons.mpr ⟨zm_aload 0 38, List.forall_mem_cons.mpr ⟨zm_getf 6 1 41, List.forall_mem_cons.mpr ⟨zm_aload 0 42, List.forall_mem_cons.mpr ⟨zm_getf 6 0 45, List.forall_mem_cons.mpr ⟨zm_callv 3 43 2 48, List.forall_mem_cons.mpr ⟨zm_aload 0 49, List.forall_mem_cons.mpr ⟨zm_getf 6 0 52, List.forall_mem_cons.mpr ⟨zm_iload 1 53, List.forall_mem_cons.mpr ⟨zm_callv 5 65 2 56, List.forall_mem_cons.mpr ⟨zm_iret, fun _ h9 => nomatch h9⟩⟩⟩⟩⟩⟩⟩⟩⟩⟩⟩⟩⟩⟩⟩⟩⟩⟩⟩
theorem zE_X6_addBase : ∀ L ∈ zT_X6_addBase, ∀ q ∈ L, zEnt yX6_addBase cX6_addBase 2 (some .int) [] { frames := 6, cells := 1, slots := 6, locals := 128 } q := List.forall_mem_cons.mpr ⟨zE_X6_addBase_0, fun _ h9 => nomatch h9⟩
theorem zG_X6_addBase : ∀ L ∈ zT_X6_addBase, ∀ q ∈ L, zmono q.2 := List.forall_mem_cons.mpr ⟨zG_X6_addBase_0, fun _ h9 => nomatch h9⟩
set_option maxRecDepth 100000 in
theorem zE_X6_edit_0 : ∀ q ∈ zT_X6_edit_0, zEnt yX6_edit cX6_edit 5 (some .int) [] { frames := 6, cells := 1, slots := 6, locals := 128 } q := List.forall_mem_cons.mpr ⟨fun X => zs_aload_n X.1 dX6_edit_0 rfl rfl,
  List.forall_mem_cons.mpr ⟨fun X => zs_iload_n X.1 dX6_edit_1 rfl rfl,
  List.forall_mem_cons.mpr ⟨fun X => zs_iload_n X.1 dX6_edit_2 rfl rfl,
  List.forall_mem_cons.mpr ⟨fun X => zs_iload_n X.1 dX6_edit_3 rfl rfl,
  List.forall_mem_cons.mpr ⟨fun X => zs_callV (Cn := RX6) X.1 zNw_ok (fun _ h9 => Or.inr h9) X.2.2.2.2.2.1 X.2.2.2.2.2.2.1 zcal_110 rfl ⟨rfl, rfl⟩ wm_266 rfl wm_267 wm_268 dX6_edit_4 rfl,
  List.forall_mem_cons.mpr ⟨fun X => zs_istore X.1 dX6_edit_7 (Nat.le_of_ble_eq_true rfl) rfl,
  List.forall_mem_cons.mpr ⟨fun X => zs_iload X.1 dX6_edit_9 rfl,
  List.forall_mem_cons.mpr ⟨fun X => zs_iconst X.1 dX6_edit_11 (by decide) rfl,
  List.forall_mem_cons.mpr ⟨fun X => zs_icmpne X.1 dX6_edit_12 (by decide) rfl,
  List.forall_mem_cons.mpr ⟨fun X => zs_throw (x := 2) (text := "no such draft or position") X.1 X.2.2.2.2.2.2.1 X.2.2.2.2.2.2.2 X.2.2.1 (by decide) thr_2_69_73 (by decide +kernel) X.2.2.2.2.1 (Nat.le_of_ble_eq_true rfl) (Nat.le_of_ble_eq_true rfl) dX6_edit_15 dX6_edit_18 dX6_edit_19 dX6_edit_21 dX6_edit_24,
  List.forall_mem_cons.mpr ⟨fun X => zs_iload X.1 dX6_edit_25 rfl,
  List.forall_mem_cons.mpr ⟨fun X => zs_iconst X.1 dX6_edit_27 (by decide) rfl,
  List.forall_mem_cons.mpr ⟨fun X => zs_icmpne X.1 dX6_edit_28 (by decide) rfl,
  List.forall_mem_cons.mpr ⟨fun X => zs_throw (x := 0) (text := "content is out of range") X.1 X.2.2.2.2.2.2.1 X.2.2.2.2.2.2.2 X.2.2.1 (by decide) thr_0_41_45 (by decide +kernel) X.2.2.2.2.1 (Nat.le_of_ble_eq_true rfl) (Nat.le_of_ble_eq_true rfl) dX6_edit_31 dX6_edit_34 dX6_edit_35 dX6_edit_37 dX6_edit_40,
  List.forall_mem_cons.mpr ⟨fun X => zs_aload_n X.1 dX6_edit_41 rfl rfl,
  List.forall_mem_cons.mpr ⟨fun X => zs_getf (T := TX6) (N := 4) (k := 1) X.1 X.2.2.2.2.2.1 uX6_in rfl (by decide) wm_244 rfl dX6_edit_42 rfl,
  List.forall_mem_cons.mpr ⟨fun X => zs_aload_n X.1 dX6_edit_45 rfl rfl,
  List.forall_mem_cons.mpr ⟨fun X => zs_getf (T := TX6) (N := 4) (k := 0) X.1 X.2.2.2.2.2.1 uX6_in rfl (by decide) wm_238 rfl dX6_edit_46 rfl,
  List.forall_mem_cons.mpr ⟨fun X => zs_callV (Cn := RX3) X.1 zNw_ok (fun _ h9 => Or.inr h9) X.2.2.2.2.2.1 X.2.2.2.2.2.2.1 zcal_43 rfl ⟨rfl, rfl⟩ wm_260 rfl wm_261 wm_262 dX6_edit_49 rfl,
  List.forall_mem_cons.mpr ⟨fun X => zs_aload_n X.1 dX6_edit_52 rfl rfl,
  List.forall_mem_cons.mpr ⟨fun X => zs_getf (T := TX6) (N := 4) (k := 0) X.1 X.2.2.2.2.2.1 uX6_in rfl (by decide) wm_238 rfl dX6_edit_53 rfl,
  List.forall_mem_cons.mpr ⟨fun X => zs_iload_n X.1 dX6_edit_56 rfl rfl,
  List.forall_mem_cons.mpr ⟨fun X => zs_callV (Cn := RX5) X.1 zNw_ok (fun _ h9 => Or.inr h9) X.2.2.2.2.2.1 X.2.2.2.2.2.2.1 zcal_63 rfl ⟨rfl, rfl⟩ wm_269 rfl wm_189 wm_190 dX6_edit_57 rfl,
  List.forall_mem_cons.mpr ⟨fun X => zs_iload_n X.1 dX6_edit_60 rfl rfl,
  List.forall_mem_cons.mpr ⟨fun X => zs_iload_n X.1 dX6_edit_61 rfl rfl,
  List.forall_mem_cons.mpr ⟨fun X => zs_callV (Cn := RX0) X.1 zNw_ok (fun _ h9 => Or.inr h9) X.2.2.2.2.2.1 X.2.2.2.2.2.2.1 zcal_7 rfl ⟨rfl, rfl⟩ wm_270 rfl wm_271 wm_272 dX6_edit_62 rfl,
  fun _ h9 => nomatch h9⟩⟩⟩⟩⟩⟩⟩⟩⟩⟩⟩⟩⟩⟩⟩⟩⟩⟩⟩⟩⟩⟩⟩⟩⟩⟩
theorem zG_X6_edit_0 : ∀ q ∈ zT_X6_edit_0, zmono q.2 := List.forall_mem_cons.mpr ⟨zm_aload 0 1, List.forall_mem_cons.mpr ⟨zm_iload 1 2, List.forall_mem_cons.mpr ⟨zm_iload 2 3, List.forall_mem_cons.mpr ⟨zm_iload 3 4, List.forall_mem_cons.mpr ⟨zm_callv 6 110 4 7, List.forall_mem_cons.mpr ⟨zm_istore 4 9, List.forall_mem_cons.mpr ⟨zm_iload 4 11, List.forall_mem_cons.mpr ⟨zm_iconst 1 12, List.forall_mem_cons.mpr ⟨zm_icmpne 25 15, List.forall_mem_cons.mpr ⟨zm_throw 2 (1, 6), List.forall_mem_cons.mpr ⟨zm_iload 4 27, List.forall_mem_cons.mpr ⟨zm_iconst 2 28, List.forall_mem_cons.mpr ⟨zm_icmpne 41 31, List.forall_mem_cons.mpr ⟨zm_throw 0 (1, 6), List.forall_mem_cons.mpr ⟨zm_aload 0 42, List.forall_mem_cons.mpr ⟨zm_getf 6 1 45, List.forall_mem_cons.mpr ⟨zm_aload 0 46, List.forall_mem_cons.mpr ⟨zm_getf 6 0 49, List.forall_mem_cons.mpr ⟨zm_callv 3 43 2 52, List.forall_mem_cons.mpr ⟨zm_aload 0 53, List.forall_mem_cons.mpr ⟨zm_getf 6 0 56, List.forall_mem_cons.mpr ⟨zm_iload 1 57, List.forall_mem_cons.mpr ⟨zm_callv 5 63 2 60, List.forall_mem_cons.mpr ⟨zm_iload 2 61, List.forall_mem_cons.mpr ⟨zm_iload 3 62, List.forall_mem_cons.mpr ⟨zm_callv 0 7 3 65, fun _ h9 => nomatch h9⟩⟩⟩⟩⟩⟩⟩⟩⟩⟩⟩⟩⟩⟩⟩⟩⟩⟩⟩⟩⟩⟩⟩⟩⟩⟩
set_option maxRecDepth 100000 in
theorem zE_X6_edit_1 : ∀ q ∈ zT_X6_edit_1, zEnt yX6_edit cX6_edit 5 (some .int) [] { frames := 6, cells := 1, slots := 6, locals := 128 } q := List.forall_mem_cons.mpr ⟨fun X => zs_iret X.1 X.2.1 X.2.2.1 dX6_edit_65,
  fun _ h9 => nomatch h9⟩
theorem zG_X6_edit_1 : ∀ q ∈ zT_X6_edit_1, zmono q.2 := List.forall_mem_cons.mpr ⟨zm_iret, fun _ h9 => nomatch h9⟩
theorem zE_X6_edit : ∀ L ∈ zT_X6_edit, ∀ q ∈ L, zEnt yX6_edit cX6_edit 5 (some .int) [] { frames := 6, cells := 1, slots := 6, locals := 128 } q := List.forall_mem_cons.mpr ⟨zE_X6_edit_0, List.forall_mem_cons.mpr ⟨zE_X6_edit_1, fun _ h9 => nomatch h9⟩⟩
theorem zG_X6_edit : ∀ L ∈ zT_X6_edit, ∀ q ∈ L, zmono q.2 := List.forall_mem_cons.mpr ⟨zG_X6_edit_0, List.forall_mem_cons.mpr ⟨zG_X6_edit_1, fun _ h9 => nomatch h9⟩⟩
set_option maxRecDepth 100000 in
theorem zE_X6_move_0 : ∀ q ∈ zT_X6_move_0, zEnt yX6_move cX6_move 4 (some .int) [] { frames := 6, cells := 1, slots := 6, locals := 128 } q := List.forall_mem_cons.mpr ⟨fun X => zs_aload_n X.1 dX6_move_0 rfl rfl,
  List.forall_mem_cons.mpr ⟨fun X => zs_iload_n X.1 dX6_move_1 rfl rfl,
  List.forall_mem_cons.mpr ⟨fun X => zs_iload_n X.1 dX6_move_2 rfl rfl,
  List.forall_mem_cons.mpr ⟨fun X => zs_iload_n X.1 dX6_move_3 rfl rfl,
  List.forall_mem_cons.mpr ⟨fun X => zs_callV (Cn := RX6) X.1 zNw_ok (fun _ h9 => Or.inr h9) X.2.2.2.2.2.1 X.2.2.2.2.2.2.1 zcal_111 rfl ⟨rfl, rfl⟩ wm_273 rfl wm_274 wm_275 dX6_move_4 rfl,
  List.forall_mem_cons.mpr ⟨fun X => zs_ifeq X.1 dX6_move_7 (by decide) rfl,
  List.forall_mem_cons.mpr ⟨fun X => zs_throw (x := 2) (text := "no such draft or position") X.1 X.2.2.2.2.2.2.1 X.2.2.2.2.2.2.2 X.2.2.1 (by decide) thr_2_69_73 (by decide +kernel) X.2.2.2.2.1 (Nat.le_of_ble_eq_true rfl) (Nat.le_of_ble_eq_true rfl) dX6_move_10 dX6_move_13 dX6_move_14 dX6_move_16 dX6_move_19,
  List.forall_mem_cons.mpr ⟨fun X => zs_aload_n X.1 dX6_move_20 rfl rfl,
  List.forall_mem_cons.mpr ⟨fun X => zs_getf (T := TX6) (N := 4) (k := 1) X.1 X.2.2.2.2.2.1 uX6_in rfl (by decide) wm_244 rfl dX6_move_21 rfl,
  List.forall_mem_cons.mpr ⟨fun X => zs_aload_n X.1 dX6_move_24 rfl rfl,
  List.forall_mem_cons.mpr ⟨fun X => zs_getf (T := TX6) (N := 4) (k := 0) X.1 X.2.2.2.2.2.1 uX6_in rfl (by decide) wm_238 rfl dX6_move_25 rfl,
  List.forall_mem_cons.mpr ⟨fun X => zs_callV (Cn := RX3) X.1 zNw_ok (fun _ h9 => Or.inr h9) X.2.2.2.2.2.1 X.2.2.2.2.2.2.1 zcal_43 rfl ⟨rfl, rfl⟩ wm_260 rfl wm_261 wm_262 dX6_move_28 rfl,
  List.forall_mem_cons.mpr ⟨fun X => zs_aload_n X.1 dX6_move_31 rfl rfl,
  List.forall_mem_cons.mpr ⟨fun X => zs_getf (T := TX6) (N := 4) (k := 0) X.1 X.2.2.2.2.2.1 uX6_in rfl (by decide) wm_238 rfl dX6_move_32 rfl,
  List.forall_mem_cons.mpr ⟨fun X => zs_iload_n X.1 dX6_move_35 rfl rfl,
  List.forall_mem_cons.mpr ⟨fun X => zs_callV (Cn := RX5) X.1 zNw_ok (fun _ h9 => Or.inr h9) X.2.2.2.2.2.1 X.2.2.2.2.2.2.1 zcal_63 rfl ⟨rfl, rfl⟩ wm_269 rfl wm_189 wm_190 dX6_move_36 rfl,
  List.forall_mem_cons.mpr ⟨fun X => zs_iload_n X.1 dX6_move_39 rfl rfl,
  List.forall_mem_cons.mpr ⟨fun X => zs_iload_n X.1 dX6_move_40 rfl rfl,
  List.forall_mem_cons.mpr ⟨fun X => zs_callV (Cn := RX0) X.1 zNw_ok (fun _ h9 => Or.inr h9) X.2.2.2.2.2.1 X.2.2.2.2.2.2.1 zcal_11 rfl ⟨rfl, rfl⟩ wm_276 rfl wm_277 wm_278 dX6_move_41 rfl,
  List.forall_mem_cons.mpr ⟨fun X => zs_iret X.1 X.2.1 X.2.2.1 dX6_move_44,
  fun _ h9 => nomatch h9⟩⟩⟩⟩⟩⟩⟩⟩⟩⟩⟩⟩⟩⟩⟩⟩⟩⟩⟩⟩
theorem zG_X6_move_0 : ∀ q ∈ zT_X6_move_0, zmono q.2 := List.forall_mem_cons.mpr ⟨zm_aload 0 1, List.forall_mem_cons.mpr ⟨zm_iload 1 2, List.forall_mem_cons.mpr ⟨zm_iload 2 3, List.forall_mem_cons.mpr ⟨zm_iload 3 4, List.forall_mem_cons.mpr ⟨zm_callv 6 111 4 7, List.forall_mem_cons.mpr ⟨zm_ifeq 20 10, List.forall_mem_cons.mpr ⟨zm_throw 2 (1, 6), List.forall_mem_cons.mpr ⟨zm_aload 0 21, List.forall_mem_cons.mpr ⟨zm_getf 6 1 24, List.forall_mem_cons.mpr ⟨zm_aload 0 25, List.forall_mem_cons.mpr ⟨zm_getf 6 0 28, List.forall_mem_cons.mpr ⟨zm_callv 3 43 2 31, List.forall_mem_cons.mpr ⟨zm_aload 0 32, List.forall_mem_cons.mpr ⟨zm_getf 6 0 35, List.forall_mem_cons.mpr ⟨zm_iload 1 36, List.forall_mem_cons.mpr ⟨zm_callv 5 63 2 39, List.forall_mem_cons.mpr ⟨zm_iload 2 40, List.forall_mem_cons.mpr ⟨zm_iload 3 41, List.forall_mem_cons.mpr ⟨zm_callv 0 11 3 44, List.forall_mem_cons.mpr ⟨zm_iret, fun _ h9 => nomatch h9⟩⟩⟩⟩⟩⟩⟩⟩⟩⟩⟩⟩⟩⟩⟩⟩⟩⟩⟩⟩
theorem zE_X6_move : ∀ L ∈ zT_X6_move, ∀ q ∈ L, zEnt yX6_move cX6_move 4 (some .int) [] { frames := 6, cells := 1, slots := 6, locals := 128 } q := List.forall_mem_cons.mpr ⟨zE_X6_move_0, fun _ h9 => nomatch h9⟩
theorem zG_X6_move : ∀ L ∈ zT_X6_move, ∀ q ∈ L, zmono q.2 := List.forall_mem_cons.mpr ⟨zG_X6_move_0, fun _ h9 => nomatch h9⟩
set_option maxRecDepth 100000 in
theorem zE_X6_insert_0 : ∀ q ∈ zT_X6_insert_0, zEnt yX6_insert cX6_insert 5 (some .int) [] { frames := 6, cells := 1, slots := 6, locals := 128 } q := List.forall_mem_cons.mpr ⟨fun X => zs_aload_n X.1 dX6_insert_0 rfl rfl,
  List.forall_mem_cons.mpr ⟨fun X => zs_iload_n X.1 dX6_insert_1 rfl rfl,
  List.forall_mem_cons.mpr ⟨fun X => zs_iload_n X.1 dX6_insert_2 rfl rfl,
  List.forall_mem_cons.mpr ⟨fun X => zs_iload_n X.1 dX6_insert_3 rfl rfl,
  List.forall_mem_cons.mpr ⟨fun X => zs_callV (Cn := RX6) X.1 zNw_ok (fun _ h9 => Or.inr h9) X.2.2.2.2.2.1 X.2.2.2.2.2.2.1 zcal_112 rfl ⟨rfl, rfl⟩ wm_279 rfl wm_280 wm_281 dX6_insert_4 rfl,
  List.forall_mem_cons.mpr ⟨fun X => zs_istore X.1 dX6_insert_7 (Nat.le_of_ble_eq_true rfl) rfl,
  List.forall_mem_cons.mpr ⟨fun X => zs_iload X.1 dX6_insert_9 rfl,
  List.forall_mem_cons.mpr ⟨fun X => zs_iconst X.1 dX6_insert_11 (by decide) rfl,
  List.forall_mem_cons.mpr ⟨fun X => zs_icmpne X.1 dX6_insert_12 (by decide) rfl,
  List.forall_mem_cons.mpr ⟨fun X => zs_throw (x := 2) (text := "no such draft or position") X.1 X.2.2.2.2.2.2.1 X.2.2.2.2.2.2.2 X.2.2.1 (by decide) thr_2_69_73 (by decide +kernel) X.2.2.2.2.1 (Nat.le_of_ble_eq_true rfl) (Nat.le_of_ble_eq_true rfl) dX6_insert_15 dX6_insert_18 dX6_insert_19 dX6_insert_21 dX6_insert_24,
  List.forall_mem_cons.mpr ⟨fun X => zs_iload X.1 dX6_insert_25 rfl,
  List.forall_mem_cons.mpr ⟨fun X => zs_iconst X.1 dX6_insert_27 (by decide) rfl,
  List.forall_mem_cons.mpr ⟨fun X => zs_icmpne X.1 dX6_insert_28 (by decide) rfl,
  List.forall_mem_cons.mpr ⟨fun X => zs_throw (x := 0) (text := "content is out of range") X.1 X.2.2.2.2.2.2.1 X.2.2.2.2.2.2.2 X.2.2.1 (by decide) thr_0_41_45 (by decide +kernel) X.2.2.2.2.1 (Nat.le_of_ble_eq_true rfl) (Nat.le_of_ble_eq_true rfl) dX6_insert_31 dX6_insert_34 dX6_insert_35 dX6_insert_37 dX6_insert_40,
  List.forall_mem_cons.mpr ⟨fun X => zs_iload X.1 dX6_insert_41 rfl,
  List.forall_mem_cons.mpr ⟨fun X => zs_iconst X.1 dX6_insert_43 (by decide) rfl,
  List.forall_mem_cons.mpr ⟨fun X => zs_icmpne X.1 dX6_insert_44 (by decide) rfl,
  List.forall_mem_cons.mpr ⟨fun X => zs_throw (x := 1) (text := "the draft is full, or no number is left") X.1 X.2.2.2.2.2.2.1 X.2.2.2.2.2.2.2 X.2.2.1 (by decide) thr_1_52_56 (by decide +kernel) X.2.2.2.2.1 (Nat.le_of_ble_eq_true rfl) (Nat.le_of_ble_eq_true rfl) dX6_insert_47 dX6_insert_50 dX6_insert_51 dX6_insert_53 dX6_insert_56,
  List.forall_mem_cons.mpr ⟨fun X => zs_aload_n X.1 dX6_insert_57 rfl rfl,
  List.forall_mem_cons.mpr ⟨fun X => zs_getf (T := TX6) (N := 4) (k := 1) X.1 X.2.2.2.2.2.1 uX6_in rfl (by decide) wm_244 rfl dX6_insert_58 rfl,
  List.forall_mem_cons.mpr ⟨fun X => zs_aload_n X.1 dX6_insert_61 rfl rfl,
  List.forall_mem_cons.mpr ⟨fun X => zs_getf (T := TX6) (N := 4) (k := 0) X.1 X.2.2.2.2.2.1 uX6_in rfl (by decide) wm_238 rfl dX6_insert_62 rfl,
  fun _ h9 => nomatch h9⟩⟩⟩⟩⟩⟩⟩⟩⟩⟩⟩⟩⟩⟩⟩⟩⟩⟩⟩⟩⟩⟩
theorem zG_X6_insert_0 : ∀ q ∈ zT_X6_insert_0, zmono q.2 := List.forall_mem_cons.mpr ⟨zm_aload 0 1, List.forall_mem_cons.mpr ⟨zm_iload 1 2, List.forall_mem_cons.mpr ⟨zm_iload 2 3, List.forall_mem_cons.mpr ⟨zm_iload 3 4, List.forall_mem_cons.mpr ⟨zm_callv 6 112 4 7, List.forall_mem_cons.mpr ⟨zm_istore 4 9, List.forall_mem_cons.mpr ⟨zm_iload 4 11, List.forall_mem_cons.mpr ⟨zm_iconst 1 12, List.forall_mem_cons.mpr ⟨zm_icmpne 25 15, List.forall_mem_cons.mpr ⟨zm_throw 2 (1, 6), List.forall_mem_cons.mpr ⟨zm_iload 4 27, List.forall_mem_cons.mpr ⟨zm_iconst 2 28, List.forall_mem_cons.mpr ⟨zm_icmpne 41 31, List.forall_mem_cons.mpr ⟨zm_throw 0 (1, 6), List.forall_mem_cons.mpr ⟨zm_iload 4 43, List.forall_mem_cons.mpr ⟨zm_iconst 3 44, List.forall_mem_cons.mpr ⟨zm_icmpne 57 47, List.forall_mem_cons.mpr ⟨zm_throw 1 (1, 6), List.forall_mem_cons.mpr ⟨zm_aload 0 58, List.forall_mem_cons.mpr ⟨zm_getf 6 1 61, List.forall_mem_cons.mpr ⟨zm_aload 0 62, List.forall_mem_cons.mpr ⟨zm_getf 6 0 65, fun _ h9 => nomatch h9⟩⟩⟩⟩⟩⟩⟩⟩⟩⟩⟩⟩⟩⟩⟩⟩⟩⟩⟩⟩⟩⟩
set_option maxRecDepth 100000 in
theorem zE_X6_insert_1 : ∀ q ∈ zT_X6_insert_1, zEnt yX6_insert cX6_insert 5 (some .int) [] { frames := 6, cells := 1, slots := 6, locals := 128 } q := List.forall_mem_cons.mpr ⟨fun X => zs_callV (Cn := RX3) X.1 zNw_ok (fun _ h9 => Or.inr h9) X.2.2.2.2.2.1 X.2.2.2.2.2.2.1 zcal_43 rfl ⟨rfl, rfl⟩ wm_260 rfl wm_261 wm_262 dX6_insert_65 rfl,
  List.forall_mem_cons.mpr ⟨fun X => zs_aload_n X.1 dX6_insert_68 rfl rfl,
  List.forall_mem_cons.mpr ⟨fun X => zs_getf (T := TX6) (N := 4) (k := 0) X.1 X.2.2.2.2.2.1 uX6_in rfl (by decide) wm_238 rfl dX6_insert_69 rfl,
  List.forall_mem_cons.mpr ⟨fun X => zs_iload_n X.1 dX6_insert_72 rfl rfl,
  List.forall_mem_cons.mpr ⟨fun X => zs_iload_n X.1 dX6_insert_73 rfl rfl,
  List.forall_mem_cons.mpr ⟨fun X => zs_iload_n X.1 dX6_insert_74 rfl rfl,
  List.forall_mem_cons.mpr ⟨fun X => zs_callV (Cn := RX5) X.1 zNw_ok (fun _ h9 => Or.inr h9) X.2.2.2.2.2.1 X.2.2.2.2.2.2.1 zcal_66 rfl ⟨rfl, rfl⟩ wm_282 rfl wm_283 wm_284 dX6_insert_75 rfl,
  List.forall_mem_cons.mpr ⟨fun X => zs_iret X.1 X.2.1 X.2.2.1 dX6_insert_78,
  fun _ h9 => nomatch h9⟩⟩⟩⟩⟩⟩⟩⟩
theorem zG_X6_insert_1 : ∀ q ∈ zT_X6_insert_1, zmono q.2 := List.forall_mem_cons.mpr ⟨zm_callv 3 43 2 68, List.forall_mem_cons.mpr ⟨zm_aload 0 69, List.forall_mem_cons.mpr ⟨zm_getf 6 0 72, List.forall_mem_cons.mpr ⟨zm_iload 1 73, List.forall_mem_cons.mpr ⟨zm_iload 2 74, List.forall_mem_cons.mpr ⟨zm_iload 3 75, List.forall_mem_cons.mpr ⟨zm_callv 5 66 4 78, List.forall_mem_cons.mpr ⟨zm_iret, fun _ h9 => nomatch h9⟩⟩⟩⟩⟩⟩⟩⟩
theorem zE_X6_insert : ∀ L ∈ zT_X6_insert, ∀ q ∈ L, zEnt yX6_insert cX6_insert 5 (some .int) [] { frames := 6, cells := 1, slots := 6, locals := 128 } q := List.forall_mem_cons.mpr ⟨zE_X6_insert_0, List.forall_mem_cons.mpr ⟨zE_X6_insert_1, fun _ h9 => nomatch h9⟩⟩
theorem zG_X6_insert : ∀ L ∈ zT_X6_insert, ∀ q ∈ L, zmono q.2 := List.forall_mem_cons.mpr ⟨zG_X6_insert_0, List.forall_mem_cons.mpr ⟨zG_X6_insert_1, fun _ h9 => nomatch h9⟩⟩
set_option maxRecDepth 100000 in
theorem zE_X6_remove_0 : ∀ q ∈ zT_X6_remove_0, zEnt yX6_remove cX6_remove 3 (some .int) [] { frames := 6, cells := 1, slots := 6, locals := 128 } q := List.forall_mem_cons.mpr ⟨fun X => zs_aload_n X.1 dX6_remove_0 rfl rfl,
  List.forall_mem_cons.mpr ⟨fun X => zs_iload_n X.1 dX6_remove_1 rfl rfl,
  List.forall_mem_cons.mpr ⟨fun X => zs_iload_n X.1 dX6_remove_2 rfl rfl,
  List.forall_mem_cons.mpr ⟨fun X => zs_callV (Cn := RX6) X.1 zNw_ok (fun _ h9 => Or.inr h9) X.2.2.2.2.2.1 X.2.2.2.2.2.2.1 zcal_113 rfl ⟨rfl, rfl⟩ wm_285 rfl wm_286 wm_287 dX6_remove_3 rfl,
  List.forall_mem_cons.mpr ⟨fun X => zs_ifeq X.1 dX6_remove_6 (by decide) rfl,
  List.forall_mem_cons.mpr ⟨fun X => zs_throw (x := 2) (text := "no such draft or position") X.1 X.2.2.2.2.2.2.1 X.2.2.2.2.2.2.2 X.2.2.1 (by decide) thr_2_69_73 (by decide +kernel) X.2.2.2.2.1 (Nat.le_of_ble_eq_true rfl) (Nat.le_of_ble_eq_true rfl) dX6_remove_9 dX6_remove_12 dX6_remove_13 dX6_remove_15 dX6_remove_18,
  List.forall_mem_cons.mpr ⟨fun X => zs_aload_n X.1 dX6_remove_19 rfl rfl,
  List.forall_mem_cons.mpr ⟨fun X => zs_getf (T := TX6) (N := 4) (k := 1) X.1 X.2.2.2.2.2.1 uX6_in rfl (by decide) wm_244 rfl dX6_remove_20 rfl,
  List.forall_mem_cons.mpr ⟨fun X => zs_aload_n X.1 dX6_remove_23 rfl rfl,
  List.forall_mem_cons.mpr ⟨fun X => zs_getf (T := TX6) (N := 4) (k := 0) X.1 X.2.2.2.2.2.1 uX6_in rfl (by decide) wm_238 rfl dX6_remove_24 rfl,
  List.forall_mem_cons.mpr ⟨fun X => zs_callV (Cn := RX3) X.1 zNw_ok (fun _ h9 => Or.inr h9) X.2.2.2.2.2.1 X.2.2.2.2.2.2.1 zcal_43 rfl ⟨rfl, rfl⟩ wm_260 rfl wm_261 wm_262 dX6_remove_27 rfl,
  List.forall_mem_cons.mpr ⟨fun X => zs_aload_n X.1 dX6_remove_30 rfl rfl,
  List.forall_mem_cons.mpr ⟨fun X => zs_getf (T := TX6) (N := 4) (k := 0) X.1 X.2.2.2.2.2.1 uX6_in rfl (by decide) wm_238 rfl dX6_remove_31 rfl,
  List.forall_mem_cons.mpr ⟨fun X => zs_iload_n X.1 dX6_remove_34 rfl rfl,
  List.forall_mem_cons.mpr ⟨fun X => zs_callV (Cn := RX5) X.1 zNw_ok (fun _ h9 => Or.inr h9) X.2.2.2.2.2.1 X.2.2.2.2.2.2.1 zcal_63 rfl ⟨rfl, rfl⟩ wm_269 rfl wm_189 wm_190 dX6_remove_35 rfl,
  List.forall_mem_cons.mpr ⟨fun X => zs_iload_n X.1 dX6_remove_38 rfl rfl,
  List.forall_mem_cons.mpr ⟨fun X => zs_callV (Cn := RX0) X.1 zNw_ok (fun _ h9 => Or.inr h9) X.2.2.2.2.2.1 X.2.2.2.2.2.2.1 zcal_10 rfl ⟨rfl, rfl⟩ wm_288 rfl wm_27 wm_28 dX6_remove_39 rfl,
  List.forall_mem_cons.mpr ⟨fun X => zs_iret X.1 X.2.1 X.2.2.1 dX6_remove_42,
  fun _ h9 => nomatch h9⟩⟩⟩⟩⟩⟩⟩⟩⟩⟩⟩⟩⟩⟩⟩⟩⟩⟩
theorem zG_X6_remove_0 : ∀ q ∈ zT_X6_remove_0, zmono q.2 := List.forall_mem_cons.mpr ⟨zm_aload 0 1, List.forall_mem_cons.mpr ⟨zm_iload 1 2, List.forall_mem_cons.mpr ⟨zm_iload 2 3, List.forall_mem_cons.mpr ⟨zm_callv 6 113 3 6, List.forall_mem_cons.mpr ⟨zm_ifeq 19 9, List.forall_mem_cons.mpr ⟨zm_throw 2 (1, 6), List.forall_mem_cons.mpr ⟨zm_aload 0 20, List.forall_mem_cons.mpr ⟨zm_getf 6 1 23, List.forall_mem_cons.mpr ⟨zm_aload 0 24, List.forall_mem_cons.mpr ⟨zm_getf 6 0 27, List.forall_mem_cons.mpr ⟨zm_callv 3 43 2 30, List.forall_mem_cons.mpr ⟨zm_aload 0 31, List.forall_mem_cons.mpr ⟨zm_getf 6 0 34, List.forall_mem_cons.mpr ⟨zm_iload 1 35, List.forall_mem_cons.mpr ⟨zm_callv 5 63 2 38, List.forall_mem_cons.mpr ⟨zm_iload 2 39, List.forall_mem_cons.mpr ⟨zm_callv 0 10 2 42, List.forall_mem_cons.mpr ⟨zm_iret, fun _ h9 => nomatch h9⟩⟩⟩⟩⟩⟩⟩⟩⟩⟩⟩⟩⟩⟩⟩⟩⟩⟩
theorem zE_X6_remove : ∀ L ∈ zT_X6_remove, ∀ q ∈ L, zEnt yX6_remove cX6_remove 3 (some .int) [] { frames := 6, cells := 1, slots := 6, locals := 128 } q := List.forall_mem_cons.mpr ⟨zE_X6_remove_0, fun _ h9 => nomatch h9⟩
theorem zG_X6_remove : ∀ L ∈ zT_X6_remove, ∀ q ∈ L, zmono q.2 := List.forall_mem_cons.mpr ⟨zG_X6_remove_0, fun _ h9 => nomatch h9⟩
set_option maxRecDepth 100000 in
theorem zE_X6_baseSize_0 : ∀ q ∈ zT_X6_baseSize_0, zEnt yX6_baseSize cX6_baseSize 1 (some .int) [] { frames := 0, cells := 0, slots := 0, locals := 0 } q := List.forall_mem_cons.mpr ⟨fun X => zs_aload_n X.1 dX6_baseSize_0 rfl rfl,
  List.forall_mem_cons.mpr ⟨fun X => zs_getf (T := TX6) (N := 4) (k := 0) X.1 X.2.2.2.2.2.1 uX6_in rfl (by decide) wm_238 rfl dX6_baseSize_1 rfl,
  List.forall_mem_cons.mpr ⟨fun X => zs_getf (T := TX5) (N := 7) (k := 0) X.1 X.2.2.2.2.2.1 uX5_in rfl (by decide) wm_289 rfl dX6_baseSize_4 rfl,
  List.forall_mem_cons.mpr ⟨fun X => zs_getf (T := TX0) (N := 3) (k := 2) X.1 X.2.2.2.2.2.1 uX0_in rfl (by decide) wm_290 rfl dX6_baseSize_7 rfl,
  List.forall_mem_cons.mpr ⟨fun X => zs_iret X.1 X.2.1 X.2.2.1 dX6_baseSize_10,
  fun _ h9 => nomatch h9⟩⟩⟩⟩⟩
theorem zG_X6_baseSize_0 : ∀ q ∈ zT_X6_baseSize_0, zmono q.2 := List.forall_mem_cons.mpr ⟨zm_aload 0 1, List.forall_mem_cons.mpr ⟨zm_getf 6 0 4, List.forall_mem_cons.mpr ⟨zm_getf 5 0 7, List.forall_mem_cons.mpr ⟨zm_getf 0 2 10, List.forall_mem_cons.mpr ⟨zm_iret, fun _ h9 => nomatch h9⟩⟩⟩⟩⟩
theorem zE_X6_baseSize : ∀ L ∈ zT_X6_baseSize, ∀ q ∈ L, zEnt yX6_baseSize cX6_baseSize 1 (some .int) [] { frames := 0, cells := 0, slots := 0, locals := 0 } q := List.forall_mem_cons.mpr ⟨zE_X6_baseSize_0, fun _ h9 => nomatch h9⟩
theorem zG_X6_baseSize : ∀ L ∈ zT_X6_baseSize, ∀ q ∈ L, zmono q.2 := List.forall_mem_cons.mpr ⟨zG_X6_baseSize_0, fun _ h9 => nomatch h9⟩
set_option maxRecDepth 100000 in
theorem zE_X6_size_0 : ∀ q ∈ zT_X6_size_0, zEnt yX6_size cX6_size 2 (some .int) [] { frames := 6, cells := 1, slots := 6, locals := 82 } q := List.forall_mem_cons.mpr ⟨fun X => zs_iload_n X.1 dX6_size_0 rfl rfl,
  List.forall_mem_cons.mpr ⟨fun X => zs_callS X.1 zNw_ok (fun _ h9 => Or.inr h9) X.2.2.2.2.2.1 X.2.2.2.2.2.2.1 zcal_107 rfl ⟨rfl, rfl⟩ wm_291 wm_292 dX6_size_1 rfl,
  List.forall_mem_cons.mpr ⟨fun X => zs_ifne X.1 dX6_size_4 (by decide) rfl,
  List.forall_mem_cons.mpr ⟨fun X => zs_throw (x := 2) (text := "no such draft") X.1 X.2.2.2.2.2.2.1 X.2.2.2.2.2.2.2 X.2.2.1 (by decide) thr_2_69_73 (by decide +kernel) X.2.2.2.2.1 (Nat.le_of_ble_eq_true rfl) (Nat.le_of_ble_eq_true rfl) dX6_size_7 dX6_size_10 dX6_size_11 dX6_size_13 dX6_size_16,
  List.forall_mem_cons.mpr ⟨fun X => zs_aload_n X.1 dX6_size_17 rfl rfl,
  List.forall_mem_cons.mpr ⟨fun X => zs_getf (T := TX6) (N := 4) (k := 0) X.1 X.2.2.2.2.2.1 uX6_in rfl (by decide) wm_238 rfl dX6_size_18 rfl,
  List.forall_mem_cons.mpr ⟨fun X => zs_iload_n X.1 dX6_size_21 rfl rfl,
  List.forall_mem_cons.mpr ⟨fun X => zs_callV (Cn := RX5) X.1 zNw_ok (fun _ h9 => Or.inr h9) X.2.2.2.2.2.1 X.2.2.2.2.2.2.1 zcal_63 rfl ⟨rfl, rfl⟩ wm_269 rfl wm_189 wm_190 dX6_size_22 rfl,
  List.forall_mem_cons.mpr ⟨fun X => zs_getf (T := TX0) (N := 3) (k := 2) X.1 X.2.2.2.2.2.1 uX0_in rfl (by decide) wm_290 rfl dX6_size_25 rfl,
  List.forall_mem_cons.mpr ⟨fun X => zs_iret X.1 X.2.1 X.2.2.1 dX6_size_28,
  fun _ h9 => nomatch h9⟩⟩⟩⟩⟩⟩⟩⟩⟩⟩
theorem zG_X6_size_0 : ∀ q ∈ zT_X6_size_0, zmono q.2 := List.forall_mem_cons.mpr ⟨zm_iload 1 1, List.forall_mem_cons.mpr ⟨zm_call 107 1 4, List.forall_mem_cons.mpr ⟨zm_ifne 17 7, List.forall_mem_cons.mpr ⟨zm_throw 2 (1, 6), List.forall_mem_cons.mpr ⟨zm_aload 0 18, List.forall_mem_cons.mpr ⟨zm_getf 6 0 21, List.forall_mem_cons.mpr ⟨zm_iload 1 22, List.forall_mem_cons.mpr ⟨zm_callv 5 63 2 25, List.forall_mem_cons.mpr ⟨zm_getf 0 2 28, List.forall_mem_cons.mpr ⟨zm_iret, fun _ h9 => nomatch h9⟩⟩⟩⟩⟩⟩⟩⟩⟩⟩
theorem zE_X6_size : ∀ L ∈ zT_X6_size, ∀ q ∈ L, zEnt yX6_size cX6_size 2 (some .int) [] { frames := 6, cells := 1, slots := 6, locals := 82 } q := List.forall_mem_cons.mpr ⟨zE_X6_size_0, fun _ h9 => nomatch h9⟩
theorem zG_X6_size : ∀ L ∈ zT_X6_size, ∀ q ∈ L, zmono q.2 := List.forall_mem_cons.mpr ⟨zG_X6_size_0, fun _ h9 => nomatch h9⟩
set_option maxRecDepth 100000 in
theorem zE_X6_block_0 : ∀ q ∈ zT_X6_block_0, zEnt yX6_block cX6_block 3 (some .int) [] { frames := 6, cells := 1, slots := 6, locals := 82 } q := List.forall_mem_cons.mpr ⟨fun X => zs_aload_n X.1 dX6_block_0 rfl rfl,
  List.forall_mem_cons.mpr ⟨fun X => zs_iload_n X.1 dX6_block_1 rfl rfl,
  List.forall_mem_cons.mpr ⟨fun X => zs_iload_n X.1 dX6_block_2 rfl rfl,
  List.forall_mem_cons.mpr ⟨fun X => zs_callV (Cn := RX6) X.1 zNw_ok (fun _ h9 => Or.inr h9) X.2.2.2.2.2.1 X.2.2.2.2.2.2.1 zcal_109 rfl ⟨rfl, rfl⟩ wm_293 rfl wm_294 wm_295 dX6_block_3 rfl,
  List.forall_mem_cons.mpr ⟨fun X => zs_ifne X.1 dX6_block_6 (by decide) rfl,
  List.forall_mem_cons.mpr ⟨fun X => zs_throw (x := 2) (text := "no such draft or position") X.1 X.2.2.2.2.2.2.1 X.2.2.2.2.2.2.2 X.2.2.1 (by decide) thr_2_69_73 (by decide +kernel) X.2.2.2.2.1 (Nat.le_of_ble_eq_true rfl) (Nat.le_of_ble_eq_true rfl) dX6_block_9 dX6_block_12 dX6_block_13 dX6_block_15 dX6_block_18,
  List.forall_mem_cons.mpr ⟨fun X => zs_aload_n X.1 dX6_block_19 rfl rfl,
  List.forall_mem_cons.mpr ⟨fun X => zs_getf (T := TX6) (N := 4) (k := 0) X.1 X.2.2.2.2.2.1 uX6_in rfl (by decide) wm_238 rfl dX6_block_20 rfl,
  List.forall_mem_cons.mpr ⟨fun X => zs_iload_n X.1 dX6_block_23 rfl rfl,
  List.forall_mem_cons.mpr ⟨fun X => zs_callV (Cn := RX5) X.1 zNw_ok (fun _ h9 => Or.inr h9) X.2.2.2.2.2.1 X.2.2.2.2.2.2.1 zcal_63 rfl ⟨rfl, rfl⟩ wm_269 rfl wm_189 wm_190 dX6_block_24 rfl,
  List.forall_mem_cons.mpr ⟨fun X => zs_iload_n X.1 dX6_block_27 rfl rfl,
  List.forall_mem_cons.mpr ⟨fun X => zs_callV (Cn := RX0) X.1 zNw_ok (fun _ h9 => Or.inr h9) X.2.2.2.2.2.1 X.2.2.2.2.2.2.1 zcal_3 rfl ⟨rfl, rfl⟩ wm_296 rfl wm_11 wm_12 dX6_block_28 rfl,
  List.forall_mem_cons.mpr ⟨fun X => zs_iret X.1 X.2.1 X.2.2.1 dX6_block_31,
  fun _ h9 => nomatch h9⟩⟩⟩⟩⟩⟩⟩⟩⟩⟩⟩⟩⟩
theorem zG_X6_block_0 : ∀ q ∈ zT_X6_block_0, zmono q.2 := List.forall_mem_cons.mpr ⟨zm_aload 0 1, List.forall_mem_cons.mpr ⟨zm_iload 1 2, List.forall_mem_cons.mpr ⟨zm_iload 2 3, List.forall_mem_cons.mpr ⟨zm_callv 6 109 3 6, List.forall_mem_cons.mpr ⟨zm_ifne 19 9, List.forall_mem_cons.mpr ⟨zm_throw 2 (1, 6), List.forall_mem_cons.mpr ⟨zm_aload 0 20, List.forall_mem_cons.mpr ⟨zm_getf 6 0 23, List.forall_mem_cons.mpr ⟨zm_iload 1 24, List.forall_mem_cons.mpr ⟨zm_callv 5 63 2 27, List.forall_mem_cons.mpr ⟨zm_iload 2 28, List.forall_mem_cons.mpr ⟨zm_callv 0 3 2 31, List.forall_mem_cons.mpr ⟨zm_iret, fun _ h9 => nomatch h9⟩⟩⟩⟩⟩⟩⟩⟩⟩⟩⟩⟩⟩
theorem zE_X6_block : ∀ L ∈ zT_X6_block, ∀ q ∈ L, zEnt yX6_block cX6_block 3 (some .int) [] { frames := 6, cells := 1, slots := 6, locals := 82 } q := List.forall_mem_cons.mpr ⟨zE_X6_block_0, fun _ h9 => nomatch h9⟩
theorem zG_X6_block : ∀ L ∈ zT_X6_block, ∀ q ∈ L, zmono q.2 := List.forall_mem_cons.mpr ⟨zG_X6_block_0, fun _ h9 => nomatch h9⟩
set_option maxRecDepth 100000 in
theorem zE_X6_content_0 : ∀ q ∈ zT_X6_content_0, zEnt yX6_content cX6_content 3 (some .int) [] { frames := 6, cells := 1, slots := 6, locals := 82 } q := List.forall_mem_cons.mpr ⟨fun X => zs_aload_n X.1 dX6_content_0 rfl rfl,
  List.forall_mem_cons.mpr ⟨fun X => zs_iload_n X.1 dX6_content_1 rfl rfl,
  List.forall_mem_cons.mpr ⟨fun X => zs_iload_n X.1 dX6_content_2 rfl rfl,
  List.forall_mem_cons.mpr ⟨fun X => zs_callV (Cn := RX6) X.1 zNw_ok (fun _ h9 => Or.inr h9) X.2.2.2.2.2.1 X.2.2.2.2.2.2.1 zcal_109 rfl ⟨rfl, rfl⟩ wm_293 rfl wm_294 wm_295 dX6_content_3 rfl,
  List.forall_mem_cons.mpr ⟨fun X => zs_ifne X.1 dX6_content_6 (by decide) rfl,
  List.forall_mem_cons.mpr ⟨fun X => zs_throw (x := 2) (text := "no such draft or position") X.1 X.2.2.2.2.2.2.1 X.2.2.2.2.2.2.2 X.2.2.1 (by decide) thr_2_69_73 (by decide +kernel) X.2.2.2.2.1 (Nat.le_of_ble_eq_true rfl) (Nat.le_of_ble_eq_true rfl) dX6_content_9 dX6_content_12 dX6_content_13 dX6_content_15 dX6_content_18,
  List.forall_mem_cons.mpr ⟨fun X => zs_aload_n X.1 dX6_content_19 rfl rfl,
  List.forall_mem_cons.mpr ⟨fun X => zs_getf (T := TX6) (N := 4) (k := 0) X.1 X.2.2.2.2.2.1 uX6_in rfl (by decide) wm_238 rfl dX6_content_20 rfl,
  List.forall_mem_cons.mpr ⟨fun X => zs_iload_n X.1 dX6_content_23 rfl rfl,
  List.forall_mem_cons.mpr ⟨fun X => zs_callV (Cn := RX5) X.1 zNw_ok (fun _ h9 => Or.inr h9) X.2.2.2.2.2.1 X.2.2.2.2.2.2.1 zcal_63 rfl ⟨rfl, rfl⟩ wm_269 rfl wm_189 wm_190 dX6_content_24 rfl,
  List.forall_mem_cons.mpr ⟨fun X => zs_iload_n X.1 dX6_content_27 rfl rfl,
  List.forall_mem_cons.mpr ⟨fun X => zs_callV (Cn := RX0) X.1 zNw_ok (fun _ h9 => Or.inr h9) X.2.2.2.2.2.1 X.2.2.2.2.2.2.1 zcal_4 rfl ⟨rfl, rfl⟩ wm_297 rfl wm_17 wm_18 dX6_content_28 rfl,
  List.forall_mem_cons.mpr ⟨fun X => zs_iret X.1 X.2.1 X.2.2.1 dX6_content_31,
  fun _ h9 => nomatch h9⟩⟩⟩⟩⟩⟩⟩⟩⟩⟩⟩⟩⟩
theorem zG_X6_content_0 : ∀ q ∈ zT_X6_content_0, zmono q.2 := List.forall_mem_cons.mpr ⟨zm_aload 0 1, List.forall_mem_cons.mpr ⟨zm_iload 1 2, List.forall_mem_cons.mpr ⟨zm_iload 2 3, List.forall_mem_cons.mpr ⟨zm_callv 6 109 3 6, List.forall_mem_cons.mpr ⟨zm_ifne 19 9, List.forall_mem_cons.mpr ⟨zm_throw 2 (1, 6), List.forall_mem_cons.mpr ⟨zm_aload 0 20, List.forall_mem_cons.mpr ⟨zm_getf 6 0 23, List.forall_mem_cons.mpr ⟨zm_iload 1 24, List.forall_mem_cons.mpr ⟨zm_callv 5 63 2 27, List.forall_mem_cons.mpr ⟨zm_iload 2 28, List.forall_mem_cons.mpr ⟨zm_callv 0 4 2 31, List.forall_mem_cons.mpr ⟨zm_iret, fun _ h9 => nomatch h9⟩⟩⟩⟩⟩⟩⟩⟩⟩⟩⟩⟩⟩
theorem zE_X6_content : ∀ L ∈ zT_X6_content, ∀ q ∈ L, zEnt yX6_content cX6_content 3 (some .int) [] { frames := 6, cells := 1, slots := 6, locals := 82 } q := List.forall_mem_cons.mpr ⟨zE_X6_content_0, fun _ h9 => nomatch h9⟩
theorem zG_X6_content : ∀ L ∈ zT_X6_content, ∀ q ∈ L, zmono q.2 := List.forall_mem_cons.mpr ⟨zG_X6_content_0, fun _ h9 => nomatch h9⟩
set_option maxRecDepth 100000 in
theorem zE_X6_change_0 : ∀ q ∈ zT_X6_change_0, zEnt yX6_change cX6_change 3 (some .int) [] { frames := 7, cells := 1, slots := 6, locals := 155 } q := List.forall_mem_cons.mpr ⟨fun X => zs_iload_n X.1 dX6_change_0 rfl rfl,
  List.forall_mem_cons.mpr ⟨fun X => zs_callS X.1 zNw_ok (fun _ h9 => Or.inr h9) X.2.2.2.2.2.1 X.2.2.2.2.2.2.1 zcal_107 rfl ⟨rfl, rfl⟩ wm_291 wm_292 dX6_change_1 rfl,
  List.forall_mem_cons.mpr ⟨fun X => zs_ifeq X.1 dX6_change_4 (by decide) rfl,
  List.forall_mem_cons.mpr ⟨fun X => zs_aload_n X.1 dX6_change_7 rfl rfl,
  List.forall_mem_cons.mpr ⟨fun X => zs_getf (T := TX6) (N := 4) (k := 0) X.1 X.2.2.2.2.2.1 uX6_in rfl (by decide) wm_238 rfl dX6_change_8 rfl,
  List.forall_mem_cons.mpr ⟨fun X => zs_getf (T := TX5) (N := 7) (k := 0) X.1 X.2.2.2.2.2.1 uX5_in rfl (by decide) wm_289 rfl dX6_change_11 rfl,
  List.forall_mem_cons.mpr ⟨fun X => zs_iload_n X.1 dX6_change_14 rfl rfl,
  List.forall_mem_cons.mpr ⟨fun X => zs_callV (Cn := RX0) X.1 zNw_ok (fun _ h9 => Or.inr h9) X.2.2.2.2.2.1 X.2.2.2.2.2.2.1 zcal_1 rfl ⟨rfl, rfl⟩ wm_298 rfl wm_7 wm_8 dX6_change_15 rfl,
  List.forall_mem_cons.mpr ⟨fun X => zs_ifne X.1 dX6_change_18 (by decide) rfl,
  List.forall_mem_cons.mpr ⟨fun X => zs_throw (x := 2) (text := "no such draft or block of the base") X.1 X.2.2.2.2.2.2.1 X.2.2.2.2.2.2.2 X.2.2.1 (by decide) thr_2_69_73 (by decide +kernel) X.2.2.2.2.1 (Nat.le_of_ble_eq_true rfl) (Nat.le_of_ble_eq_true rfl) dX6_change_21 dX6_change_24 dX6_change_25 dX6_change_27 dX6_change_30,
  List.forall_mem_cons.mpr ⟨fun X => zs_aload_n X.1 dX6_change_31 rfl rfl,
  List.forall_mem_cons.mpr ⟨fun X => zs_getf (T := TX6) (N := 4) (k := 2) X.1 X.2.2.2.2.2.1 uX6_in rfl (by decide) wm_249 rfl dX6_change_32 rfl,
  List.forall_mem_cons.mpr ⟨fun X => zs_aload_n X.1 dX6_change_35 rfl rfl,
  List.forall_mem_cons.mpr ⟨fun X => zs_getf (T := TX6) (N := 4) (k := 0) X.1 X.2.2.2.2.2.1 uX6_in rfl (by decide) wm_238 rfl dX6_change_36 rfl,
  List.forall_mem_cons.mpr ⟨fun X => zs_callV (Cn := RX4) X.1 zNw_ok (fun _ h9 => Or.inr h9) X.2.2.2.2.2.1 X.2.2.2.2.2.2.1 zcal_53 rfl ⟨rfl, rfl⟩ wm_299 rfl wm_300 wm_301 dX6_change_39 rfl,
  List.forall_mem_cons.mpr ⟨fun X => zs_aload_n X.1 dX6_change_42 rfl rfl,
  List.forall_mem_cons.mpr ⟨fun X => zs_getf (T := TX6) (N := 4) (k := 2) X.1 X.2.2.2.2.2.1 uX6_in rfl (by decide) wm_249 rfl dX6_change_43 rfl,
  List.forall_mem_cons.mpr ⟨fun X => zs_iload_n X.1 dX6_change_46 rfl rfl,
  List.forall_mem_cons.mpr ⟨fun X => zs_callV (Cn := RX4) X.1 zNw_ok (fun _ h9 => Or.inr h9) X.2.2.2.2.2.1 X.2.2.2.2.2.2.1 zcal_48 rfl ⟨rfl, rfl⟩ wm_302 rfl wm_177 wm_178 dX6_change_47 rfl,
  List.forall_mem_cons.mpr ⟨fun X => zs_iload_n X.1 dX6_change_50 rfl rfl,
  List.forall_mem_cons.mpr ⟨fun X => zs_callV (Cn := RX2) X.1 zNw_ok (fun _ h9 => Or.inr h9) X.2.2.2.2.2.1 X.2.2.2.2.2.2.1 zcal_31 rfl ⟨rfl, rfl⟩ wm_303 rfl wm_75 wm_76 dX6_change_51 rfl,
  List.forall_mem_cons.mpr ⟨fun X => zs_iret X.1 X.2.1 X.2.2.1 dX6_change_54,
  fun _ h9 => nomatch h9⟩⟩⟩⟩⟩⟩⟩⟩⟩⟩⟩⟩⟩⟩⟩⟩⟩⟩⟩⟩⟩⟩
theorem zG_X6_change_0 : ∀ q ∈ zT_X6_change_0, zmono q.2 := List.forall_mem_cons.mpr ⟨zm_iload 1 1, List.forall_mem_cons.mpr ⟨zm_call 107 1 4, List.forall_mem_cons.mpr ⟨zm_ifeq 21 7, List.forall_mem_cons.mpr ⟨zm_aload 0 8, List.forall_mem_cons.mpr ⟨zm_getf 6 0 11, List.forall_mem_cons.mpr ⟨zm_getf 5 0 14, List.forall_mem_cons.mpr ⟨zm_iload 2 15, List.forall_mem_cons.mpr ⟨zm_callv 0 1 2 18, List.forall_mem_cons.mpr ⟨zm_ifne 31 21, List.forall_mem_cons.mpr ⟨zm_throw 2 (1, 6), List.forall_mem_cons.mpr ⟨zm_aload 0 32, List.forall_mem_cons.mpr ⟨zm_getf 6 2 35, List.forall_mem_cons.mpr ⟨zm_aload 0 36, List.forall_mem_cons.mpr ⟨zm_getf 6 0 39, List.forall_mem_cons.mpr ⟨zm_callv 4 53 2 42, List.forall_mem_cons.mpr ⟨zm_aload 0 43, List.forall_mem_cons.mpr ⟨zm_getf 6 2 46, List.forall_mem_cons.mpr ⟨zm_iload 1 47, List.forall_mem_cons.mpr ⟨zm_callv 4 48 2 50, List.forall_mem_cons.mpr ⟨zm_iload 2 51, List.forall_mem_cons.mpr ⟨zm_callv 2 31 2 54, List.forall_mem_cons.mpr ⟨zm_iret, fun _ h9 => nomatch h9⟩⟩⟩⟩⟩⟩⟩⟩⟩⟩⟩⟩⟩⟩⟩⟩⟩⟩⟩⟩⟩⟩
theorem zE_X6_change : ∀ L ∈ zT_X6_change, ∀ q ∈ L, zEnt yX6_change cX6_change 3 (some .int) [] { frames := 7, cells := 1, slots := 6, locals := 155 } q := List.forall_mem_cons.mpr ⟨zE_X6_change_0, fun _ h9 => nomatch h9⟩
theorem zG_X6_change : ∀ L ∈ zT_X6_change, ∀ q ∈ L, zmono q.2 := List.forall_mem_cons.mpr ⟨zG_X6_change_0, fun _ h9 => nomatch h9⟩
set_option maxRecDepth 100000 in
theorem zE_X6_moves_0 : ∀ q ∈ zT_X6_moves_0, zEnt yX6_moves cX6_moves 2 (some .int) [] { frames := 7, cells := 1, slots := 6, locals := 155 } q := List.forall_mem_cons.mpr ⟨fun X => zs_iload_n X.1 dX6_moves_0 rfl rfl,
  List.forall_mem_cons.mpr ⟨fun X => zs_callS X.1 zNw_ok (fun _ h9 => Or.inr h9) X.2.2.2.2.2.1 X.2.2.2.2.2.2.1 zcal_107 rfl ⟨rfl, rfl⟩ wm_291 wm_292 dX6_moves_1 rfl,
  List.forall_mem_cons.mpr ⟨fun X => zs_ifne X.1 dX6_moves_4 (by decide) rfl,
  List.forall_mem_cons.mpr ⟨fun X => zs_throw (x := 2) (text := "no such draft") X.1 X.2.2.2.2.2.2.1 X.2.2.2.2.2.2.2 X.2.2.1 (by decide) thr_2_69_73 (by decide +kernel) X.2.2.2.2.1 (Nat.le_of_ble_eq_true rfl) (Nat.le_of_ble_eq_true rfl) dX6_moves_7 dX6_moves_10 dX6_moves_11 dX6_moves_13 dX6_moves_16,
  List.forall_mem_cons.mpr ⟨fun X => zs_aload_n X.1 dX6_moves_17 rfl rfl,
  List.forall_mem_cons.mpr ⟨fun X => zs_getf (T := TX6) (N := 4) (k := 2) X.1 X.2.2.2.2.2.1 uX6_in rfl (by decide) wm_249 rfl dX6_moves_18 rfl,
  List.forall_mem_cons.mpr ⟨fun X => zs_aload_n X.1 dX6_moves_21 rfl rfl,
  List.forall_mem_cons.mpr ⟨fun X => zs_getf (T := TX6) (N := 4) (k := 0) X.1 X.2.2.2.2.2.1 uX6_in rfl (by decide) wm_238 rfl dX6_moves_22 rfl,
  List.forall_mem_cons.mpr ⟨fun X => zs_callV (Cn := RX4) X.1 zNw_ok (fun _ h9 => Or.inr h9) X.2.2.2.2.2.1 X.2.2.2.2.2.2.1 zcal_53 rfl ⟨rfl, rfl⟩ wm_299 rfl wm_300 wm_301 dX6_moves_25 rfl,
  List.forall_mem_cons.mpr ⟨fun X => zs_aload_n X.1 dX6_moves_28 rfl rfl,
  List.forall_mem_cons.mpr ⟨fun X => zs_getf (T := TX6) (N := 4) (k := 2) X.1 X.2.2.2.2.2.1 uX6_in rfl (by decide) wm_249 rfl dX6_moves_29 rfl,
  List.forall_mem_cons.mpr ⟨fun X => zs_iload_n X.1 dX6_moves_32 rfl rfl,
  List.forall_mem_cons.mpr ⟨fun X => zs_callV (Cn := RX4) X.1 zNw_ok (fun _ h9 => Or.inr h9) X.2.2.2.2.2.1 X.2.2.2.2.2.2.1 zcal_48 rfl ⟨rfl, rfl⟩ wm_302 rfl wm_177 wm_178 dX6_moves_33 rfl,
  List.forall_mem_cons.mpr ⟨fun X => zs_aload_n X.1 dX6_moves_36 rfl rfl,
  List.forall_mem_cons.mpr ⟨fun X => zs_getf (T := TX6) (N := 4) (k := 0) X.1 X.2.2.2.2.2.1 uX6_in rfl (by decide) wm_238 rfl dX6_moves_37 rfl,
  List.forall_mem_cons.mpr ⟨fun X => zs_getf (T := TX5) (N := 7) (k := 0) X.1 X.2.2.2.2.2.1 uX5_in rfl (by decide) wm_289 rfl dX6_moves_40 rfl,
  List.forall_mem_cons.mpr ⟨fun X => zs_getf (T := TX0) (N := 3) (k := 2) X.1 X.2.2.2.2.2.1 uX0_in rfl (by decide) wm_290 rfl dX6_moves_43 rfl,
  List.forall_mem_cons.mpr ⟨fun X => zs_callV (Cn := RX2) X.1 zNw_ok (fun _ h9 => Or.inr h9) X.2.2.2.2.2.1 X.2.2.2.2.2.2.1 zcal_35 rfl ⟨rfl, rfl⟩ wm_304 rfl wm_305 wm_306 dX6_moves_46 rfl,
  List.forall_mem_cons.mpr ⟨fun X => zs_iret X.1 X.2.1 X.2.2.1 dX6_moves_49,
  fun _ h9 => nomatch h9⟩⟩⟩⟩⟩⟩⟩⟩⟩⟩⟩⟩⟩⟩⟩⟩⟩⟩⟩
theorem zG_X6_moves_0 : ∀ q ∈ zT_X6_moves_0, zmono q.2 := List.forall_mem_cons.mpr ⟨zm_iload 1 1, List.forall_mem_cons.mpr ⟨zm_call 107 1 4, List.forall_mem_cons.mpr ⟨zm_ifne 17 7, List.forall_mem_cons.mpr ⟨zm_throw 2 (1, 6), List.forall_mem_cons.mpr ⟨zm_aload 0 18, List.forall_mem_cons.mpr ⟨zm_getf 6 2 21, List.forall_mem_cons.mpr ⟨zm_aload 0 22, List.forall_mem_cons.mpr ⟨zm_getf 6 0 25, List.forall_mem_cons.mpr ⟨zm_callv 4 53 2 28, List.forall_mem_cons.mpr ⟨zm_aload 0 29, List.forall_mem_cons.mpr ⟨zm_getf 6 2 32, List.forall_mem_cons.mpr ⟨zm_iload 1 33, List.forall_mem_cons.mpr ⟨zm_callv 4 48 2 36, List.forall_mem_cons.mpr ⟨zm_aload 0 37, List.forall_mem_cons.mpr ⟨zm_getf 6 0 40, List.forall_mem_cons.mpr ⟨zm_getf 5 0 43, List.forall_mem_cons.mpr ⟨zm_getf 0 2 46, List.forall_mem_cons.mpr ⟨zm_callv 2 35 2 49, List.forall_mem_cons.mpr ⟨zm_iret, fun _ h9 => nomatch h9⟩⟩⟩⟩⟩⟩⟩⟩⟩⟩⟩⟩⟩⟩⟩⟩⟩⟩⟩
theorem zE_X6_moves : ∀ L ∈ zT_X6_moves, ∀ q ∈ L, zEnt yX6_moves cX6_moves 2 (some .int) [] { frames := 7, cells := 1, slots := 6, locals := 155 } q := List.forall_mem_cons.mpr ⟨zE_X6_moves_0, fun _ h9 => nomatch h9⟩
theorem zG_X6_moves : ∀ L ∈ zT_X6_moves, ∀ q ∈ L, zmono q.2 := List.forall_mem_cons.mpr ⟨zG_X6_moves_0, fun _ h9 => nomatch h9⟩
set_option maxRecDepth 100000 in
theorem zE_X6_mergedSize_0 : ∀ q ∈ zT_X6_mergedSize_0, zEnt yX6_mergedSize cX6_mergedSize 1 (some .int) [] { frames := 7, cells := 0, slots := 0, locals := 155 } q := List.forall_mem_cons.mpr ⟨fun X => zs_aload_n X.1 dX6_mergedSize_0 rfl rfl,
  List.forall_mem_cons.mpr ⟨fun X => zs_getf (T := TX6) (N := 4) (k := 2) X.1 X.2.2.2.2.2.1 uX6_in rfl (by decide) wm_249 rfl dX6_mergedSize_1 rfl,
  List.forall_mem_cons.mpr ⟨fun X => zs_aload_n X.1 dX6_mergedSize_4 rfl rfl,
  List.forall_mem_cons.mpr ⟨fun X => zs_getf (T := TX6) (N := 4) (k := 0) X.1 X.2.2.2.2.2.1 uX6_in rfl (by decide) wm_238 rfl dX6_mergedSize_5 rfl,
  List.forall_mem_cons.mpr ⟨fun X => zs_callV (Cn := RX4) X.1 zNw_ok (fun _ h9 => Or.inr h9) X.2.2.2.2.2.1 X.2.2.2.2.2.2.1 zcal_53 rfl ⟨rfl, rfl⟩ wm_299 rfl wm_300 wm_301 dX6_mergedSize_8 rfl,
  List.forall_mem_cons.mpr ⟨fun X => zs_aload_n X.1 dX6_mergedSize_11 rfl rfl,
  List.forall_mem_cons.mpr ⟨fun X => zs_getf (T := TX6) (N := 4) (k := 2) X.1 X.2.2.2.2.2.1 uX6_in rfl (by decide) wm_249 rfl dX6_mergedSize_12 rfl,
  List.forall_mem_cons.mpr ⟨fun X => zs_getf (T := TX4) (N := 8) (k := 0) X.1 X.2.2.2.2.2.1 uX4_in rfl (by decide) wm_307 rfl dX6_mergedSize_15 rfl,
  List.forall_mem_cons.mpr ⟨fun X => zs_getf (T := TX0) (N := 3) (k := 2) X.1 X.2.2.2.2.2.1 uX0_in rfl (by decide) wm_290 rfl dX6_mergedSize_18 rfl,
  List.forall_mem_cons.mpr ⟨fun X => zs_iret X.1 X.2.1 X.2.2.1 dX6_mergedSize_21,
  fun _ h9 => nomatch h9⟩⟩⟩⟩⟩⟩⟩⟩⟩⟩
theorem zG_X6_mergedSize_0 : ∀ q ∈ zT_X6_mergedSize_0, zmono q.2 := List.forall_mem_cons.mpr ⟨zm_aload 0 1, List.forall_mem_cons.mpr ⟨zm_getf 6 2 4, List.forall_mem_cons.mpr ⟨zm_aload 0 5, List.forall_mem_cons.mpr ⟨zm_getf 6 0 8, List.forall_mem_cons.mpr ⟨zm_callv 4 53 2 11, List.forall_mem_cons.mpr ⟨zm_aload 0 12, List.forall_mem_cons.mpr ⟨zm_getf 6 2 15, List.forall_mem_cons.mpr ⟨zm_getf 4 0 18, List.forall_mem_cons.mpr ⟨zm_getf 0 2 21, List.forall_mem_cons.mpr ⟨zm_iret, fun _ h9 => nomatch h9⟩⟩⟩⟩⟩⟩⟩⟩⟩⟩
theorem zE_X6_mergedSize : ∀ L ∈ zT_X6_mergedSize, ∀ q ∈ L, zEnt yX6_mergedSize cX6_mergedSize 1 (some .int) [] { frames := 7, cells := 0, slots := 0, locals := 155 } q := List.forall_mem_cons.mpr ⟨zE_X6_mergedSize_0, fun _ h9 => nomatch h9⟩
theorem zG_X6_mergedSize : ∀ L ∈ zT_X6_mergedSize, ∀ q ∈ L, zmono q.2 := List.forall_mem_cons.mpr ⟨zG_X6_mergedSize_0, fun _ h9 => nomatch h9⟩
set_option maxRecDepth 100000 in
theorem zE_X6_mergedBlock_0 : ∀ q ∈ zT_X6_mergedBlock_0, zEnt yX6_mergedBlock cX6_mergedBlock 2 (some .int) [] { frames := 7, cells := 1, slots := 6, locals := 155 } q := List.forall_mem_cons.mpr ⟨fun X => zs_aload_n X.1 dX6_mergedBlock_0 rfl rfl,
  List.forall_mem_cons.mpr ⟨fun X => zs_getf (T := TX6) (N := 4) (k := 2) X.1 X.2.2.2.2.2.1 uX6_in rfl (by decide) wm_249 rfl dX6_mergedBlock_1 rfl,
  List.forall_mem_cons.mpr ⟨fun X => zs_aload_n X.1 dX6_mergedBlock_4 rfl rfl,
  List.forall_mem_cons.mpr ⟨fun X => zs_getf (T := TX6) (N := 4) (k := 0) X.1 X.2.2.2.2.2.1 uX6_in rfl (by decide) wm_238 rfl dX6_mergedBlock_5 rfl,
  List.forall_mem_cons.mpr ⟨fun X => zs_callV (Cn := RX4) X.1 zNw_ok (fun _ h9 => Or.inr h9) X.2.2.2.2.2.1 X.2.2.2.2.2.2.1 zcal_53 rfl ⟨rfl, rfl⟩ wm_299 rfl wm_300 wm_301 dX6_mergedBlock_8 rfl,
  List.forall_mem_cons.mpr ⟨fun X => zs_aload_n X.1 dX6_mergedBlock_11 rfl rfl,
  List.forall_mem_cons.mpr ⟨fun X => zs_getf (T := TX6) (N := 4) (k := 2) X.1 X.2.2.2.2.2.1 uX6_in rfl (by decide) wm_249 rfl dX6_mergedBlock_12 rfl,
  List.forall_mem_cons.mpr ⟨fun X => zs_getf (T := TX4) (N := 8) (k := 0) X.1 X.2.2.2.2.2.1 uX4_in rfl (by decide) wm_307 rfl dX6_mergedBlock_15 rfl,
  List.forall_mem_cons.mpr ⟨fun X => zs_iload_n X.1 dX6_mergedBlock_18 rfl rfl,
  List.forall_mem_cons.mpr ⟨fun X => zs_callV (Cn := RX0) X.1 zNw_ok (fun _ h9 => Or.inr h9) X.2.2.2.2.2.1 X.2.2.2.2.2.2.1 zcal_1 rfl ⟨rfl, rfl⟩ wm_298 rfl wm_7 wm_8 dX6_mergedBlock_19 rfl,
  List.forall_mem_cons.mpr ⟨fun X => zs_ifne X.1 dX6_mergedBlock_22 (by decide) rfl,
  List.forall_mem_cons.mpr ⟨fun X => zs_throw (x := 2) (text := "no such block of the merged text") X.1 X.2.2.2.2.2.2.1 X.2.2.2.2.2.2.2 X.2.2.1 (by decide) thr_2_69_73 (by decide +kernel) X.2.2.2.2.1 (Nat.le_of_ble_eq_true rfl) (Nat.le_of_ble_eq_true rfl) dX6_mergedBlock_25 dX6_mergedBlock_28 dX6_mergedBlock_29 dX6_mergedBlock_31 dX6_mergedBlock_34,
  List.forall_mem_cons.mpr ⟨fun X => zs_aload_n X.1 dX6_mergedBlock_35 rfl rfl,
  List.forall_mem_cons.mpr ⟨fun X => zs_getf (T := TX6) (N := 4) (k := 2) X.1 X.2.2.2.2.2.1 uX6_in rfl (by decide) wm_249 rfl dX6_mergedBlock_36 rfl,
  List.forall_mem_cons.mpr ⟨fun X => zs_getf (T := TX4) (N := 8) (k := 0) X.1 X.2.2.2.2.2.1 uX4_in rfl (by decide) wm_307 rfl dX6_mergedBlock_39 rfl,
  List.forall_mem_cons.mpr ⟨fun X => zs_iload_n X.1 dX6_mergedBlock_42 rfl rfl,
  List.forall_mem_cons.mpr ⟨fun X => zs_callV (Cn := RX0) X.1 zNw_ok (fun _ h9 => Or.inr h9) X.2.2.2.2.2.1 X.2.2.2.2.2.2.1 zcal_3 rfl ⟨rfl, rfl⟩ wm_296 rfl wm_11 wm_12 dX6_mergedBlock_43 rfl,
  List.forall_mem_cons.mpr ⟨fun X => zs_iret X.1 X.2.1 X.2.2.1 dX6_mergedBlock_46,
  fun _ h9 => nomatch h9⟩⟩⟩⟩⟩⟩⟩⟩⟩⟩⟩⟩⟩⟩⟩⟩⟩⟩
theorem zG_X6_mergedBlock_0 : ∀ q ∈ zT_X6_mergedBlock_0, zmono q.2 := List.forall_mem_cons.mpr ⟨zm_aload 0 1, List.forall_mem_cons.mpr ⟨zm_getf 6 2 4, List.forall_mem_cons.mpr ⟨zm_aload 0 5, List.forall_mem_cons.mpr ⟨zm_getf 6 0 8, List.forall_mem_cons.mpr ⟨zm_callv 4 53 2 11, List.forall_mem_cons.mpr ⟨zm_aload 0 12, List.forall_mem_cons.mpr ⟨zm_getf 6 2 15, List.forall_mem_cons.mpr ⟨zm_getf 4 0 18, List.forall_mem_cons.mpr ⟨zm_iload 1 19, List.forall_mem_cons.mpr ⟨zm_callv 0 1 2 22, List.forall_mem_cons.mpr ⟨zm_ifne 35 25, List.forall_mem_cons.mpr ⟨zm_throw 2 (1, 6), List.forall_mem_cons.mpr ⟨zm_aload 0 36, List.forall_mem_cons.mpr ⟨zm_getf 6 2 39, List.forall_mem_cons.mpr ⟨zm_getf 4 0 42, List.forall_mem_cons.mpr ⟨zm_iload 1 43, List.forall_mem_cons.mpr ⟨zm_callv 0 3 2 46, List.forall_mem_cons.mpr ⟨zm_iret, fun _ h9 => nomatch h9⟩⟩⟩⟩⟩⟩⟩⟩⟩⟩⟩⟩⟩⟩⟩⟩⟩⟩
theorem zE_X6_mergedBlock : ∀ L ∈ zT_X6_mergedBlock, ∀ q ∈ L, zEnt yX6_mergedBlock cX6_mergedBlock 2 (some .int) [] { frames := 7, cells := 1, slots := 6, locals := 155 } q := List.forall_mem_cons.mpr ⟨zE_X6_mergedBlock_0, fun _ h9 => nomatch h9⟩
theorem zG_X6_mergedBlock : ∀ L ∈ zT_X6_mergedBlock, ∀ q ∈ L, zmono q.2 := List.forall_mem_cons.mpr ⟨zG_X6_mergedBlock_0, fun _ h9 => nomatch h9⟩
set_option maxRecDepth 100000 in
theorem zE_X6_mergedContent_0 : ∀ q ∈ zT_X6_mergedContent_0, zEnt yX6_mergedContent cX6_mergedContent 2 (some .int) [] { frames := 7, cells := 1, slots := 6, locals := 155 } q := List.forall_mem_cons.mpr ⟨fun X => zs_aload_n X.1 dX6_mergedContent_0 rfl rfl,
  List.forall_mem_cons.mpr ⟨fun X => zs_getf (T := TX6) (N := 4) (k := 2) X.1 X.2.2.2.2.2.1 uX6_in rfl (by decide) wm_249 rfl dX6_mergedContent_1 rfl,
  List.forall_mem_cons.mpr ⟨fun X => zs_aload_n X.1 dX6_mergedContent_4 rfl rfl,
  List.forall_mem_cons.mpr ⟨fun X => zs_getf (T := TX6) (N := 4) (k := 0) X.1 X.2.2.2.2.2.1 uX6_in rfl (by decide) wm_238 rfl dX6_mergedContent_5 rfl,
  List.forall_mem_cons.mpr ⟨fun X => zs_callV (Cn := RX4) X.1 zNw_ok (fun _ h9 => Or.inr h9) X.2.2.2.2.2.1 X.2.2.2.2.2.2.1 zcal_53 rfl ⟨rfl, rfl⟩ wm_299 rfl wm_300 wm_301 dX6_mergedContent_8 rfl,
  List.forall_mem_cons.mpr ⟨fun X => zs_aload_n X.1 dX6_mergedContent_11 rfl rfl,
  List.forall_mem_cons.mpr ⟨fun X => zs_getf (T := TX6) (N := 4) (k := 2) X.1 X.2.2.2.2.2.1 uX6_in rfl (by decide) wm_249 rfl dX6_mergedContent_12 rfl,
  List.forall_mem_cons.mpr ⟨fun X => zs_getf (T := TX4) (N := 8) (k := 0) X.1 X.2.2.2.2.2.1 uX4_in rfl (by decide) wm_307 rfl dX6_mergedContent_15 rfl,
  List.forall_mem_cons.mpr ⟨fun X => zs_iload_n X.1 dX6_mergedContent_18 rfl rfl,
  List.forall_mem_cons.mpr ⟨fun X => zs_callV (Cn := RX0) X.1 zNw_ok (fun _ h9 => Or.inr h9) X.2.2.2.2.2.1 X.2.2.2.2.2.2.1 zcal_1 rfl ⟨rfl, rfl⟩ wm_298 rfl wm_7 wm_8 dX6_mergedContent_19 rfl,
  List.forall_mem_cons.mpr ⟨fun X => zs_ifne X.1 dX6_mergedContent_22 (by decide) rfl,
  List.forall_mem_cons.mpr ⟨fun X => zs_throw (x := 2) (text := "no such block of the merged text") X.1 X.2.2.2.2.2.2.1 X.2.2.2.2.2.2.2 X.2.2.1 (by decide) thr_2_69_73 (by decide +kernel) X.2.2.2.2.1 (Nat.le_of_ble_eq_true rfl) (Nat.le_of_ble_eq_true rfl) dX6_mergedContent_25 dX6_mergedContent_28 dX6_mergedContent_29 dX6_mergedContent_31 dX6_mergedContent_34,
  List.forall_mem_cons.mpr ⟨fun X => zs_aload_n X.1 dX6_mergedContent_35 rfl rfl,
  List.forall_mem_cons.mpr ⟨fun X => zs_getf (T := TX6) (N := 4) (k := 2) X.1 X.2.2.2.2.2.1 uX6_in rfl (by decide) wm_249 rfl dX6_mergedContent_36 rfl,
  List.forall_mem_cons.mpr ⟨fun X => zs_getf (T := TX4) (N := 8) (k := 0) X.1 X.2.2.2.2.2.1 uX4_in rfl (by decide) wm_307 rfl dX6_mergedContent_39 rfl,
  List.forall_mem_cons.mpr ⟨fun X => zs_iload_n X.1 dX6_mergedContent_42 rfl rfl,
  List.forall_mem_cons.mpr ⟨fun X => zs_callV (Cn := RX0) X.1 zNw_ok (fun _ h9 => Or.inr h9) X.2.2.2.2.2.1 X.2.2.2.2.2.2.1 zcal_4 rfl ⟨rfl, rfl⟩ wm_297 rfl wm_17 wm_18 dX6_mergedContent_43 rfl,
  List.forall_mem_cons.mpr ⟨fun X => zs_iret X.1 X.2.1 X.2.2.1 dX6_mergedContent_46,
  fun _ h9 => nomatch h9⟩⟩⟩⟩⟩⟩⟩⟩⟩⟩⟩⟩⟩⟩⟩⟩⟩⟩
theorem zG_X6_mergedContent_0 : ∀ q ∈ zT_X6_mergedContent_0, zmono q.2 := List.forall_mem_cons.mpr ⟨zm_aload 0 1, List.forall_mem_cons.mpr ⟨zm_getf 6 2 4, List.forall_mem_cons.mpr ⟨zm_aload 0 5, List.forall_mem_cons.mpr ⟨zm_getf 6 0 8, List.forall_mem_cons.mpr ⟨zm_callv 4 53 2 11, List.forall_mem_cons.mpr ⟨zm_aload 0 12, List.forall_mem_cons.mpr ⟨zm_getf 6 2 15, List.forall_mem_cons.mpr ⟨zm_getf 4 0 18, List.forall_mem_cons.mpr ⟨zm_iload 1 19, List.forall_mem_cons.mpr ⟨zm_callv 0 1 2 22, List.forall_mem_cons.mpr ⟨zm_ifne 35 25, List.forall_mem_cons.mpr ⟨zm_throw 2 (1, 6), List.forall_mem_cons.mpr ⟨zm_aload 0 36, List.forall_mem_cons.mpr ⟨zm_getf 6 2 39, List.forall_mem_cons.mpr ⟨zm_getf 4 0 42, List.forall_mem_cons.mpr ⟨zm_iload 1 43, List.forall_mem_cons.mpr ⟨zm_callv 0 4 2 46, List.forall_mem_cons.mpr ⟨zm_iret, fun _ h9 => nomatch h9⟩⟩⟩⟩⟩⟩⟩⟩⟩⟩⟩⟩⟩⟩⟩⟩⟩⟩
theorem zE_X6_mergedContent : ∀ L ∈ zT_X6_mergedContent, ∀ q ∈ L, zEnt yX6_mergedContent cX6_mergedContent 2 (some .int) [] { frames := 7, cells := 1, slots := 6, locals := 155 } q := List.forall_mem_cons.mpr ⟨zE_X6_mergedContent_0, fun _ h9 => nomatch h9⟩
theorem zG_X6_mergedContent : ∀ L ∈ zT_X6_mergedContent, ∀ q ∈ L, zmono q.2 := List.forall_mem_cons.mpr ⟨zG_X6_mergedContent_0, fun _ h9 => nomatch h9⟩
set_option maxRecDepth 100000 in
theorem zE_X6_conflicts_0 : ∀ q ∈ zT_X6_conflicts_0, zEnt yX6_conflicts cX6_conflicts 1 (some .int) [] { frames := 7, cells := 0, slots := 0, locals := 155 } q := List.forall_mem_cons.mpr ⟨fun X => zs_aload_n X.1 dX6_conflicts_0 rfl rfl,
  List.forall_mem_cons.mpr ⟨fun X => zs_getf (T := TX6) (N := 4) (k := 2) X.1 X.2.2.2.2.2.1 uX6_in rfl (by decide) wm_249 rfl dX6_conflicts_1 rfl,
  List.forall_mem_cons.mpr ⟨fun X => zs_aload_n X.1 dX6_conflicts_4 rfl rfl,
  List.forall_mem_cons.mpr ⟨fun X => zs_getf (T := TX6) (N := 4) (k := 0) X.1 X.2.2.2.2.2.1 uX6_in rfl (by decide) wm_238 rfl dX6_conflicts_5 rfl,
  List.forall_mem_cons.mpr ⟨fun X => zs_callV (Cn := RX4) X.1 zNw_ok (fun _ h9 => Or.inr h9) X.2.2.2.2.2.1 X.2.2.2.2.2.2.1 zcal_53 rfl ⟨rfl, rfl⟩ wm_299 rfl wm_300 wm_301 dX6_conflicts_8 rfl,
  List.forall_mem_cons.mpr ⟨fun X => zs_aload_n X.1 dX6_conflicts_11 rfl rfl,
  List.forall_mem_cons.mpr ⟨fun X => zs_getf (T := TX6) (N := 4) (k := 2) X.1 X.2.2.2.2.2.1 uX6_in rfl (by decide) wm_249 rfl dX6_conflicts_12 rfl,
  List.forall_mem_cons.mpr ⟨fun X => zs_getf (T := TX4) (N := 8) (k := 5) X.1 X.2.2.2.2.2.1 uX4_in rfl (by decide) wm_308 rfl dX6_conflicts_15 rfl,
  List.forall_mem_cons.mpr ⟨fun X => zs_iret X.1 X.2.1 X.2.2.1 dX6_conflicts_18,
  fun _ h9 => nomatch h9⟩⟩⟩⟩⟩⟩⟩⟩⟩
theorem zG_X6_conflicts_0 : ∀ q ∈ zT_X6_conflicts_0, zmono q.2 := List.forall_mem_cons.mpr ⟨zm_aload 0 1, List.forall_mem_cons.mpr ⟨zm_getf 6 2 4, List.forall_mem_cons.mpr ⟨zm_aload 0 5, List.forall_mem_cons.mpr ⟨zm_getf 6 0 8, List.forall_mem_cons.mpr ⟨zm_callv 4 53 2 11, List.forall_mem_cons.mpr ⟨zm_aload 0 12, List.forall_mem_cons.mpr ⟨zm_getf 6 2 15, List.forall_mem_cons.mpr ⟨zm_getf 4 5 18, List.forall_mem_cons.mpr ⟨zm_iret, fun _ h9 => nomatch h9⟩⟩⟩⟩⟩⟩⟩⟩⟩
theorem zE_X6_conflicts : ∀ L ∈ zT_X6_conflicts, ∀ q ∈ L, zEnt yX6_conflicts cX6_conflicts 1 (some .int) [] { frames := 7, cells := 0, slots := 0, locals := 155 } q := List.forall_mem_cons.mpr ⟨zE_X6_conflicts_0, fun _ h9 => nomatch h9⟩
theorem zG_X6_conflicts : ∀ L ∈ zT_X6_conflicts, ∀ q ∈ L, zmono q.2 := List.forall_mem_cons.mpr ⟨zG_X6_conflicts_0, fun _ h9 => nomatch h9⟩
set_option maxRecDepth 100000 in
theorem zE_X6_conflictBlock_0 : ∀ q ∈ zT_X6_conflictBlock_0, zEnt yX6_conflictBlock cX6_conflictBlock 2 (some .int) [] { frames := 7, cells := 1, slots := 6, locals := 155 } q := List.forall_mem_cons.mpr ⟨fun X => zs_aload_n X.1 dX6_conflictBlock_0 rfl rfl,
  List.forall_mem_cons.mpr ⟨fun X => zs_getf (T := TX6) (N := 4) (k := 2) X.1 X.2.2.2.2.2.1 uX6_in rfl (by decide) wm_249 rfl dX6_conflictBlock_1 rfl,
  List.forall_mem_cons.mpr ⟨fun X => zs_aload_n X.1 dX6_conflictBlock_4 rfl rfl,
  List.forall_mem_cons.mpr ⟨fun X => zs_getf (T := TX6) (N := 4) (k := 0) X.1 X.2.2.2.2.2.1 uX6_in rfl (by decide) wm_238 rfl dX6_conflictBlock_5 rfl,
  List.forall_mem_cons.mpr ⟨fun X => zs_callV (Cn := RX4) X.1 zNw_ok (fun _ h9 => Or.inr h9) X.2.2.2.2.2.1 X.2.2.2.2.2.2.1 zcal_53 rfl ⟨rfl, rfl⟩ wm_299 rfl wm_300 wm_301 dX6_conflictBlock_8 rfl,
  List.forall_mem_cons.mpr ⟨fun X => zs_aload_n X.1 dX6_conflictBlock_11 rfl rfl,
  List.forall_mem_cons.mpr ⟨fun X => zs_getf (T := TX6) (N := 4) (k := 2) X.1 X.2.2.2.2.2.1 uX6_in rfl (by decide) wm_249 rfl dX6_conflictBlock_12 rfl,
  List.forall_mem_cons.mpr ⟨fun X => zs_iload_n X.1 dX6_conflictBlock_15 rfl rfl,
  List.forall_mem_cons.mpr ⟨fun X => zs_callV (Cn := RX4) X.1 zNw_ok (fun _ h9 => Or.inr h9) X.2.2.2.2.2.1 X.2.2.2.2.2.2.1 zcal_49 rfl ⟨rfl, rfl⟩ wm_309 rfl wm_310 wm_311 dX6_conflictBlock_16 rfl,
  List.forall_mem_cons.mpr ⟨fun X => zs_ifne X.1 dX6_conflictBlock_19 (by decide) rfl,
  List.forall_mem_cons.mpr ⟨fun X => zs_throw (x := 2) (text := "no such conflict") X.1 X.2.2.2.2.2.2.1 X.2.2.2.2.2.2.2 X.2.2.1 (by decide) thr_2_69_73 (by decide +kernel) X.2.2.2.2.1 (Nat.le_of_ble_eq_true rfl) (Nat.le_of_ble_eq_true rfl) dX6_conflictBlock_22 dX6_conflictBlock_25 dX6_conflictBlock_26 dX6_conflictBlock_28 dX6_conflictBlock_31,
  List.forall_mem_cons.mpr ⟨fun X => zs_aload_n X.1 dX6_conflictBlock_32 rfl rfl,
  List.forall_mem_cons.mpr ⟨fun X => zs_getf (T := TX6) (N := 4) (k := 2) X.1 X.2.2.2.2.2.1 uX6_in rfl (by decide) wm_249 rfl dX6_conflictBlock_33 rfl,
  List.forall_mem_cons.mpr ⟨fun X => zs_iload_n X.1 dX6_conflictBlock_36 rfl rfl,
  List.forall_mem_cons.mpr ⟨fun X => zs_callV (Cn := RX4) X.1 zNw_ok (fun _ h9 => Or.inr h9) X.2.2.2.2.2.1 X.2.2.2.2.2.2.1 zcal_50 rfl ⟨rfl, rfl⟩ wm_312 rfl wm_137 wm_138 dX6_conflictBlock_37 rfl,
  List.forall_mem_cons.mpr ⟨fun X => zs_iret X.1 X.2.1 X.2.2.1 dX6_conflictBlock_40,
  fun _ h9 => nomatch h9⟩⟩⟩⟩⟩⟩⟩⟩⟩⟩⟩⟩⟩⟩⟩⟩
theorem zG_X6_conflictBlock_0 : ∀ q ∈ zT_X6_conflictBlock_0, zmono q.2 := List.forall_mem_cons.mpr ⟨zm_aload 0 1, List.forall_mem_cons.mpr ⟨zm_getf 6 2 4, List.forall_mem_cons.mpr ⟨zm_aload 0 5, List.forall_mem_cons.mpr ⟨zm_getf 6 0 8, List.forall_mem_cons.mpr ⟨zm_callv 4 53 2 11, List.forall_mem_cons.mpr ⟨zm_aload 0 12, List.forall_mem_cons.mpr ⟨zm_getf 6 2 15, List.forall_mem_cons.mpr ⟨zm_iload 1 16, List.forall_mem_cons.mpr ⟨zm_callv 4 49 2 19, List.forall_mem_cons.mpr ⟨zm_ifne 32 22, List.forall_mem_cons.mpr ⟨zm_throw 2 (1, 6), List.forall_mem_cons.mpr ⟨zm_aload 0 33, List.forall_mem_cons.mpr ⟨zm_getf 6 2 36, List.forall_mem_cons.mpr ⟨zm_iload 1 37, List.forall_mem_cons.mpr ⟨zm_callv 4 50 2 40, List.forall_mem_cons.mpr ⟨zm_iret, fun _ h9 => nomatch h9⟩⟩⟩⟩⟩⟩⟩⟩⟩⟩⟩⟩⟩⟩⟩⟩
theorem zE_X6_conflictBlock : ∀ L ∈ zT_X6_conflictBlock, ∀ q ∈ L, zEnt yX6_conflictBlock cX6_conflictBlock 2 (some .int) [] { frames := 7, cells := 1, slots := 6, locals := 155 } q := List.forall_mem_cons.mpr ⟨zE_X6_conflictBlock_0, fun _ h9 => nomatch h9⟩
theorem zG_X6_conflictBlock : ∀ L ∈ zT_X6_conflictBlock, ∀ q ∈ L, zmono q.2 := List.forall_mem_cons.mpr ⟨zG_X6_conflictBlock_0, fun _ h9 => nomatch h9⟩
set_option maxRecDepth 100000 in
theorem zE_X6_conflictKind_0 : ∀ q ∈ zT_X6_conflictKind_0, zEnt yX6_conflictKind cX6_conflictKind 2 (some .int) [] { frames := 7, cells := 1, slots := 6, locals := 155 } q := List.forall_mem_cons.mpr ⟨fun X => zs_aload_n X.1 dX6_conflictKind_0 rfl rfl,
  List.forall_mem_cons.mpr ⟨fun X => zs_getf (T := TX6) (N := 4) (k := 2) X.1 X.2.2.2.2.2.1 uX6_in rfl (by decide) wm_249 rfl dX6_conflictKind_1 rfl,
  List.forall_mem_cons.mpr ⟨fun X => zs_aload_n X.1 dX6_conflictKind_4 rfl rfl,
  List.forall_mem_cons.mpr ⟨fun X => zs_getf (T := TX6) (N := 4) (k := 0) X.1 X.2.2.2.2.2.1 uX6_in rfl (by decide) wm_238 rfl dX6_conflictKind_5 rfl,
  List.forall_mem_cons.mpr ⟨fun X => zs_callV (Cn := RX4) X.1 zNw_ok (fun _ h9 => Or.inr h9) X.2.2.2.2.2.1 X.2.2.2.2.2.2.1 zcal_53 rfl ⟨rfl, rfl⟩ wm_299 rfl wm_300 wm_301 dX6_conflictKind_8 rfl,
  List.forall_mem_cons.mpr ⟨fun X => zs_aload_n X.1 dX6_conflictKind_11 rfl rfl,
  List.forall_mem_cons.mpr ⟨fun X => zs_getf (T := TX6) (N := 4) (k := 2) X.1 X.2.2.2.2.2.1 uX6_in rfl (by decide) wm_249 rfl dX6_conflictKind_12 rfl,
  List.forall_mem_cons.mpr ⟨fun X => zs_iload_n X.1 dX6_conflictKind_15 rfl rfl,
  List.forall_mem_cons.mpr ⟨fun X => zs_callV (Cn := RX4) X.1 zNw_ok (fun _ h9 => Or.inr h9) X.2.2.2.2.2.1 X.2.2.2.2.2.2.1 zcal_49 rfl ⟨rfl, rfl⟩ wm_309 rfl wm_310 wm_311 dX6_conflictKind_16 rfl,
  List.forall_mem_cons.mpr ⟨fun X => zs_ifne X.1 dX6_conflictKind_19 (by decide) rfl,
  List.forall_mem_cons.mpr ⟨fun X => zs_throw (x := 2) (text := "no such conflict") X.1 X.2.2.2.2.2.2.1 X.2.2.2.2.2.2.2 X.2.2.1 (by decide) thr_2_69_73 (by decide +kernel) X.2.2.2.2.1 (Nat.le_of_ble_eq_true rfl) (Nat.le_of_ble_eq_true rfl) dX6_conflictKind_22 dX6_conflictKind_25 dX6_conflictKind_26 dX6_conflictKind_28 dX6_conflictKind_31,
  List.forall_mem_cons.mpr ⟨fun X => zs_aload_n X.1 dX6_conflictKind_32 rfl rfl,
  List.forall_mem_cons.mpr ⟨fun X => zs_getf (T := TX6) (N := 4) (k := 2) X.1 X.2.2.2.2.2.1 uX6_in rfl (by decide) wm_249 rfl dX6_conflictKind_33 rfl,
  List.forall_mem_cons.mpr ⟨fun X => zs_iload_n X.1 dX6_conflictKind_36 rfl rfl,
  List.forall_mem_cons.mpr ⟨fun X => zs_callV (Cn := RX4) X.1 zNw_ok (fun _ h9 => Or.inr h9) X.2.2.2.2.2.1 X.2.2.2.2.2.2.1 zcal_51 rfl ⟨rfl, rfl⟩ wm_313 rfl wm_140 wm_141 dX6_conflictKind_37 rfl,
  List.forall_mem_cons.mpr ⟨fun X => zs_iret X.1 X.2.1 X.2.2.1 dX6_conflictKind_40,
  fun _ h9 => nomatch h9⟩⟩⟩⟩⟩⟩⟩⟩⟩⟩⟩⟩⟩⟩⟩⟩
theorem zG_X6_conflictKind_0 : ∀ q ∈ zT_X6_conflictKind_0, zmono q.2 := List.forall_mem_cons.mpr ⟨zm_aload 0 1, List.forall_mem_cons.mpr ⟨zm_getf 6 2 4, List.forall_mem_cons.mpr ⟨zm_aload 0 5, List.forall_mem_cons.mpr ⟨zm_getf 6 0 8, List.forall_mem_cons.mpr ⟨zm_callv 4 53 2 11, List.forall_mem_cons.mpr ⟨zm_aload 0 12, List.forall_mem_cons.mpr ⟨zm_getf 6 2 15, List.forall_mem_cons.mpr ⟨zm_iload 1 16, List.forall_mem_cons.mpr ⟨zm_callv 4 49 2 19, List.forall_mem_cons.mpr ⟨zm_ifne 32 22, List.forall_mem_cons.mpr ⟨zm_throw 2 (1, 6), List.forall_mem_cons.mpr ⟨zm_aload 0 33, List.forall_mem_cons.mpr ⟨zm_getf 6 2 36, List.forall_mem_cons.mpr ⟨zm_iload 1 37, List.forall_mem_cons.mpr ⟨zm_callv 4 51 2 40, List.forall_mem_cons.mpr ⟨zm_iret, fun _ h9 => nomatch h9⟩⟩⟩⟩⟩⟩⟩⟩⟩⟩⟩⟩⟩⟩⟩⟩
theorem zE_X6_conflictKind : ∀ L ∈ zT_X6_conflictKind, ∀ q ∈ L, zEnt yX6_conflictKind cX6_conflictKind 2 (some .int) [] { frames := 7, cells := 1, slots := 6, locals := 155 } q := List.forall_mem_cons.mpr ⟨zE_X6_conflictKind_0, fun _ h9 => nomatch h9⟩
theorem zG_X6_conflictKind : ∀ L ∈ zT_X6_conflictKind, ∀ q ∈ L, zmono q.2 := List.forall_mem_cons.mpr ⟨zG_X6_conflictKind_0, fun _ h9 => nomatch h9⟩
set_option maxRecDepth 100000 in
theorem zE_X6_choose_0 : ∀ q ∈ zT_X6_choose_0, zEnt yX6_choose cX6_choose 3 (some .int) [] { frames := 7, cells := 1, slots := 6, locals := 155 } q := List.forall_mem_cons.mpr ⟨fun X => zs_aload_n X.1 dX6_choose_0 rfl rfl,
  List.forall_mem_cons.mpr ⟨fun X => zs_getf (T := TX6) (N := 4) (k := 2) X.1 X.2.2.2.2.2.1 uX6_in rfl (by decide) wm_249 rfl dX6_choose_1 rfl,
  List.forall_mem_cons.mpr ⟨fun X => zs_aload_n X.1 dX6_choose_4 rfl rfl,
  List.forall_mem_cons.mpr ⟨fun X => zs_getf (T := TX6) (N := 4) (k := 0) X.1 X.2.2.2.2.2.1 uX6_in rfl (by decide) wm_238 rfl dX6_choose_5 rfl,
  List.forall_mem_cons.mpr ⟨fun X => zs_callV (Cn := RX4) X.1 zNw_ok (fun _ h9 => Or.inr h9) X.2.2.2.2.2.1 X.2.2.2.2.2.2.1 zcal_53 rfl ⟨rfl, rfl⟩ wm_299 rfl wm_300 wm_301 dX6_choose_8 rfl,
  List.forall_mem_cons.mpr ⟨fun X => zs_aload_n X.1 dX6_choose_11 rfl rfl,
  List.forall_mem_cons.mpr ⟨fun X => zs_getf (T := TX6) (N := 4) (k := 2) X.1 X.2.2.2.2.2.1 uX6_in rfl (by decide) wm_249 rfl dX6_choose_12 rfl,
  List.forall_mem_cons.mpr ⟨fun X => zs_iload_n X.1 dX6_choose_15 rfl rfl,
  List.forall_mem_cons.mpr ⟨fun X => zs_callV (Cn := RX4) X.1 zNw_ok (fun _ h9 => Or.inr h9) X.2.2.2.2.2.1 X.2.2.2.2.2.2.1 zcal_49 rfl ⟨rfl, rfl⟩ wm_309 rfl wm_310 wm_311 dX6_choose_16 rfl,
  List.forall_mem_cons.mpr ⟨fun X => zs_ifne X.1 dX6_choose_19 (by decide) rfl,
  List.forall_mem_cons.mpr ⟨fun X => zs_throw (x := 2) (text := "no such conflict") X.1 X.2.2.2.2.2.2.1 X.2.2.2.2.2.2.2 X.2.2.1 (by decide) thr_2_69_73 (by decide +kernel) X.2.2.2.2.1 (Nat.le_of_ble_eq_true rfl) (Nat.le_of_ble_eq_true rfl) dX6_choose_22 dX6_choose_25 dX6_choose_26 dX6_choose_28 dX6_choose_31,
  List.forall_mem_cons.mpr ⟨fun X => zs_iload_n X.1 dX6_choose_32 rfl rfl,
  List.forall_mem_cons.mpr ⟨fun X => zs_callS X.1 zNw_ok (fun _ h9 => Or.inr h9) X.2.2.2.2.2.1 X.2.2.2.2.2.2.1 zcal_107 rfl ⟨rfl, rfl⟩ wm_291 wm_292 dX6_choose_33 rfl,
  List.forall_mem_cons.mpr ⟨fun X => zs_ifne X.1 dX6_choose_36 (by decide) rfl,
  List.forall_mem_cons.mpr ⟨fun X => zs_iload_n X.1 dX6_choose_39 rfl rfl,
  List.forall_mem_cons.mpr ⟨fun X => zs_iconst X.1 dX6_choose_40 (by decide) rfl,
  List.forall_mem_cons.mpr ⟨fun X => zs_icmpeq X.1 dX6_choose_41 (by decide) rfl,
  List.forall_mem_cons.mpr ⟨fun X => zs_throw (x := 0) (text := "neither a draft nor NONE") X.1 X.2.2.2.2.2.2.1 X.2.2.2.2.2.2.2 X.2.2.1 (by decide) thr_0_41_45 (by decide +kernel) X.2.2.2.2.1 (Nat.le_of_ble_eq_true rfl) (Nat.le_of_ble_eq_true rfl) dX6_choose_44 dX6_choose_47 dX6_choose_48 dX6_choose_50 dX6_choose_53,
  List.forall_mem_cons.mpr ⟨fun X => zs_aload_n X.1 dX6_choose_54 rfl rfl,
  List.forall_mem_cons.mpr ⟨fun X => zs_getf (T := TX6) (N := 4) (k := 1) X.1 X.2.2.2.2.2.1 uX6_in rfl (by decide) wm_244 rfl dX6_choose_55 rfl,
  List.forall_mem_cons.mpr ⟨fun X => zs_aload_n X.1 dX6_choose_58 rfl rfl,
  List.forall_mem_cons.mpr ⟨fun X => zs_getf (T := TX6) (N := 4) (k := 0) X.1 X.2.2.2.2.2.1 uX6_in rfl (by decide) wm_238 rfl dX6_choose_59 rfl,
  List.forall_mem_cons.mpr ⟨fun X => zs_callV (Cn := RX3) X.1 zNw_ok (fun _ h9 => Or.inr h9) X.2.2.2.2.2.1 X.2.2.2.2.2.2.1 zcal_43 rfl ⟨rfl, rfl⟩ wm_260 rfl wm_261 wm_262 dX6_choose_62 rfl,
  fun _ h9 => nomatch h9⟩⟩⟩⟩⟩⟩⟩⟩⟩⟩⟩⟩⟩⟩⟩⟩⟩⟩⟩⟩⟩⟩⟩
theorem zG_X6_choose_0 : ∀ q ∈ zT_X6_choose_0, zmono q.2 := List.forall_mem_cons.mpr ⟨zm_aload 0 1, List.forall_mem_cons.mpr ⟨zm_getf 6 2 4, List.forall_mem_cons.mpr ⟨zm_aload 0 5, List.forall_mem_cons.mpr ⟨zm_getf 6 0 8, List.forall_mem_cons.mpr ⟨zm_callv 4 53 2 11, List.forall_mem_cons.mpr ⟨zm_aload 0 12, List.forall_mem_cons.mpr ⟨zm_getf 6 2 15, List.forall_mem_cons.mpr ⟨zm_iload 1 16, List.forall_mem_cons.mpr ⟨zm_callv 4 49 2 19, List.forall_mem_cons.mpr ⟨zm_ifne 32 22, List.forall_mem_cons.mpr ⟨zm_throw 2 (1, 6), List.forall_mem_cons.mpr ⟨zm_iload 2 33, List.forall_mem_cons.mpr ⟨zm_call 107 1 36, List.forall_mem_cons.mpr ⟨zm_ifne 54 39, List.forall_mem_cons.mpr ⟨zm_iload 2 40, List.forall_mem_cons.mpr ⟨zm_iconst (-1) 41, List.forall_mem_cons.mpr ⟨zm_icmpeq 54 44, List.forall_mem_cons.mpr ⟨zm_throw 0 (1, 6), List.forall_mem_cons.mpr ⟨zm_aload 0 55, List.forall_mem_cons.mpr ⟨zm_getf 6 1 58, List.forall_mem_cons.mpr ⟨zm_aload 0 59, List.forall_mem_cons.mpr ⟨zm_getf 6 0 62, List.forall_mem_cons.mpr ⟨zm_callv 3 43 2 65, fun _ h9 => nomatch h9⟩⟩⟩⟩⟩⟩⟩⟩⟩⟩⟩⟩⟩⟩⟩⟩⟩⟩⟩⟩⟩⟩⟩
set_option maxRecDepth 100000 in
theorem zE_X6_choose_1 : ∀ q ∈ zT_X6_choose_1, zEnt yX6_choose cX6_choose 3 (some .int) [] { frames := 7, cells := 1, slots := 6, locals := 155 } q := List.forall_mem_cons.mpr ⟨fun X => zs_aload_n X.1 dX6_choose_65 rfl rfl,
  List.forall_mem_cons.mpr ⟨fun X => zs_getf (T := TX6) (N := 4) (k := 0) X.1 X.2.2.2.2.2.1 uX6_in rfl (by decide) wm_238 rfl dX6_choose_66 rfl,
  List.forall_mem_cons.mpr ⟨fun X => zs_aload_n X.1 dX6_choose_69 rfl rfl,
  List.forall_mem_cons.mpr ⟨fun X => zs_getf (T := TX6) (N := 4) (k := 2) X.1 X.2.2.2.2.2.1 uX6_in rfl (by decide) wm_249 rfl dX6_choose_70 rfl,
  List.forall_mem_cons.mpr ⟨fun X => zs_iload_n X.1 dX6_choose_73 rfl rfl,
  List.forall_mem_cons.mpr ⟨fun X => zs_callV (Cn := RX4) X.1 zNw_ok (fun _ h9 => Or.inr h9) X.2.2.2.2.2.1 X.2.2.2.2.2.2.1 zcal_50 rfl ⟨rfl, rfl⟩ wm_312 rfl wm_137 wm_138 dX6_choose_74 rfl,
  List.forall_mem_cons.mpr ⟨fun X => zs_aload_n X.1 dX6_choose_77 rfl rfl,
  List.forall_mem_cons.mpr ⟨fun X => zs_getf (T := TX6) (N := 4) (k := 2) X.1 X.2.2.2.2.2.1 uX6_in rfl (by decide) wm_249 rfl dX6_choose_78 rfl,
  List.forall_mem_cons.mpr ⟨fun X => zs_iload_n X.1 dX6_choose_81 rfl rfl,
  List.forall_mem_cons.mpr ⟨fun X => zs_callV (Cn := RX4) X.1 zNw_ok (fun _ h9 => Or.inr h9) X.2.2.2.2.2.1 X.2.2.2.2.2.2.1 zcal_51 rfl ⟨rfl, rfl⟩ wm_313 rfl wm_140 wm_141 dX6_choose_82 rfl,
  List.forall_mem_cons.mpr ⟨fun X => zs_iload_n X.1 dX6_choose_85 rfl rfl,
  List.forall_mem_cons.mpr ⟨fun X => zs_callV (Cn := RX5) X.1 zNw_ok (fun _ h9 => Or.inr h9) X.2.2.2.2.2.1 X.2.2.2.2.2.2.1 zcal_70 rfl ⟨rfl, rfl⟩ wm_314 rfl wm_315 wm_316 dX6_choose_86 rfl,
  List.forall_mem_cons.mpr ⟨fun X => zs_iret X.1 X.2.1 X.2.2.1 dX6_choose_89,
  fun _ h9 => nomatch h9⟩⟩⟩⟩⟩⟩⟩⟩⟩⟩⟩⟩⟩
theorem zG_X6_choose_1 : ∀ q ∈ zT_X6_choose_1, zmono q.2 := List.forall_mem_cons.mpr ⟨zm_aload 0 66, List.forall_mem_cons.mpr ⟨zm_getf 6 0 69, List.forall_mem_cons.mpr ⟨zm_aload 0 70, List.forall_mem_cons.mpr ⟨zm_getf 6 2 73, List.forall_mem_cons.mpr ⟨zm_iload 1 74, List.forall_mem_cons.mpr ⟨zm_callv 4 50 2 77, List.forall_mem_cons.mpr ⟨zm_aload 0 78, List.forall_mem_cons.mpr ⟨zm_getf 6 2 81, List.forall_mem_cons.mpr ⟨zm_iload 1 82, List.forall_mem_cons.mpr ⟨zm_callv 4 51 2 85, List.forall_mem_cons.mpr ⟨zm_iload 2 86, List.forall_mem_cons.mpr ⟨zm_callv 5 70 4 89, List.forall_mem_cons.mpr ⟨zm_iret, fun _ h9 => nomatch h9⟩⟩⟩⟩⟩⟩⟩⟩⟩⟩⟩⟩⟩
theorem zE_X6_choose : ∀ L ∈ zT_X6_choose, ∀ q ∈ L, zEnt yX6_choose cX6_choose 3 (some .int) [] { frames := 7, cells := 1, slots := 6, locals := 155 } q := List.forall_mem_cons.mpr ⟨zE_X6_choose_0, List.forall_mem_cons.mpr ⟨zE_X6_choose_1, fun _ h9 => nomatch h9⟩⟩
theorem zG_X6_choose : ∀ L ∈ zT_X6_choose, ∀ q ∈ L, zmono q.2 := List.forall_mem_cons.mpr ⟨zG_X6_choose_0, List.forall_mem_cons.mpr ⟨zG_X6_choose_1, fun _ h9 => nomatch h9⟩⟩
set_option maxRecDepth 100000 in
theorem zE_X6_prefer_0 : ∀ q ∈ zT_X6_prefer_0, zEnt yX6_prefer cX6_prefer 3 (some .int) [] { frames := 6, cells := 1, slots := 6, locals := 128 } q := List.forall_mem_cons.mpr ⟨fun X => zs_iload_n X.1 dX6_prefer_0 rfl rfl,
  List.forall_mem_cons.mpr ⟨fun X => zs_callS X.1 zNw_ok (fun _ h9 => Or.inr h9) X.2.2.2.2.2.1 X.2.2.2.2.2.2.1 zcal_107 rfl ⟨rfl, rfl⟩ wm_291 wm_292 dX6_prefer_1 rfl,
  List.forall_mem_cons.mpr ⟨fun X => zs_ifne X.1 dX6_prefer_4 (by decide) rfl,
  List.forall_mem_cons.mpr ⟨fun X => zs_throw (x := 2) (text := "no such draft") X.1 X.2.2.2.2.2.2.1 X.2.2.2.2.2.2.2 X.2.2.1 (by decide) thr_2_69_73 (by decide +kernel) X.2.2.2.2.1 (Nat.le_of_ble_eq_true rfl) (Nat.le_of_ble_eq_true rfl) dX6_prefer_7 dX6_prefer_10 dX6_prefer_11 dX6_prefer_13 dX6_prefer_16,
  List.forall_mem_cons.mpr ⟨fun X => zs_aload_n X.1 dX6_prefer_17 rfl rfl,
  List.forall_mem_cons.mpr ⟨fun X => zs_getf (T := TX6) (N := 4) (k := 1) X.1 X.2.2.2.2.2.1 uX6_in rfl (by decide) wm_244 rfl dX6_prefer_18 rfl,
  List.forall_mem_cons.mpr ⟨fun X => zs_aload_n X.1 dX6_prefer_21 rfl rfl,
  List.forall_mem_cons.mpr ⟨fun X => zs_getf (T := TX6) (N := 4) (k := 0) X.1 X.2.2.2.2.2.1 uX6_in rfl (by decide) wm_238 rfl dX6_prefer_22 rfl,
  List.forall_mem_cons.mpr ⟨fun X => zs_callV (Cn := RX3) X.1 zNw_ok (fun _ h9 => Or.inr h9) X.2.2.2.2.2.1 X.2.2.2.2.2.2.1 zcal_43 rfl ⟨rfl, rfl⟩ wm_260 rfl wm_261 wm_262 dX6_prefer_25 rfl,
  List.forall_mem_cons.mpr ⟨fun X => zs_aload_n X.1 dX6_prefer_28 rfl rfl,
  List.forall_mem_cons.mpr ⟨fun X => zs_getf (T := TX6) (N := 4) (k := 0) X.1 X.2.2.2.2.2.1 uX6_in rfl (by decide) wm_238 rfl dX6_prefer_29 rfl,
  List.forall_mem_cons.mpr ⟨fun X => zs_getf (T := TX5) (N := 7) (k := 5) X.1 X.2.2.2.2.2.1 uX5_in rfl (by decide) wm_317 rfl dX6_prefer_32 rfl,
  List.forall_mem_cons.mpr ⟨fun X => zs_istore_n X.1 dX6_prefer_35 rfl (Nat.le_of_ble_eq_true rfl) rfl,
  List.forall_mem_cons.mpr ⟨fun X => zs_aload_n X.1 dX6_prefer_36 rfl rfl,
  List.forall_mem_cons.mpr ⟨fun X => zs_getf (T := TX6) (N := 4) (k := 0) X.1 X.2.2.2.2.2.1 uX6_in rfl (by decide) wm_238 rfl dX6_prefer_37 rfl,
  List.forall_mem_cons.mpr ⟨fun X => zs_iload_n X.1 dX6_prefer_40 rfl rfl,
  List.forall_mem_cons.mpr ⟨fun X => zs_putf (T := TX5) (N := 7) (k := 5) X.1 X.2.2.2.2.2.1 uX5_in tyX5 tyX5_ok nmX5 rfl (by decide) wm_317 rfl rfl (tyX5_ok 5 (by decide)) dX6_prefer_41 rfl,
  List.forall_mem_cons.mpr ⟨fun X => zs_iload_n X.1 dX6_prefer_44 rfl rfl,
  List.forall_mem_cons.mpr ⟨fun X => zs_iret X.1 X.2.1 X.2.2.1 dX6_prefer_45,
  fun _ h9 => nomatch h9⟩⟩⟩⟩⟩⟩⟩⟩⟩⟩⟩⟩⟩⟩⟩⟩⟩⟩⟩
theorem zG_X6_prefer_0 : ∀ q ∈ zT_X6_prefer_0, zmono q.2 := List.forall_mem_cons.mpr ⟨zm_iload 1 1, List.forall_mem_cons.mpr ⟨zm_call 107 1 4, List.forall_mem_cons.mpr ⟨zm_ifne 17 7, List.forall_mem_cons.mpr ⟨zm_throw 2 (1, 6), List.forall_mem_cons.mpr ⟨zm_aload 0 18, List.forall_mem_cons.mpr ⟨zm_getf 6 1 21, List.forall_mem_cons.mpr ⟨zm_aload 0 22, List.forall_mem_cons.mpr ⟨zm_getf 6 0 25, List.forall_mem_cons.mpr ⟨zm_callv 3 43 2 28, List.forall_mem_cons.mpr ⟨zm_aload 0 29, List.forall_mem_cons.mpr ⟨zm_getf 6 0 32, List.forall_mem_cons.mpr ⟨zm_getf 5 5 35, List.forall_mem_cons.mpr ⟨zm_istore 2 36, List.forall_mem_cons.mpr ⟨zm_aload 0 37, List.forall_mem_cons.mpr ⟨zm_getf 6 0 40, List.forall_mem_cons.mpr ⟨zm_iload 1 41, List.forall_mem_cons.mpr ⟨zm_putf 5 5 .int 44, List.forall_mem_cons.mpr ⟨zm_iload 2 45, List.forall_mem_cons.mpr ⟨zm_iret, fun _ h9 => nomatch h9⟩⟩⟩⟩⟩⟩⟩⟩⟩⟩⟩⟩⟩⟩⟩⟩⟩⟩⟩
theorem zE_X6_prefer : ∀ L ∈ zT_X6_prefer, ∀ q ∈ L, zEnt yX6_prefer cX6_prefer 3 (some .int) [] { frames := 6, cells := 1, slots := 6, locals := 128 } q := List.forall_mem_cons.mpr ⟨zE_X6_prefer_0, fun _ h9 => nomatch h9⟩
theorem zG_X6_prefer : ∀ L ∈ zT_X6_prefer, ∀ q ∈ L, zmono q.2 := List.forall_mem_cons.mpr ⟨zG_X6_prefer_0, fun _ h9 => nomatch h9⟩
set_option maxRecDepth 100000 in
theorem zE_X6_open_0 : ∀ q ∈ zT_X6_open_0, zEnt yX6_open cX6_open 1 (some .int) [] { frames := 7, cells := 0, slots := 0, locals := 155 } q := List.forall_mem_cons.mpr ⟨fun X => zs_aload_n X.1 dX6_open_0 rfl rfl,
  List.forall_mem_cons.mpr ⟨fun X => zs_getf (T := TX6) (N := 4) (k := 2) X.1 X.2.2.2.2.2.1 uX6_in rfl (by decide) wm_249 rfl dX6_open_1 rfl,
  List.forall_mem_cons.mpr ⟨fun X => zs_aload_n X.1 dX6_open_4 rfl rfl,
  List.forall_mem_cons.mpr ⟨fun X => zs_getf (T := TX6) (N := 4) (k := 0) X.1 X.2.2.2.2.2.1 uX6_in rfl (by decide) wm_238 rfl dX6_open_5 rfl,
  List.forall_mem_cons.mpr ⟨fun X => zs_callV (Cn := RX4) X.1 zNw_ok (fun _ h9 => Or.inr h9) X.2.2.2.2.2.1 X.2.2.2.2.2.2.1 zcal_53 rfl ⟨rfl, rfl⟩ wm_299 rfl wm_300 wm_301 dX6_open_8 rfl,
  List.forall_mem_cons.mpr ⟨fun X => zs_aload_n X.1 dX6_open_11 rfl rfl,
  List.forall_mem_cons.mpr ⟨fun X => zs_getf (T := TX6) (N := 4) (k := 2) X.1 X.2.2.2.2.2.1 uX6_in rfl (by decide) wm_249 rfl dX6_open_12 rfl,
  List.forall_mem_cons.mpr ⟨fun X => zs_aload_n X.1 dX6_open_15 rfl rfl,
  List.forall_mem_cons.mpr ⟨fun X => zs_getf (T := TX6) (N := 4) (k := 0) X.1 X.2.2.2.2.2.1 uX6_in rfl (by decide) wm_238 rfl dX6_open_16 rfl,
  List.forall_mem_cons.mpr ⟨fun X => zs_callV (Cn := RX4) X.1 zNw_ok (fun _ h9 => Or.inr h9) X.2.2.2.2.2.1 X.2.2.2.2.2.2.1 zcal_52 rfl ⟨rfl, rfl⟩ wm_318 rfl wm_319 wm_320 dX6_open_19 rfl,
  List.forall_mem_cons.mpr ⟨fun X => zs_iret X.1 X.2.1 X.2.2.1 dX6_open_22,
  fun _ h9 => nomatch h9⟩⟩⟩⟩⟩⟩⟩⟩⟩⟩⟩
theorem zG_X6_open_0 : ∀ q ∈ zT_X6_open_0, zmono q.2 := List.forall_mem_cons.mpr ⟨zm_aload 0 1, List.forall_mem_cons.mpr ⟨zm_getf 6 2 4, List.forall_mem_cons.mpr ⟨zm_aload 0 5, List.forall_mem_cons.mpr ⟨zm_getf 6 0 8, List.forall_mem_cons.mpr ⟨zm_callv 4 53 2 11, List.forall_mem_cons.mpr ⟨zm_aload 0 12, List.forall_mem_cons.mpr ⟨zm_getf 6 2 15, List.forall_mem_cons.mpr ⟨zm_aload 0 16, List.forall_mem_cons.mpr ⟨zm_getf 6 0 19, List.forall_mem_cons.mpr ⟨zm_callv 4 52 2 22, List.forall_mem_cons.mpr ⟨zm_iret, fun _ h9 => nomatch h9⟩⟩⟩⟩⟩⟩⟩⟩⟩⟩⟩
theorem zE_X6_open : ∀ L ∈ zT_X6_open, ∀ q ∈ L, zEnt yX6_open cX6_open 1 (some .int) [] { frames := 7, cells := 0, slots := 0, locals := 155 } q := List.forall_mem_cons.mpr ⟨zE_X6_open_0, fun _ h9 => nomatch h9⟩
theorem zG_X6_open : ∀ L ∈ zT_X6_open, ∀ q ∈ L, zmono q.2 := List.forall_mem_cons.mpr ⟨zG_X6_open_0, fun _ h9 => nomatch h9⟩
set_option maxRecDepth 100000 in
theorem zE_X6_accept_0 : ∀ q ∈ zT_X6_accept_0, zEnt yX6_accept cX6_accept 1 (some .int) [] { frames := 7, cells := 1, slots := 6, locals := 155 } q := List.forall_mem_cons.mpr ⟨fun X => zs_aload_n X.1 dX6_accept_0 rfl rfl,
  List.forall_mem_cons.mpr ⟨fun X => zs_getf (T := TX6) (N := 4) (k := 2) X.1 X.2.2.2.2.2.1 uX6_in rfl (by decide) wm_249 rfl dX6_accept_1 rfl,
  List.forall_mem_cons.mpr ⟨fun X => zs_aload_n X.1 dX6_accept_4 rfl rfl,
  List.forall_mem_cons.mpr ⟨fun X => zs_getf (T := TX6) (N := 4) (k := 0) X.1 X.2.2.2.2.2.1 uX6_in rfl (by decide) wm_238 rfl dX6_accept_5 rfl,
  List.forall_mem_cons.mpr ⟨fun X => zs_callV (Cn := RX4) X.1 zNw_ok (fun _ h9 => Or.inr h9) X.2.2.2.2.2.1 X.2.2.2.2.2.2.1 zcal_53 rfl ⟨rfl, rfl⟩ wm_299 rfl wm_300 wm_301 dX6_accept_8 rfl,
  List.forall_mem_cons.mpr ⟨fun X => zs_aload_n X.1 dX6_accept_11 rfl rfl,
  List.forall_mem_cons.mpr ⟨fun X => zs_getf (T := TX6) (N := 4) (k := 2) X.1 X.2.2.2.2.2.1 uX6_in rfl (by decide) wm_249 rfl dX6_accept_12 rfl,
  List.forall_mem_cons.mpr ⟨fun X => zs_aload_n X.1 dX6_accept_15 rfl rfl,
  List.forall_mem_cons.mpr ⟨fun X => zs_getf (T := TX6) (N := 4) (k := 0) X.1 X.2.2.2.2.2.1 uX6_in rfl (by decide) wm_238 rfl dX6_accept_16 rfl,
  List.forall_mem_cons.mpr ⟨fun X => zs_callV (Cn := RX4) X.1 zNw_ok (fun _ h9 => Or.inr h9) X.2.2.2.2.2.1 X.2.2.2.2.2.2.1 zcal_52 rfl ⟨rfl, rfl⟩ wm_318 rfl wm_319 wm_320 dX6_accept_19 rfl,
  List.forall_mem_cons.mpr ⟨fun X => zs_ifgt X.1 dX6_accept_22 (by decide) rfl,
  List.forall_mem_cons.mpr ⟨fun X => zs_aload_n X.1 dX6_accept_25 rfl rfl,
  List.forall_mem_cons.mpr ⟨fun X => zs_getf (T := TX6) (N := 4) (k := 2) X.1 X.2.2.2.2.2.1 uX6_in rfl (by decide) wm_249 rfl dX6_accept_26 rfl,
  List.forall_mem_cons.mpr ⟨fun X => zs_getf (T := TX4) (N := 8) (k := 0) X.1 X.2.2.2.2.2.1 uX4_in rfl (by decide) wm_307 rfl dX6_accept_29 rfl,
  List.forall_mem_cons.mpr ⟨fun X => zs_getf (T := TX0) (N := 3) (k := 2) X.1 X.2.2.2.2.2.1 uX0_in rfl (by decide) wm_290 rfl dX6_accept_32 rfl,
  List.forall_mem_cons.mpr ⟨fun X => zs_bipush X.1 dX6_accept_35 (by decide) rfl,
  List.forall_mem_cons.mpr ⟨fun X => zs_icmple X.1 dX6_accept_37 (by decide) rfl,
  List.forall_mem_cons.mpr ⟨fun X => zs_throw (x := 1) (text := "an open conflict, or too many blocks") X.1 X.2.2.2.2.2.2.1 X.2.2.2.2.2.2.2 X.2.2.1 (by decide) thr_1_52_56 (by decide +kernel) X.2.2.2.2.1 (Nat.le_of_ble_eq_true rfl) (Nat.le_of_ble_eq_true rfl) dX6_accept_40 dX6_accept_43 dX6_accept_44 dX6_accept_46 dX6_accept_49,
  List.forall_mem_cons.mpr ⟨fun X => zs_aload_n X.1 dX6_accept_50 rfl rfl,
  List.forall_mem_cons.mpr ⟨fun X => zs_getf (T := TX6) (N := 4) (k := 1) X.1 X.2.2.2.2.2.1 uX6_in rfl (by decide) wm_244 rfl dX6_accept_51 rfl,
  List.forall_mem_cons.mpr ⟨fun X => zs_aload_n X.1 dX6_accept_54 rfl rfl,
  List.forall_mem_cons.mpr ⟨fun X => zs_getf (T := TX6) (N := 4) (k := 0) X.1 X.2.2.2.2.2.1 uX6_in rfl (by decide) wm_238 rfl dX6_accept_55 rfl,
  List.forall_mem_cons.mpr ⟨fun X => zs_callV (Cn := RX3) X.1 zNw_ok (fun _ h9 => Or.inr h9) X.2.2.2.2.2.1 X.2.2.2.2.2.2.1 zcal_43 rfl ⟨rfl, rfl⟩ wm_260 rfl wm_261 wm_262 dX6_accept_58 rfl,
  List.forall_mem_cons.mpr ⟨fun X => zs_aload_n X.1 dX6_accept_61 rfl rfl,
  List.forall_mem_cons.mpr ⟨fun X => zs_getf (T := TX6) (N := 4) (k := 0) X.1 X.2.2.2.2.2.1 uX6_in rfl (by decide) wm_238 rfl dX6_accept_62 rfl,
  fun _ h9 => nomatch h9⟩⟩⟩⟩⟩⟩⟩⟩⟩⟩⟩⟩⟩⟩⟩⟩⟩⟩⟩⟩⟩⟩⟩⟩⟩
theorem zG_X6_accept_0 : ∀ q ∈ zT_X6_accept_0, zmono q.2 := List.forall_mem_cons.mpr ⟨zm_aload 0 1, List.forall_mem_cons.mpr ⟨zm_getf 6 2 4, List.forall_mem_cons.mpr ⟨zm_aload 0 5, List.forall_mem_cons.mpr ⟨zm_getf 6 0 8, List.forall_mem_cons.mpr ⟨zm_callv 4 53 2 11, List.forall_mem_cons.mpr ⟨zm_aload 0 12, List.forall_mem_cons.mpr ⟨zm_getf 6 2 15, List.forall_mem_cons.mpr ⟨zm_aload 0 16, List.forall_mem_cons.mpr ⟨zm_getf 6 0 19, List.forall_mem_cons.mpr ⟨zm_callv 4 52 2 22, List.forall_mem_cons.mpr ⟨zm_ifgt 40 25, List.forall_mem_cons.mpr ⟨zm_aload 0 26, List.forall_mem_cons.mpr ⟨zm_getf 6 2 29, List.forall_mem_cons.mpr ⟨zm_getf 4 0 32, List.forall_mem_cons.mpr ⟨zm_getf 0 2 35, List.forall_mem_cons.mpr ⟨zm_iconst 10 37, List.forall_mem_cons.mpr ⟨zm_icmple 50 40, List.forall_mem_cons.mpr ⟨zm_throw 1 (1, 6), List.forall_mem_cons.mpr ⟨zm_aload 0 51, List.forall_mem_cons.mpr ⟨zm_getf 6 1 54, List.forall_mem_cons.mpr ⟨zm_aload 0 55, List.forall_mem_cons.mpr ⟨zm_getf 6 0 58, List.forall_mem_cons.mpr ⟨zm_callv 3 43 2 61, List.forall_mem_cons.mpr ⟨zm_aload 0 62, List.forall_mem_cons.mpr ⟨zm_getf 6 0 65, fun _ h9 => nomatch h9⟩⟩⟩⟩⟩⟩⟩⟩⟩⟩⟩⟩⟩⟩⟩⟩⟩⟩⟩⟩⟩⟩⟩⟩⟩
set_option maxRecDepth 100000 in
theorem zE_X6_accept_1 : ∀ q ∈ zT_X6_accept_1, zEnt yX6_accept cX6_accept 1 (some .int) [] { frames := 7, cells := 1, slots := 6, locals := 155 } q := List.forall_mem_cons.mpr ⟨fun X => zs_aload_n X.1 dX6_accept_65 rfl rfl,
  List.forall_mem_cons.mpr ⟨fun X => zs_getf (T := TX6) (N := 4) (k := 2) X.1 X.2.2.2.2.2.1 uX6_in rfl (by decide) wm_249 rfl dX6_accept_66 rfl,
  List.forall_mem_cons.mpr ⟨fun X => zs_getf (T := TX4) (N := 8) (k := 0) X.1 X.2.2.2.2.2.1 uX4_in rfl (by decide) wm_307 rfl dX6_accept_69 rfl,
  List.forall_mem_cons.mpr ⟨fun X => zs_callV (Cn := RX5) X.1 zNw_ok (fun _ h9 => Or.inr h9) X.2.2.2.2.2.1 X.2.2.2.2.2.2.1 zcal_72 rfl ⟨rfl, rfl⟩ wm_321 rfl wm_322 wm_323 dX6_accept_72 rfl,
  List.forall_mem_cons.mpr ⟨fun X => zs_aload_n X.1 dX6_accept_75 rfl rfl,
  List.forall_mem_cons.mpr ⟨fun X => zs_getf (T := TX6) (N := 4) (k := 0) X.1 X.2.2.2.2.2.1 uX6_in rfl (by decide) wm_238 rfl dX6_accept_76 rfl,
  List.forall_mem_cons.mpr ⟨fun X => zs_getf (T := TX5) (N := 7) (k := 0) X.1 X.2.2.2.2.2.1 uX5_in rfl (by decide) wm_289 rfl dX6_accept_79 rfl,
  List.forall_mem_cons.mpr ⟨fun X => zs_getf (T := TX0) (N := 3) (k := 2) X.1 X.2.2.2.2.2.1 uX0_in rfl (by decide) wm_290 rfl dX6_accept_82 rfl,
  List.forall_mem_cons.mpr ⟨fun X => zs_iret X.1 X.2.1 X.2.2.1 dX6_accept_85,
  fun _ h9 => nomatch h9⟩⟩⟩⟩⟩⟩⟩⟩⟩
theorem zG_X6_accept_1 : ∀ q ∈ zT_X6_accept_1, zmono q.2 := List.forall_mem_cons.mpr ⟨zm_aload 0 66, List.forall_mem_cons.mpr ⟨zm_getf 6 2 69, List.forall_mem_cons.mpr ⟨zm_getf 4 0 72, List.forall_mem_cons.mpr ⟨zm_callv 5 72 2 75, List.forall_mem_cons.mpr ⟨zm_aload 0 76, List.forall_mem_cons.mpr ⟨zm_getf 6 0 79, List.forall_mem_cons.mpr ⟨zm_getf 5 0 82, List.forall_mem_cons.mpr ⟨zm_getf 0 2 85, List.forall_mem_cons.mpr ⟨zm_iret, fun _ h9 => nomatch h9⟩⟩⟩⟩⟩⟩⟩⟩⟩
theorem zE_X6_accept : ∀ L ∈ zT_X6_accept, ∀ q ∈ L, zEnt yX6_accept cX6_accept 1 (some .int) [] { frames := 7, cells := 1, slots := 6, locals := 155 } q := List.forall_mem_cons.mpr ⟨zE_X6_accept_0, List.forall_mem_cons.mpr ⟨zE_X6_accept_1, fun _ h9 => nomatch h9⟩⟩
theorem zG_X6_accept : ∀ L ∈ zT_X6_accept, ∀ q ∈ L, zmono q.2 := List.forall_mem_cons.mpr ⟨zG_X6_accept_0, List.forall_mem_cons.mpr ⟨zG_X6_accept_1, fun _ h9 => nomatch h9⟩⟩
set_option maxRecDepth 100000 in
theorem zE_X6_accepted_0 : ∀ q ∈ zT_X6_accepted_0, zEnt yX6_accepted cX6_accepted 1 (some .int) [] { frames := 0, cells := 0, slots := 0, locals := 0 } q := List.forall_mem_cons.mpr ⟨fun X => zs_aload_n X.1 dX6_accepted_0 rfl rfl,
  List.forall_mem_cons.mpr ⟨fun X => zs_getf (T := TX6) (N := 4) (k := 0) X.1 X.2.2.2.2.2.1 uX6_in rfl (by decide) wm_238 rfl dX6_accepted_1 rfl,
  List.forall_mem_cons.mpr ⟨fun X => zs_getf (T := TX5) (N := 7) (k := 6) X.1 X.2.2.2.2.2.1 uX5_in rfl (by decide) wm_324 rfl dX6_accepted_4 rfl,
  List.forall_mem_cons.mpr ⟨fun X => zs_iret X.1 X.2.1 X.2.2.1 dX6_accepted_7,
  fun _ h9 => nomatch h9⟩⟩⟩⟩
theorem zG_X6_accepted_0 : ∀ q ∈ zT_X6_accepted_0, zmono q.2 := List.forall_mem_cons.mpr ⟨zm_aload 0 1, List.forall_mem_cons.mpr ⟨zm_getf 6 0 4, List.forall_mem_cons.mpr ⟨zm_getf 5 6 7, List.forall_mem_cons.mpr ⟨zm_iret, fun _ h9 => nomatch h9⟩⟩⟩⟩
theorem zE_X6_accepted : ∀ L ∈ zT_X6_accepted, ∀ q ∈ L, zEnt yX6_accepted cX6_accepted 1 (some .int) [] { frames := 0, cells := 0, slots := 0, locals := 0 } q := List.forall_mem_cons.mpr ⟨zE_X6_accepted_0, fun _ h9 => nomatch h9⟩
theorem zG_X6_accepted : ∀ L ∈ zT_X6_accepted, ∀ q ∈ L, zmono q.2 := List.forall_mem_cons.mpr ⟨zG_X6_accepted_0, fun _ h9 => nomatch h9⟩
set_option maxRecDepth 100000 in
theorem zE_X6_similarity_0 : ∀ q ∈ zT_X6_similarity_0, zEnt yX6_similarity cX6_similarity 4 (some .double) [] { frames := 7, cells := 1, slots := 6, locals := 155 } q := List.forall_mem_cons.mpr ⟨fun X => zs_iload_n X.1 dX6_similarity_0 rfl rfl,
  List.forall_mem_cons.mpr ⟨fun X => zs_callS X.1 zNw_ok (fun _ h9 => Or.inr h9) X.2.2.2.2.2.1 X.2.2.2.2.2.2.1 zcal_107 rfl ⟨rfl, rfl⟩ wm_291 wm_292 dX6_similarity_1 rfl,
  List.forall_mem_cons.mpr ⟨fun X => zs_ifne X.1 dX6_similarity_4 (by decide) rfl,
  List.forall_mem_cons.mpr ⟨fun X => zs_throw (x := 2) (text := "no such draft") X.1 X.2.2.2.2.2.2.1 X.2.2.2.2.2.2.2 X.2.2.1 (by decide) thr_2_69_73 (by decide +kernel) X.2.2.2.2.1 (Nat.le_of_ble_eq_true rfl) (Nat.le_of_ble_eq_true rfl) dX6_similarity_7 dX6_similarity_10 dX6_similarity_11 dX6_similarity_13 dX6_similarity_16,
  List.forall_mem_cons.mpr ⟨fun X => zs_aload_n X.1 dX6_similarity_17 rfl rfl,
  List.forall_mem_cons.mpr ⟨fun X => zs_getf (T := TX6) (N := 4) (k := 2) X.1 X.2.2.2.2.2.1 uX6_in rfl (by decide) wm_249 rfl dX6_similarity_18 rfl,
  List.forall_mem_cons.mpr ⟨fun X => zs_aload_n X.1 dX6_similarity_21 rfl rfl,
  List.forall_mem_cons.mpr ⟨fun X => zs_getf (T := TX6) (N := 4) (k := 0) X.1 X.2.2.2.2.2.1 uX6_in rfl (by decide) wm_238 rfl dX6_similarity_22 rfl,
  List.forall_mem_cons.mpr ⟨fun X => zs_callV (Cn := RX4) X.1 zNw_ok (fun _ h9 => Or.inr h9) X.2.2.2.2.2.1 X.2.2.2.2.2.2.1 zcal_53 rfl ⟨rfl, rfl⟩ wm_299 rfl wm_300 wm_301 dX6_similarity_25 rfl,
  List.forall_mem_cons.mpr ⟨fun X => zs_aload_n X.1 dX6_similarity_28 rfl rfl,
  List.forall_mem_cons.mpr ⟨fun X => zs_getf (T := TX6) (N := 4) (k := 0) X.1 X.2.2.2.2.2.1 uX6_in rfl (by decide) wm_238 rfl dX6_similarity_29 rfl,
  List.forall_mem_cons.mpr ⟨fun X => zs_iload_n X.1 dX6_similarity_32 rfl rfl,
  List.forall_mem_cons.mpr ⟨fun X => zs_callV (Cn := RX5) X.1 zNw_ok (fun _ h9 => Or.inr h9) X.2.2.2.2.2.1 X.2.2.2.2.2.2.1 zcal_63 rfl ⟨rfl, rfl⟩ wm_269 rfl wm_189 wm_190 dX6_similarity_33 rfl,
  List.forall_mem_cons.mpr ⟨fun X => zs_astore_n X.1 dX6_similarity_36 rfl (Nat.le_of_ble_eq_true rfl) rfl,
  List.forall_mem_cons.mpr ⟨fun X => zs_aload_n X.1 dX6_similarity_37 rfl rfl,
  List.forall_mem_cons.mpr ⟨fun X => zs_getf (T := TX6) (N := 4) (k := 2) X.1 X.2.2.2.2.2.1 uX6_in rfl (by decide) wm_249 rfl dX6_similarity_38 rfl,
  List.forall_mem_cons.mpr ⟨fun X => zs_getf (T := TX4) (N := 8) (k := 0) X.1 X.2.2.2.2.2.1 uX4_in rfl (by decide) wm_307 rfl dX6_similarity_41 rfl,
  List.forall_mem_cons.mpr ⟨fun X => zs_getf (T := TX0) (N := 3) (k := 2) X.1 X.2.2.2.2.2.1 uX0_in rfl (by decide) wm_290 rfl dX6_similarity_44 rfl,
  List.forall_mem_cons.mpr ⟨fun X => zs_aload_n X.1 dX6_similarity_47 rfl rfl,
  List.forall_mem_cons.mpr ⟨fun X => zs_getf (T := TX0) (N := 3) (k := 2) X.1 X.2.2.2.2.2.1 uX0_in rfl (by decide) wm_290 rfl dX6_similarity_48 rfl,
  List.forall_mem_cons.mpr ⟨fun X => zs_iadd X.1 dX6_similarity_51 rfl,
  List.forall_mem_cons.mpr ⟨fun X => zs_aload_n X.1 dX6_similarity_52 rfl rfl,
  List.forall_mem_cons.mpr ⟨fun X => zs_getf (T := TX6) (N := 4) (k := 2) X.1 X.2.2.2.2.2.1 uX6_in rfl (by decide) wm_249 rfl dX6_similarity_53 rfl,
  List.forall_mem_cons.mpr ⟨fun X => zs_getf (T := TX4) (N := 8) (k := 0) X.1 X.2.2.2.2.2.1 uX4_in rfl (by decide) wm_307 rfl dX6_similarity_56 rfl,
  List.forall_mem_cons.mpr ⟨fun X => zs_aload_n X.1 dX6_similarity_59 rfl rfl,
  List.forall_mem_cons.mpr ⟨fun X => zs_iconst X.1 dX6_similarity_60 (by decide) rfl,
  List.forall_mem_cons.mpr ⟨fun X => zs_callV (Cn := RX0) X.1 zNw_ok (fun _ h9 => Or.inr h9) X.2.2.2.2.2.1 X.2.2.2.2.2.2.1 zcal_15 rfl ⟨rfl, rfl⟩ wm_325 rfl wm_326 wm_327 dX6_similarity_61 rfl,
  fun _ h9 => nomatch h9⟩⟩⟩⟩⟩⟩⟩⟩⟩⟩⟩⟩⟩⟩⟩⟩⟩⟩⟩⟩⟩⟩⟩⟩⟩⟩⟩
theorem zG_X6_similarity_0 : ∀ q ∈ zT_X6_similarity_0, zmono q.2 := List.forall_mem_cons.mpr ⟨zm_iload 1 1, List.forall_mem_cons.mpr ⟨zm_call 107 1 4, List.forall_mem_cons.mpr ⟨zm_ifne 17 7, List.forall_mem_cons.mpr ⟨zm_throw 2 (1, 6), List.forall_mem_cons.mpr ⟨zm_aload 0 18, List.forall_mem_cons.mpr ⟨zm_getf 6 2 21, List.forall_mem_cons.mpr ⟨zm_aload 0 22, List.forall_mem_cons.mpr ⟨zm_getf 6 0 25, List.forall_mem_cons.mpr ⟨zm_callv 4 53 2 28, List.forall_mem_cons.mpr ⟨zm_aload 0 29, List.forall_mem_cons.mpr ⟨zm_getf 6 0 32, List.forall_mem_cons.mpr ⟨zm_iload 1 33, List.forall_mem_cons.mpr ⟨zm_callv 5 63 2 36, List.forall_mem_cons.mpr ⟨zm_astore 2 37, List.forall_mem_cons.mpr ⟨zm_aload 0 38, List.forall_mem_cons.mpr ⟨zm_getf 6 2 41, List.forall_mem_cons.mpr ⟨zm_getf 4 0 44, List.forall_mem_cons.mpr ⟨zm_getf 0 2 47, List.forall_mem_cons.mpr ⟨zm_aload 2 48, List.forall_mem_cons.mpr ⟨zm_getf 0 2 51, List.forall_mem_cons.mpr ⟨zm_iadd 52, List.forall_mem_cons.mpr ⟨zm_aload 0 53, List.forall_mem_cons.mpr ⟨zm_getf 6 2 56, List.forall_mem_cons.mpr ⟨zm_getf 4 0 59, List.forall_mem_cons.mpr ⟨zm_aload 2 60, List.forall_mem_cons.mpr ⟨zm_iconst 0 61, List.forall_mem_cons.mpr ⟨zm_callv 0 15 3 64, fun _ h9 => nomatch h9⟩⟩⟩⟩⟩⟩⟩⟩⟩⟩⟩⟩⟩⟩⟩⟩⟩⟩⟩⟩⟩⟩⟩⟩⟩⟩⟩
set_option maxRecDepth 100000 in
theorem zE_X6_similarity_1 : ∀ q ∈ zT_X6_similarity_1, zEnt yX6_similarity cX6_similarity 4 (some .double) [] { frames := 7, cells := 1, slots := 6, locals := 155 } q := List.forall_mem_cons.mpr ⟨fun X => zs_isub X.1 dX6_similarity_64 rfl,
  List.forall_mem_cons.mpr ⟨fun X => zs_istore_n X.1 dX6_similarity_65 rfl (Nat.le_of_ble_eq_true rfl) rfl,
  List.forall_mem_cons.mpr ⟨fun X => zs_iload_n X.1 dX6_similarity_66 rfl rfl,
  List.forall_mem_cons.mpr ⟨fun X => zs_ifgt X.1 dX6_similarity_67 (by decide) rfl,
  List.forall_mem_cons.mpr ⟨fun X => zs_dconst1 X.1 dX6_similarity_70 rfl,
  List.forall_mem_cons.mpr ⟨fun X => zs_dret X.1 X.2.1 X.2.2.1 dX6_similarity_71,
  List.forall_mem_cons.mpr ⟨fun X => zs_aload_n X.1 dX6_similarity_72 rfl rfl,
  List.forall_mem_cons.mpr ⟨fun X => zs_getf (T := TX6) (N := 4) (k := 2) X.1 X.2.2.2.2.2.1 uX6_in rfl (by decide) wm_249 rfl dX6_similarity_73 rfl,
  List.forall_mem_cons.mpr ⟨fun X => zs_getf (T := TX4) (N := 8) (k := 0) X.1 X.2.2.2.2.2.1 uX4_in rfl (by decide) wm_307 rfl dX6_similarity_76 rfl,
  List.forall_mem_cons.mpr ⟨fun X => zs_aload_n X.1 dX6_similarity_79 rfl rfl,
  List.forall_mem_cons.mpr ⟨fun X => zs_iconst X.1 dX6_similarity_80 (by decide) rfl,
  List.forall_mem_cons.mpr ⟨fun X => zs_callV (Cn := RX0) X.1 zNw_ok (fun _ h9 => Or.inr h9) X.2.2.2.2.2.1 X.2.2.2.2.2.2.1 zcal_15 rfl ⟨rfl, rfl⟩ wm_325 rfl wm_326 wm_327 dX6_similarity_81 rfl,
  List.forall_mem_cons.mpr ⟨fun X => zs_i2d X.1 dX6_similarity_84 rfl,
  List.forall_mem_cons.mpr ⟨fun X => zs_iload_n X.1 dX6_similarity_85 rfl rfl,
  List.forall_mem_cons.mpr ⟨fun X => zs_i2d X.1 dX6_similarity_86 rfl,
  List.forall_mem_cons.mpr ⟨fun X => zs_ddiv X.1 dX6_similarity_87 rfl,
  List.forall_mem_cons.mpr ⟨fun X => zs_dret X.1 X.2.1 X.2.2.1 dX6_similarity_88,
  fun _ h9 => nomatch h9⟩⟩⟩⟩⟩⟩⟩⟩⟩⟩⟩⟩⟩⟩⟩⟩⟩
theorem zG_X6_similarity_1 : ∀ q ∈ zT_X6_similarity_1, zmono q.2 := List.forall_mem_cons.mpr ⟨zm_isub 65, List.forall_mem_cons.mpr ⟨zm_istore 3 66, List.forall_mem_cons.mpr ⟨zm_iload 3 67, List.forall_mem_cons.mpr ⟨zm_ifgt 72 70, List.forall_mem_cons.mpr ⟨zm_dconst FP.dconst1 71, List.forall_mem_cons.mpr ⟨zm_dret, List.forall_mem_cons.mpr ⟨zm_aload 0 73, List.forall_mem_cons.mpr ⟨zm_getf 6 2 76, List.forall_mem_cons.mpr ⟨zm_getf 4 0 79, List.forall_mem_cons.mpr ⟨zm_aload 2 80, List.forall_mem_cons.mpr ⟨zm_iconst 1 81, List.forall_mem_cons.mpr ⟨zm_callv 0 15 3 84, List.forall_mem_cons.mpr ⟨zm_i2d 85, List.forall_mem_cons.mpr ⟨zm_iload 3 86, List.forall_mem_cons.mpr ⟨zm_i2d 87, List.forall_mem_cons.mpr ⟨zm_ddiv 88, List.forall_mem_cons.mpr ⟨zm_dret, fun _ h9 => nomatch h9⟩⟩⟩⟩⟩⟩⟩⟩⟩⟩⟩⟩⟩⟩⟩⟩⟩
theorem zE_X6_similarity : ∀ L ∈ zT_X6_similarity, ∀ q ∈ L, zEnt yX6_similarity cX6_similarity 4 (some .double) [] { frames := 7, cells := 1, slots := 6, locals := 155 } q := List.forall_mem_cons.mpr ⟨zE_X6_similarity_0, List.forall_mem_cons.mpr ⟨zE_X6_similarity_1, fun _ h9 => nomatch h9⟩⟩
theorem zG_X6_similarity : ∀ L ∈ zT_X6_similarity, ∀ q ∈ L, zmono q.2 := List.forall_mem_cons.mpr ⟨zG_X6_similarity_0, List.forall_mem_cons.mpr ⟨zG_X6_similarity_1, fun _ h9 => nomatch h9⟩⟩
set_option maxRecDepth 100000 in
theorem zE_X6_append_0 : ∀ q ∈ zT_X6_append_0, zEnt yX6_append cX6_append 2 (some .int) [] { frames := 6, cells := 1, slots := 6, locals := 82 } q := List.forall_mem_cons.mpr ⟨fun X => zs_iload_n X.1 dX6_append_0 rfl rfl,
  List.forall_mem_cons.mpr ⟨fun X => zs_bipush X.1 dX6_append_1 (by decide) rfl,
  List.forall_mem_cons.mpr ⟨fun X => zs_icmplt X.1 dX6_append_3 (by decide) rfl,
  List.forall_mem_cons.mpr ⟨fun X => zs_iload_n X.1 dX6_append_6 rfl rfl,
  List.forall_mem_cons.mpr ⟨fun X => zs_bipush X.1 dX6_append_7 (by decide) rfl,
  List.forall_mem_cons.mpr ⟨fun X => zs_icmple X.1 dX6_append_9 (by decide) rfl,
  List.forall_mem_cons.mpr ⟨fun X => zs_throw (x := 0) (text := "code is out of range") X.1 X.2.2.2.2.2.2.1 X.2.2.2.2.2.2.2 X.2.2.1 (by decide) thr_0_41_45 (by decide +kernel) X.2.2.2.2.1 (Nat.le_of_ble_eq_true rfl) (Nat.le_of_ble_eq_true rfl) dX6_append_12 dX6_append_15 dX6_append_16 dX6_append_18 dX6_append_21,
  List.forall_mem_cons.mpr ⟨fun X => zs_aload_n X.1 dX6_append_22 rfl rfl,
  List.forall_mem_cons.mpr ⟨fun X => zs_getf (T := TX6) (N := 4) (k := 3) X.1 X.2.2.2.2.2.1 uX6_in rfl (by decide) wm_254 rfl dX6_append_23 rfl,
  List.forall_mem_cons.mpr ⟨fun X => zs_getf (T := TX1) (N := 7) (k := 1) X.1 X.2.2.2.2.2.1 uX1_in rfl (by decide) wm_328 rfl dX6_append_26 rfl,
  List.forall_mem_cons.mpr ⟨fun X => zs_bipush X.1 dX6_append_29 (by decide) rfl,
  List.forall_mem_cons.mpr ⟨fun X => zs_icmplt X.1 dX6_append_31 (by decide) rfl,
  List.forall_mem_cons.mpr ⟨fun X => zs_throw (x := 1) (text := "the buffer is full") X.1 X.2.2.2.2.2.2.1 X.2.2.2.2.2.2.2 X.2.2.1 (by decide) thr_1_52_56 (by decide +kernel) X.2.2.2.2.1 (Nat.le_of_ble_eq_true rfl) (Nat.le_of_ble_eq_true rfl) dX6_append_34 dX6_append_37 dX6_append_38 dX6_append_40 dX6_append_43,
  List.forall_mem_cons.mpr ⟨fun X => zs_aload_n X.1 dX6_append_44 rfl rfl,
  List.forall_mem_cons.mpr ⟨fun X => zs_getf (T := TX6) (N := 4) (k := 3) X.1 X.2.2.2.2.2.1 uX6_in rfl (by decide) wm_254 rfl dX6_append_45 rfl,
  List.forall_mem_cons.mpr ⟨fun X => zs_iload_n X.1 dX6_append_48 rfl rfl,
  List.forall_mem_cons.mpr ⟨fun X => zs_callV (Cn := RX1) X.1 zNw_ok (fun _ h9 => Or.inr h9) X.2.2.2.2.2.1 X.2.2.2.2.2.2.1 zcal_18 rfl ⟨rfl, rfl⟩ wm_329 rfl wm_330 wm_331 dX6_append_49 rfl,
  List.forall_mem_cons.mpr ⟨fun X => zs_iret X.1 X.2.1 X.2.2.1 dX6_append_52,
  fun _ h9 => nomatch h9⟩⟩⟩⟩⟩⟩⟩⟩⟩⟩⟩⟩⟩⟩⟩⟩⟩⟩
theorem zG_X6_append_0 : ∀ q ∈ zT_X6_append_0, zmono q.2 := List.forall_mem_cons.mpr ⟨zm_iload 1 1, List.forall_mem_cons.mpr ⟨zm_iconst 33 3, List.forall_mem_cons.mpr ⟨zm_icmplt 12 6, List.forall_mem_cons.mpr ⟨zm_iload 1 7, List.forall_mem_cons.mpr ⟨zm_iconst 126 9, List.forall_mem_cons.mpr ⟨zm_icmple 22 12, List.forall_mem_cons.mpr ⟨zm_throw 0 (1, 6), List.forall_mem_cons.mpr ⟨zm_aload 0 23, List.forall_mem_cons.mpr ⟨zm_getf 6 3 26, List.forall_mem_cons.mpr ⟨zm_getf 1 1 29, List.forall_mem_cons.mpr ⟨zm_iconst 60 31, List.forall_mem_cons.mpr ⟨zm_icmplt 44 34, List.forall_mem_cons.mpr ⟨zm_throw 1 (1, 6), List.forall_mem_cons.mpr ⟨zm_aload 0 45, List.forall_mem_cons.mpr ⟨zm_getf 6 3 48, List.forall_mem_cons.mpr ⟨zm_iload 1 49, List.forall_mem_cons.mpr ⟨zm_callv 1 18 2 52, List.forall_mem_cons.mpr ⟨zm_iret, fun _ h9 => nomatch h9⟩⟩⟩⟩⟩⟩⟩⟩⟩⟩⟩⟩⟩⟩⟩⟩⟩⟩
theorem zE_X6_append : ∀ L ∈ zT_X6_append, ∀ q ∈ L, zEnt yX6_append cX6_append 2 (some .int) [] { frames := 6, cells := 1, slots := 6, locals := 82 } q := List.forall_mem_cons.mpr ⟨zE_X6_append_0, fun _ h9 => nomatch h9⟩
theorem zG_X6_append : ∀ L ∈ zT_X6_append, ∀ q ∈ L, zmono q.2 := List.forall_mem_cons.mpr ⟨zG_X6_append_0, fun _ h9 => nomatch h9⟩
set_option maxRecDepth 100000 in
theorem zE_X6_clearText_0 : ∀ q ∈ zT_X6_clearText_0, zEnt yX6_clearText cX6_clearText 1 (some .int) [] { frames := 1, cells := 0, slots := 0, locals := 21 } q := List.forall_mem_cons.mpr ⟨fun X => zs_aload_n X.1 dX6_clearText_0 rfl rfl,
  List.forall_mem_cons.mpr ⟨fun X => zs_getf (T := TX6) (N := 4) (k := 3) X.1 X.2.2.2.2.2.1 uX6_in rfl (by decide) wm_254 rfl dX6_clearText_1 rfl,
  List.forall_mem_cons.mpr ⟨fun X => zs_callV (Cn := RX1) X.1 zNw_ok (fun _ h9 => Or.inr h9) X.2.2.2.2.2.1 X.2.2.2.2.2.2.1 zcal_19 rfl ⟨rfl, rfl⟩ wm_332 rfl wm_333 wm_334 dX6_clearText_4 rfl,
  List.forall_mem_cons.mpr ⟨fun X => zs_iret X.1 X.2.1 X.2.2.1 dX6_clearText_7,
  fun _ h9 => nomatch h9⟩⟩⟩⟩
theorem zG_X6_clearText_0 : ∀ q ∈ zT_X6_clearText_0, zmono q.2 := List.forall_mem_cons.mpr ⟨zm_aload 0 1, List.forall_mem_cons.mpr ⟨zm_getf 6 3 4, List.forall_mem_cons.mpr ⟨zm_callv 1 19 1 7, List.forall_mem_cons.mpr ⟨zm_iret, fun _ h9 => nomatch h9⟩⟩⟩⟩
theorem zE_X6_clearText : ∀ L ∈ zT_X6_clearText, ∀ q ∈ L, zEnt yX6_clearText cX6_clearText 1 (some .int) [] { frames := 1, cells := 0, slots := 0, locals := 21 } q := List.forall_mem_cons.mpr ⟨zE_X6_clearText_0, fun _ h9 => nomatch h9⟩
theorem zG_X6_clearText : ∀ L ∈ zT_X6_clearText, ∀ q ∈ L, zmono q.2 := List.forall_mem_cons.mpr ⟨zG_X6_clearText_0, fun _ h9 => nomatch h9⟩
set_option maxRecDepth 100000 in
theorem zE_X6_firstError_0 : ∀ q ∈ zT_X6_firstError_0, zEnt yX6_firstError cX6_firstError 1 (some .int) [] { frames := 4, cells := 0, slots := 0, locals := 87 } q := List.forall_mem_cons.mpr ⟨fun X => zs_aload_n X.1 dX6_firstError_0 rfl rfl,
  List.forall_mem_cons.mpr ⟨fun X => zs_getf (T := TX6) (N := 4) (k := 3) X.1 X.2.2.2.2.2.1 uX6_in rfl (by decide) wm_254 rfl dX6_firstError_1 rfl,
  List.forall_mem_cons.mpr ⟨fun X => zs_callV (Cn := RX1) X.1 zNw_ok (fun _ h9 => Or.inr h9) X.2.2.2.2.2.1 X.2.2.2.2.2.2.1 zcal_20 rfl ⟨rfl, rfl⟩ wm_335 rfl wm_52 wm_53 dX6_firstError_4 rfl,
  List.forall_mem_cons.mpr ⟨fun X => zs_iret X.1 X.2.1 X.2.2.1 dX6_firstError_7,
  fun _ h9 => nomatch h9⟩⟩⟩⟩
theorem zG_X6_firstError_0 : ∀ q ∈ zT_X6_firstError_0, zmono q.2 := List.forall_mem_cons.mpr ⟨zm_aload 0 1, List.forall_mem_cons.mpr ⟨zm_getf 6 3 4, List.forall_mem_cons.mpr ⟨zm_callv 1 20 1 7, List.forall_mem_cons.mpr ⟨zm_iret, fun _ h9 => nomatch h9⟩⟩⟩⟩
theorem zE_X6_firstError : ∀ L ∈ zT_X6_firstError, ∀ q ∈ L, zEnt yX6_firstError cX6_firstError 1 (some .int) [] { frames := 4, cells := 0, slots := 0, locals := 87 } q := List.forall_mem_cons.mpr ⟨zE_X6_firstError_0, fun _ h9 => nomatch h9⟩
theorem zG_X6_firstError : ∀ L ∈ zT_X6_firstError, ∀ q ∈ L, zmono q.2 := List.forall_mem_cons.mpr ⟨zG_X6_firstError_0, fun _ h9 => nomatch h9⟩
set_option maxRecDepth 100000 in
theorem zE_X6_run_0 : ∀ q ∈ zT_X6_run_0, zEnt yX6_run cX6_run 2 (some .int) [] { frames := 6, cells := 1, slots := 6, locals := 135 } q := List.forall_mem_cons.mpr ⟨fun X => zs_aload_n X.1 dX6_run_0 rfl rfl,
  List.forall_mem_cons.mpr ⟨fun X => zs_getf (T := TX6) (N := 4) (k := 3) X.1 X.2.2.2.2.2.1 uX6_in rfl (by decide) wm_254 rfl dX6_run_1 rfl,
  List.forall_mem_cons.mpr ⟨fun X => zs_callV (Cn := RX1) X.1 zNw_ok (fun _ h9 => Or.inr h9) X.2.2.2.2.2.1 X.2.2.2.2.2.2.1 zcal_21 rfl ⟨rfl, rfl⟩ wm_336 rfl wm_337 wm_338 dX6_run_4 rfl,
  List.forall_mem_cons.mpr ⟨fun X => zs_ifne X.1 dX6_run_7 (by decide) rfl,
  List.forall_mem_cons.mpr ⟨fun X => zs_throw (x := 0) (text := "the buffer is not a complete command text") X.1 X.2.2.2.2.2.2.1 X.2.2.2.2.2.2.2 X.2.2.1 (by decide) thr_0_41_45 (by decide +kernel) X.2.2.2.2.1 (Nat.le_of_ble_eq_true rfl) (Nat.le_of_ble_eq_true rfl) dX6_run_10 dX6_run_13 dX6_run_14 dX6_run_16 dX6_run_19,
  List.forall_mem_cons.mpr ⟨fun X => zs_aload_n X.1 dX6_run_20 rfl rfl,
  List.forall_mem_cons.mpr ⟨fun X => zs_getf (T := TX6) (N := 4) (k := 1) X.1 X.2.2.2.2.2.1 uX6_in rfl (by decide) wm_244 rfl dX6_run_21 rfl,
  List.forall_mem_cons.mpr ⟨fun X => zs_aload_n X.1 dX6_run_24 rfl rfl,
  List.forall_mem_cons.mpr ⟨fun X => zs_getf (T := TX6) (N := 4) (k := 0) X.1 X.2.2.2.2.2.1 uX6_in rfl (by decide) wm_238 rfl dX6_run_25 rfl,
  List.forall_mem_cons.mpr ⟨fun X => zs_callV (Cn := RX3) X.1 zNw_ok (fun _ h9 => Or.inr h9) X.2.2.2.2.2.1 X.2.2.2.2.2.2.1 zcal_43 rfl ⟨rfl, rfl⟩ wm_260 rfl wm_261 wm_262 dX6_run_28 rfl,
  List.forall_mem_cons.mpr ⟨fun X => zs_aload_n X.1 dX6_run_31 rfl rfl,
  List.forall_mem_cons.mpr ⟨fun X => zs_callV (Cn := RX6) X.1 zNw_ok (fun _ h9 => Or.inr h9) X.2.2.2.2.2.1 X.2.2.2.2.2.2.1 zcal_114 rfl ⟨rfl, rfl⟩ wm_339 rfl wm_340 wm_341 dX6_run_32 rfl,
  List.forall_mem_cons.mpr ⟨fun X => zs_istore_n X.1 dX6_run_35 rfl (Nat.le_of_ble_eq_true rfl) rfl,
  List.forall_mem_cons.mpr ⟨fun X => zs_aload_n X.1 dX6_run_36 rfl rfl,
  List.forall_mem_cons.mpr ⟨fun X => zs_getf (T := TX6) (N := 4) (k := 3) X.1 X.2.2.2.2.2.1 uX6_in rfl (by decide) wm_254 rfl dX6_run_37 rfl,
  List.forall_mem_cons.mpr ⟨fun X => zs_callV (Cn := RX1) X.1 zNw_ok (fun _ h9 => Or.inr h9) X.2.2.2.2.2.1 X.2.2.2.2.2.2.1 zcal_19 rfl ⟨rfl, rfl⟩ wm_332 rfl wm_333 wm_334 dX6_run_40 rfl,
  List.forall_mem_cons.mpr ⟨fun X => zs_pop X.1 dX6_run_43 rfl,
  List.forall_mem_cons.mpr ⟨fun X => zs_iload_n X.1 dX6_run_44 rfl rfl,
  List.forall_mem_cons.mpr ⟨fun X => zs_iret X.1 X.2.1 X.2.2.1 dX6_run_45,
  fun _ h9 => nomatch h9⟩⟩⟩⟩⟩⟩⟩⟩⟩⟩⟩⟩⟩⟩⟩⟩⟩⟩⟩
theorem zG_X6_run_0 : ∀ q ∈ zT_X6_run_0, zmono q.2 := List.forall_mem_cons.mpr ⟨zm_aload 0 1, List.forall_mem_cons.mpr ⟨zm_getf 6 3 4, List.forall_mem_cons.mpr ⟨zm_callv 1 21 1 7, List.forall_mem_cons.mpr ⟨zm_ifne 20 10, List.forall_mem_cons.mpr ⟨zm_throw 0 (1, 6), List.forall_mem_cons.mpr ⟨zm_aload 0 21, List.forall_mem_cons.mpr ⟨zm_getf 6 1 24, List.forall_mem_cons.mpr ⟨zm_aload 0 25, List.forall_mem_cons.mpr ⟨zm_getf 6 0 28, List.forall_mem_cons.mpr ⟨zm_callv 3 43 2 31, List.forall_mem_cons.mpr ⟨zm_aload 0 32, List.forall_mem_cons.mpr ⟨zm_callv 6 114 1 35, List.forall_mem_cons.mpr ⟨zm_istore 1 36, List.forall_mem_cons.mpr ⟨zm_aload 0 37, List.forall_mem_cons.mpr ⟨zm_getf 6 3 40, List.forall_mem_cons.mpr ⟨zm_callv 1 19 1 43, List.forall_mem_cons.mpr ⟨zm_pop 44, List.forall_mem_cons.mpr ⟨zm_iload 1 45, List.forall_mem_cons.mpr ⟨zm_iret, fun _ h9 => nomatch h9⟩⟩⟩⟩⟩⟩⟩⟩⟩⟩⟩⟩⟩⟩⟩⟩⟩⟩⟩
theorem zE_X6_run : ∀ L ∈ zT_X6_run, ∀ q ∈ L, zEnt yX6_run cX6_run 2 (some .int) [] { frames := 6, cells := 1, slots := 6, locals := 135 } q := List.forall_mem_cons.mpr ⟨zE_X6_run_0, fun _ h9 => nomatch h9⟩
theorem zG_X6_run : ∀ L ∈ zT_X6_run, ∀ q ∈ L, zmono q.2 := List.forall_mem_cons.mpr ⟨zG_X6_run_0, fun _ h9 => nomatch h9⟩
set_option maxRecDepth 100000 in
theorem zE_X6_undo_0 : ∀ q ∈ zT_X6_undo_0, zEnt yX6_undo cX6_undo 1 (some .int) [] { frames := 6, cells := 1, slots := 6, locals := 128 } q := List.forall_mem_cons.mpr ⟨fun X => zs_aload_n X.1 dX6_undo_0 rfl rfl,
  List.forall_mem_cons.mpr ⟨fun X => zs_getf (T := TX6) (N := 4) (k := 1) X.1 X.2.2.2.2.2.1 uX6_in rfl (by decide) wm_244 rfl dX6_undo_1 rfl,
  List.forall_mem_cons.mpr ⟨fun X => zs_getf (T := TX3) (N := 3) (k := 2) X.1 X.2.2.2.2.2.1 uX3_in rfl (by decide) wm_342 rfl dX6_undo_4 rfl,
  List.forall_mem_cons.mpr ⟨fun X => zs_ifgt X.1 dX6_undo_7 (by decide) rfl,
  List.forall_mem_cons.mpr ⟨fun X => zs_throw (x := 1) (text := "no state is saved") X.1 X.2.2.2.2.2.2.1 X.2.2.2.2.2.2.2 X.2.2.1 (by decide) thr_1_52_56 (by decide +kernel) X.2.2.2.2.1 (Nat.le_of_ble_eq_true rfl) (Nat.le_of_ble_eq_true rfl) dX6_undo_10 dX6_undo_13 dX6_undo_14 dX6_undo_16 dX6_undo_19,
  List.forall_mem_cons.mpr ⟨fun X => zs_aload_n X.1 dX6_undo_20 rfl rfl,
  List.forall_mem_cons.mpr ⟨fun X => zs_getf (T := TX6) (N := 4) (k := 1) X.1 X.2.2.2.2.2.1 uX6_in rfl (by decide) wm_244 rfl dX6_undo_21 rfl,
  List.forall_mem_cons.mpr ⟨fun X => zs_aload_n X.1 dX6_undo_24 rfl rfl,
  List.forall_mem_cons.mpr ⟨fun X => zs_getf (T := TX6) (N := 4) (k := 0) X.1 X.2.2.2.2.2.1 uX6_in rfl (by decide) wm_238 rfl dX6_undo_25 rfl,
  List.forall_mem_cons.mpr ⟨fun X => zs_callV (Cn := RX3) X.1 zNw_ok (fun _ h9 => Or.inr h9) X.2.2.2.2.2.1 X.2.2.2.2.2.2.1 zcal_44 rfl ⟨rfl, rfl⟩ wm_343 rfl wm_344 wm_345 dX6_undo_28 rfl,
  List.forall_mem_cons.mpr ⟨fun X => zs_iret X.1 X.2.1 X.2.2.1 dX6_undo_31,
  fun _ h9 => nomatch h9⟩⟩⟩⟩⟩⟩⟩⟩⟩⟩⟩
theorem zG_X6_undo_0 : ∀ q ∈ zT_X6_undo_0, zmono q.2 := List.forall_mem_cons.mpr ⟨zm_aload 0 1, List.forall_mem_cons.mpr ⟨zm_getf 6 1 4, List.forall_mem_cons.mpr ⟨zm_getf 3 2 7, List.forall_mem_cons.mpr ⟨zm_ifgt 20 10, List.forall_mem_cons.mpr ⟨zm_throw 1 (1, 6), List.forall_mem_cons.mpr ⟨zm_aload 0 21, List.forall_mem_cons.mpr ⟨zm_getf 6 1 24, List.forall_mem_cons.mpr ⟨zm_aload 0 25, List.forall_mem_cons.mpr ⟨zm_getf 6 0 28, List.forall_mem_cons.mpr ⟨zm_callv 3 44 2 31, List.forall_mem_cons.mpr ⟨zm_iret, fun _ h9 => nomatch h9⟩⟩⟩⟩⟩⟩⟩⟩⟩⟩⟩
theorem zE_X6_undo : ∀ L ∈ zT_X6_undo, ∀ q ∈ L, zEnt yX6_undo cX6_undo 1 (some .int) [] { frames := 6, cells := 1, slots := 6, locals := 128 } q := List.forall_mem_cons.mpr ⟨zE_X6_undo_0, fun _ h9 => nomatch h9⟩
theorem zG_X6_undo : ∀ L ∈ zT_X6_undo, ∀ q ∈ L, zmono q.2 := List.forall_mem_cons.mpr ⟨zG_X6_undo_0, fun _ h9 => nomatch h9⟩
set_option maxRecDepth 100000 in
theorem zE_X6_savedStates_0 : ∀ q ∈ zT_X6_savedStates_0, zEnt yX6_savedStates cX6_savedStates 1 (some .int) [] { frames := 0, cells := 0, slots := 0, locals := 0 } q := List.forall_mem_cons.mpr ⟨fun X => zs_aload_n X.1 dX6_savedStates_0 rfl rfl,
  List.forall_mem_cons.mpr ⟨fun X => zs_getf (T := TX6) (N := 4) (k := 1) X.1 X.2.2.2.2.2.1 uX6_in rfl (by decide) wm_244 rfl dX6_savedStates_1 rfl,
  List.forall_mem_cons.mpr ⟨fun X => zs_getf (T := TX3) (N := 3) (k := 2) X.1 X.2.2.2.2.2.1 uX3_in rfl (by decide) wm_342 rfl dX6_savedStates_4 rfl,
  List.forall_mem_cons.mpr ⟨fun X => zs_iret X.1 X.2.1 X.2.2.1 dX6_savedStates_7,
  fun _ h9 => nomatch h9⟩⟩⟩⟩
theorem zG_X6_savedStates_0 : ∀ q ∈ zT_X6_savedStates_0, zmono q.2 := List.forall_mem_cons.mpr ⟨zm_aload 0 1, List.forall_mem_cons.mpr ⟨zm_getf 6 1 4, List.forall_mem_cons.mpr ⟨zm_getf 3 2 7, List.forall_mem_cons.mpr ⟨zm_iret, fun _ h9 => nomatch h9⟩⟩⟩⟩
theorem zE_X6_savedStates : ∀ L ∈ zT_X6_savedStates, ∀ q ∈ L, zEnt yX6_savedStates cX6_savedStates 1 (some .int) [] { frames := 0, cells := 0, slots := 0, locals := 0 } q := List.forall_mem_cons.mpr ⟨zE_X6_savedStates_0, fun _ h9 => nomatch h9⟩
theorem zG_X6_savedStates : ∀ L ∈ zT_X6_savedStates, ∀ q ∈ L, zmono q.2 := List.forall_mem_cons.mpr ⟨zG_X6_savedStates_0, fun _ h9 => nomatch h9⟩
set_option maxRecDepth 100000 in
theorem zE_X6_digest_0 : ∀ q ∈ zT_X6_digest_0, zEnt yX6_digest cX6_digest 4 (some .long) [] { frames := 7, cells := 0, slots := 0, locals := 155 } q := List.forall_mem_cons.mpr ⟨fun X => zs_aload_n X.1 dX6_digest_0 rfl rfl,
  List.forall_mem_cons.mpr ⟨fun X => zs_getf (T := TX6) (N := 4) (k := 2) X.1 X.2.2.2.2.2.1 uX6_in rfl (by decide) wm_249 rfl dX6_digest_1 rfl,
  List.forall_mem_cons.mpr ⟨fun X => zs_aload_n X.1 dX6_digest_4 rfl rfl,
  List.forall_mem_cons.mpr ⟨fun X => zs_getf (T := TX6) (N := 4) (k := 0) X.1 X.2.2.2.2.2.1 uX6_in rfl (by decide) wm_238 rfl dX6_digest_5 rfl,
  List.forall_mem_cons.mpr ⟨fun X => zs_callV (Cn := RX4) X.1 zNw_ok (fun _ h9 => Or.inr h9) X.2.2.2.2.2.1 X.2.2.2.2.2.2.1 zcal_53 rfl ⟨rfl, rfl⟩ wm_299 rfl wm_300 wm_301 dX6_digest_8 rfl,
  List.forall_mem_cons.mpr ⟨fun X => zs_ldc2 X.1 wm_346 dX6_digest_11 rfl,
  List.forall_mem_cons.mpr ⟨fun X => zs_aload_n X.1 dX6_digest_14 rfl rfl,
  List.forall_mem_cons.mpr ⟨fun X => zs_getf (T := TX6) (N := 4) (k := 0) X.1 X.2.2.2.2.2.1 uX6_in rfl (by decide) wm_238 rfl dX6_digest_15 rfl,
  List.forall_mem_cons.mpr ⟨fun X => zs_getf (T := TX5) (N := 7) (k := 0) X.1 X.2.2.2.2.2.1 uX5_in rfl (by decide) wm_289 rfl dX6_digest_18 rfl,
  List.forall_mem_cons.mpr ⟨fun X => zs_getf (T := TX0) (N := 3) (k := 2) X.1 X.2.2.2.2.2.1 uX0_in rfl (by decide) wm_290 rfl dX6_digest_21 rfl,
  List.forall_mem_cons.mpr ⟨fun X => zs_callS X.1 zNw_ok (fun _ h9 => Or.inr h9) X.2.2.2.2.2.1 X.2.2.2.2.2.2.1 zcal_106 rfl ⟨rfl, rfl⟩ wm_347 wm_348 dX6_digest_24 rfl,
  List.forall_mem_cons.mpr ⟨fun X => zs_lstore_n X.1 dX6_digest_27 rfl (Nat.le_of_ble_eq_true rfl) rfl,
  List.forall_mem_cons.mpr ⟨fun X => zs_lload_n X.1 dX6_digest_28 rfl rfl,
  List.forall_mem_cons.mpr ⟨fun X => zs_aload_n X.1 dX6_digest_29 rfl rfl,
  List.forall_mem_cons.mpr ⟨fun X => zs_getf (T := TX6) (N := 4) (k := 2) X.1 X.2.2.2.2.2.1 uX6_in rfl (by decide) wm_249 rfl dX6_digest_30 rfl,
  List.forall_mem_cons.mpr ⟨fun X => zs_getf (T := TX4) (N := 8) (k := 0) X.1 X.2.2.2.2.2.1 uX4_in rfl (by decide) wm_307 rfl dX6_digest_33 rfl,
  List.forall_mem_cons.mpr ⟨fun X => zs_getf (T := TX0) (N := 3) (k := 2) X.1 X.2.2.2.2.2.1 uX0_in rfl (by decide) wm_290 rfl dX6_digest_36 rfl,
  List.forall_mem_cons.mpr ⟨fun X => zs_callS X.1 zNw_ok (fun _ h9 => Or.inr h9) X.2.2.2.2.2.1 X.2.2.2.2.2.2.1 zcal_106 rfl ⟨rfl, rfl⟩ wm_347 wm_348 dX6_digest_39 rfl,
  List.forall_mem_cons.mpr ⟨fun X => zs_lstore_n X.1 dX6_digest_42 rfl (Nat.le_of_ble_eq_true rfl) rfl,
  List.forall_mem_cons.mpr ⟨fun X => zs_lload_n X.1 dX6_digest_43 rfl rfl,
  List.forall_mem_cons.mpr ⟨fun X => zs_aload_n X.1 dX6_digest_44 rfl rfl,
  List.forall_mem_cons.mpr ⟨fun X => zs_getf (T := TX6) (N := 4) (k := 2) X.1 X.2.2.2.2.2.1 uX6_in rfl (by decide) wm_249 rfl dX6_digest_45 rfl,
  List.forall_mem_cons.mpr ⟨fun X => zs_getf (T := TX4) (N := 8) (k := 5) X.1 X.2.2.2.2.2.1 uX4_in rfl (by decide) wm_308 rfl dX6_digest_48 rfl,
  List.forall_mem_cons.mpr ⟨fun X => zs_callS X.1 zNw_ok (fun _ h9 => Or.inr h9) X.2.2.2.2.2.1 X.2.2.2.2.2.2.1 zcal_106 rfl ⟨rfl, rfl⟩ wm_347 wm_348 dX6_digest_51 rfl,
  List.forall_mem_cons.mpr ⟨fun X => zs_lstore_n X.1 dX6_digest_54 rfl (Nat.le_of_ble_eq_true rfl) rfl,
  List.forall_mem_cons.mpr ⟨fun X => zs_lload_n X.1 dX6_digest_55 rfl rfl,
  List.forall_mem_cons.mpr ⟨fun X => zs_aload_n X.1 dX6_digest_56 rfl rfl,
  List.forall_mem_cons.mpr ⟨fun X => zs_getf (T := TX6) (N := 4) (k := 2) X.1 X.2.2.2.2.2.1 uX6_in rfl (by decide) wm_249 rfl dX6_digest_57 rfl,
  List.forall_mem_cons.mpr ⟨fun X => zs_aload_n X.1 dX6_digest_60 rfl rfl,
  List.forall_mem_cons.mpr ⟨fun X => zs_getf (T := TX6) (N := 4) (k := 0) X.1 X.2.2.2.2.2.1 uX6_in rfl (by decide) wm_238 rfl dX6_digest_61 rfl,
  fun _ h9 => nomatch h9⟩⟩⟩⟩⟩⟩⟩⟩⟩⟩⟩⟩⟩⟩⟩⟩⟩⟩⟩⟩⟩⟩⟩⟩⟩⟩⟩⟩⟩⟩
theorem zG_X6_digest_0 : ∀ q ∈ zT_X6_digest_0, zmono q.2 := List.forall_mem_cons.mpr ⟨zm_aload 0 1, List.forall_mem_cons.mpr ⟨zm_getf 6 2 4, List.forall_mem_cons.mpr ⟨zm_aload 0 5, List.forall_mem_cons.mpr ⟨zm_getf 6 0 8, List.forall_mem_cons.mpr ⟨zm_callv 4 53 2 11, List.forall_mem_cons.mpr ⟨zm_lconst 8129 14, List.forall_mem_cons.mpr ⟨zm_aload 0 15, List.forall_mem_cons.mpr ⟨zm_getf 6 0 18, List.forall_mem_cons.mpr ⟨zm_getf 5 0 21, List.forall_mem_cons.mpr ⟨zm_getf 0 2 24, List.forall_mem_cons.mpr ⟨zm_call 106 2 27, List.forall_mem_cons.mpr ⟨zm_lstore 1 28, List.forall_mem_cons.mpr ⟨zm_lload 1 29, List.forall_mem_cons.mpr ⟨zm_aload 0 30, List.forall_mem_cons.mpr ⟨zm_getf 6 2 33, List.forall_mem_cons.mpr ⟨zm_getf 4 0 36, List.forall_mem_cons.mpr ⟨zm_getf 0 2 39, List.forall_mem_cons.mpr ⟨zm_call 106 2 42, List.forall_mem_cons.mpr ⟨zm_lstore 1 43, List.forall_mem_cons.mpr ⟨zm_lload 1 44, List.forall_mem_cons.mpr ⟨zm_aload 0 45, List.forall_mem_cons.mpr ⟨zm_getf 6 2 48, List.forall_mem_cons.mpr ⟨zm_getf 4 5 51, List.forall_mem_cons.mpr ⟨zm_call 106 2 54, List.forall_mem_cons.mpr ⟨zm_lstore 1 55, List.forall_mem_cons.mpr ⟨zm_lload 1 56, List.forall_mem_cons.mpr ⟨zm_aload 0 57, List.forall_mem_cons.mpr ⟨zm_getf 6 2 60, List.forall_mem_cons.mpr ⟨zm_aload 0 61, List.forall_mem_cons.mpr ⟨zm_getf 6 0 64, fun _ h9 => nomatch h9⟩⟩⟩⟩⟩⟩⟩⟩⟩⟩⟩⟩⟩⟩⟩⟩⟩⟩⟩⟩⟩⟩⟩⟩⟩⟩⟩⟩⟩⟩
set_option maxRecDepth 100000 in
theorem zE_X6_digest_1 : ∀ q ∈ zT_X6_digest_1, zEnt yX6_digest cX6_digest 4 (some .long) [] { frames := 7, cells := 0, slots := 0, locals := 155 } q := List.forall_mem_cons.mpr ⟨fun X => zs_callV (Cn := RX4) X.1 zNw_ok (fun _ h9 => Or.inr h9) X.2.2.2.2.2.1 X.2.2.2.2.2.2.1 zcal_52 rfl ⟨rfl, rfl⟩ wm_318 rfl wm_319 wm_320 dX6_digest_64 rfl,
  List.forall_mem_cons.mpr ⟨fun X => zs_callS X.1 zNw_ok (fun _ h9 => Or.inr h9) X.2.2.2.2.2.1 X.2.2.2.2.2.2.1 zcal_106 rfl ⟨rfl, rfl⟩ wm_347 wm_348 dX6_digest_67 rfl,
  List.forall_mem_cons.mpr ⟨fun X => zs_lstore_n X.1 dX6_digest_70 rfl (Nat.le_of_ble_eq_true rfl) rfl,
  List.forall_mem_cons.mpr ⟨fun X => zs_lload_n X.1 dX6_digest_71 rfl rfl,
  List.forall_mem_cons.mpr ⟨fun X => zs_aload_n X.1 dX6_digest_72 rfl rfl,
  List.forall_mem_cons.mpr ⟨fun X => zs_getf (T := TX6) (N := 4) (k := 0) X.1 X.2.2.2.2.2.1 uX6_in rfl (by decide) wm_238 rfl dX6_digest_73 rfl,
  List.forall_mem_cons.mpr ⟨fun X => zs_getf (T := TX5) (N := 7) (k := 6) X.1 X.2.2.2.2.2.1 uX5_in rfl (by decide) wm_324 rfl dX6_digest_76 rfl,
  List.forall_mem_cons.mpr ⟨fun X => zs_callS X.1 zNw_ok (fun _ h9 => Or.inr h9) X.2.2.2.2.2.1 X.2.2.2.2.2.2.1 zcal_106 rfl ⟨rfl, rfl⟩ wm_347 wm_348 dX6_digest_79 rfl,
  List.forall_mem_cons.mpr ⟨fun X => zs_lstore_n X.1 dX6_digest_82 rfl (Nat.le_of_ble_eq_true rfl) rfl,
  List.forall_mem_cons.mpr ⟨fun X => zs_lload_n X.1 dX6_digest_83 rfl rfl,
  List.forall_mem_cons.mpr ⟨fun X => zs_aload_n X.1 dX6_digest_84 rfl rfl,
  List.forall_mem_cons.mpr ⟨fun X => zs_getf (T := TX6) (N := 4) (k := 0) X.1 X.2.2.2.2.2.1 uX6_in rfl (by decide) wm_238 rfl dX6_digest_85 rfl,
  List.forall_mem_cons.mpr ⟨fun X => zs_getf (T := TX5) (N := 7) (k := 1) X.1 X.2.2.2.2.2.1 uX5_in rfl (by decide) wm_349 rfl dX6_digest_88 rfl,
  List.forall_mem_cons.mpr ⟨fun X => zs_getf (T := TX0) (N := 3) (k := 2) X.1 X.2.2.2.2.2.1 uX0_in rfl (by decide) wm_290 rfl dX6_digest_91 rfl,
  List.forall_mem_cons.mpr ⟨fun X => zs_callS X.1 zNw_ok (fun _ h9 => Or.inr h9) X.2.2.2.2.2.1 X.2.2.2.2.2.2.1 zcal_106 rfl ⟨rfl, rfl⟩ wm_347 wm_348 dX6_digest_94 rfl,
  List.forall_mem_cons.mpr ⟨fun X => zs_aload_n X.1 dX6_digest_97 rfl rfl,
  List.forall_mem_cons.mpr ⟨fun X => zs_getf (T := TX6) (N := 4) (k := 0) X.1 X.2.2.2.2.2.1 uX6_in rfl (by decide) wm_238 rfl dX6_digest_98 rfl,
  List.forall_mem_cons.mpr ⟨fun X => zs_getf (T := TX5) (N := 7) (k := 1) X.1 X.2.2.2.2.2.1 uX5_in rfl (by decide) wm_349 rfl dX6_digest_101 rfl,
  List.forall_mem_cons.mpr ⟨fun X => zs_callS X.1 zNw_ok (fun _ h9 => Or.inr h9) X.2.2.2.2.2.1 X.2.2.2.2.2.2.1 zcal_105 rfl ⟨rfl, rfl⟩ wm_350 wm_351 dX6_digest_104 rfl,
  List.forall_mem_cons.mpr ⟨fun X => zs_lstore_n X.1 dX6_digest_107 rfl (Nat.le_of_ble_eq_true rfl) rfl,
  List.forall_mem_cons.mpr ⟨fun X => zs_lload_n X.1 dX6_digest_108 rfl rfl,
  List.forall_mem_cons.mpr ⟨fun X => zs_aload_n X.1 dX6_digest_109 rfl rfl,
  List.forall_mem_cons.mpr ⟨fun X => zs_getf (T := TX6) (N := 4) (k := 0) X.1 X.2.2.2.2.2.1 uX6_in rfl (by decide) wm_238 rfl dX6_digest_110 rfl,
  List.forall_mem_cons.mpr ⟨fun X => zs_getf (T := TX5) (N := 7) (k := 2) X.1 X.2.2.2.2.2.1 uX5_in rfl (by decide) wm_352 rfl dX6_digest_113 rfl,
  List.forall_mem_cons.mpr ⟨fun X => zs_getf (T := TX0) (N := 3) (k := 2) X.1 X.2.2.2.2.2.1 uX0_in rfl (by decide) wm_290 rfl dX6_digest_116 rfl,
  List.forall_mem_cons.mpr ⟨fun X => zs_callS X.1 zNw_ok (fun _ h9 => Or.inr h9) X.2.2.2.2.2.1 X.2.2.2.2.2.2.1 zcal_106 rfl ⟨rfl, rfl⟩ wm_347 wm_348 dX6_digest_119 rfl,
  List.forall_mem_cons.mpr ⟨fun X => zs_aload_n X.1 dX6_digest_122 rfl rfl,
  List.forall_mem_cons.mpr ⟨fun X => zs_getf (T := TX6) (N := 4) (k := 0) X.1 X.2.2.2.2.2.1 uX6_in rfl (by decide) wm_238 rfl dX6_digest_123 rfl,
  List.forall_mem_cons.mpr ⟨fun X => zs_getf (T := TX5) (N := 7) (k := 2) X.1 X.2.2.2.2.2.1 uX5_in rfl (by decide) wm_352 rfl dX6_digest_126 rfl,
  fun _ h9 => nomatch h9⟩⟩⟩⟩⟩⟩⟩⟩⟩⟩⟩⟩⟩⟩⟩⟩⟩⟩⟩⟩⟩⟩⟩⟩⟩⟩⟩⟩⟩
theorem zG_X6_digest_1 : ∀ q ∈ zT_X6_digest_1, zmono q.2 := List.forall_mem_cons.mpr ⟨zm_callv 4 52 2 67, List.forall_mem_cons.mpr ⟨zm_call 106 2 70, List.forall_mem_cons.mpr ⟨zm_lstore 1 71, List.forall_mem_cons.mpr ⟨zm_lload 1 72, List.forall_mem_cons.mpr ⟨zm_aload 0 73, List.forall_mem_cons.mpr ⟨zm_getf 6 0 76, List.forall_mem_cons.mpr ⟨zm_getf 5 6 79, List.forall_mem_cons.mpr ⟨zm_call 106 2 82, List.forall_mem_cons.mpr ⟨zm_lstore 1 83, List.forall_mem_cons.mpr ⟨zm_lload 1 84, List.forall_mem_cons.mpr ⟨zm_aload 0 85, List.forall_mem_cons.mpr ⟨zm_getf 6 0 88, List.forall_mem_cons.mpr ⟨zm_getf 5 1 91, List.forall_mem_cons.mpr ⟨zm_getf 0 2 94, List.forall_mem_cons.mpr ⟨zm_call 106 2 97, List.forall_mem_cons.mpr ⟨zm_aload 0 98, List.forall_mem_cons.mpr ⟨zm_getf 6 0 101, List.forall_mem_cons.mpr ⟨zm_getf 5 1 104, List.forall_mem_cons.mpr ⟨zm_call 105 2 107, List.forall_mem_cons.mpr ⟨zm_lstore 1 108, List.forall_mem_cons.mpr ⟨zm_lload 1 109, List.forall_mem_cons.mpr ⟨zm_aload 0 110, List.forall_mem_cons.mpr ⟨zm_getf 6 0 113, List.forall_mem_cons.mpr ⟨zm_getf 5 2 116, List.forall_mem_cons.mpr ⟨zm_getf 0 2 119, List.forall_mem_cons.mpr ⟨zm_call 106 2 122, List.forall_mem_cons.mpr ⟨zm_aload 0 123, List.forall_mem_cons.mpr ⟨zm_getf 6 0 126, List.forall_mem_cons.mpr ⟨zm_getf 5 2 129, fun _ h9 => nomatch h9⟩⟩⟩⟩⟩⟩⟩⟩⟩⟩⟩⟩⟩⟩⟩⟩⟩⟩⟩⟩⟩⟩⟩⟩⟩⟩⟩⟩⟩
set_option maxRecDepth 100000 in
theorem zE_X6_digest_2 : ∀ q ∈ zT_X6_digest_2, zEnt yX6_digest cX6_digest 4 (some .long) [] { frames := 7, cells := 0, slots := 0, locals := 155 } q := List.forall_mem_cons.mpr ⟨fun X => zs_callS X.1 zNw_ok (fun _ h9 => Or.inr h9) X.2.2.2.2.2.1 X.2.2.2.2.2.2.1 zcal_105 rfl ⟨rfl, rfl⟩ wm_350 wm_351 dX6_digest_129 rfl,
  List.forall_mem_cons.mpr ⟨fun X => zs_lstore_n X.1 dX6_digest_132 rfl (Nat.le_of_ble_eq_true rfl) rfl,
  List.forall_mem_cons.mpr ⟨fun X => zs_iconst X.1 dX6_digest_133 (by decide) rfl,
  List.forall_mem_cons.mpr ⟨fun X => zs_istore_n X.1 dX6_digest_134 rfl (Nat.le_of_ble_eq_true rfl) rfl,
  List.forall_mem_cons.mpr ⟨fun X => zs_iload_n X.1 dX6_digest_135 rfl rfl,
  List.forall_mem_cons.mpr ⟨fun X => zs_aload_n X.1 dX6_digest_136 rfl rfl,
  List.forall_mem_cons.mpr ⟨fun X => zs_getf (T := TX6) (N := 4) (k := 0) X.1 X.2.2.2.2.2.1 uX6_in rfl (by decide) wm_238 rfl dX6_digest_137 rfl,
  List.forall_mem_cons.mpr ⟨fun X => zs_getf (T := TX5) (N := 7) (k := 0) X.1 X.2.2.2.2.2.1 uX5_in rfl (by decide) wm_289 rfl dX6_digest_140 rfl,
  List.forall_mem_cons.mpr ⟨fun X => zs_getf (T := TX0) (N := 3) (k := 2) X.1 X.2.2.2.2.2.1 uX0_in rfl (by decide) wm_290 rfl dX6_digest_143 rfl,
  List.forall_mem_cons.mpr ⟨fun X => zs_icmpge X.1 dX6_digest_146 (by decide) rfl,
  List.forall_mem_cons.mpr ⟨fun X => zs_lload_n X.1 dX6_digest_149 rfl rfl,
  List.forall_mem_cons.mpr ⟨fun X => zs_aload_n X.1 dX6_digest_150 rfl rfl,
  List.forall_mem_cons.mpr ⟨fun X => zs_getf (T := TX6) (N := 4) (k := 2) X.1 X.2.2.2.2.2.1 uX6_in rfl (by decide) wm_249 rfl dX6_digest_151 rfl,
  List.forall_mem_cons.mpr ⟨fun X => zs_getf (T := TX4) (N := 8) (k := 1) X.1 X.2.2.2.2.2.1 uX4_in rfl (by decide) wm_353 rfl dX6_digest_154 rfl,
  List.forall_mem_cons.mpr ⟨fun X => zs_iload_n X.1 dX6_digest_157 rfl rfl,
  List.forall_mem_cons.mpr ⟨fun X => zs_callV (Cn := RX2) X.1 zNw_ok (fun _ h9 => Or.inr h9) X.2.2.2.2.2.1 X.2.2.2.2.2.2.1 zcal_31 rfl ⟨rfl, rfl⟩ wm_303 rfl wm_75 wm_76 dX6_digest_158 rfl,
  List.forall_mem_cons.mpr ⟨fun X => zs_callS X.1 zNw_ok (fun _ h9 => Or.inr h9) X.2.2.2.2.2.1 X.2.2.2.2.2.2.1 zcal_106 rfl ⟨rfl, rfl⟩ wm_347 wm_348 dX6_digest_161 rfl,
  List.forall_mem_cons.mpr ⟨fun X => zs_lstore_n X.1 dX6_digest_164 rfl (Nat.le_of_ble_eq_true rfl) rfl,
  List.forall_mem_cons.mpr ⟨fun X => zs_lload_n X.1 dX6_digest_165 rfl rfl,
  List.forall_mem_cons.mpr ⟨fun X => zs_aload_n X.1 dX6_digest_166 rfl rfl,
  List.forall_mem_cons.mpr ⟨fun X => zs_getf (T := TX6) (N := 4) (k := 2) X.1 X.2.2.2.2.2.1 uX6_in rfl (by decide) wm_249 rfl dX6_digest_167 rfl,
  List.forall_mem_cons.mpr ⟨fun X => zs_getf (T := TX4) (N := 8) (k := 2) X.1 X.2.2.2.2.2.1 uX4_in rfl (by decide) wm_354 rfl dX6_digest_170 rfl,
  List.forall_mem_cons.mpr ⟨fun X => zs_iload_n X.1 dX6_digest_173 rfl rfl,
  List.forall_mem_cons.mpr ⟨fun X => zs_callV (Cn := RX2) X.1 zNw_ok (fun _ h9 => Or.inr h9) X.2.2.2.2.2.1 X.2.2.2.2.2.2.1 zcal_31 rfl ⟨rfl, rfl⟩ wm_303 rfl wm_75 wm_76 dX6_digest_174 rfl,
  List.forall_mem_cons.mpr ⟨fun X => zs_callS X.1 zNw_ok (fun _ h9 => Or.inr h9) X.2.2.2.2.2.1 X.2.2.2.2.2.2.1 zcal_106 rfl ⟨rfl, rfl⟩ wm_347 wm_348 dX6_digest_177 rfl,
  List.forall_mem_cons.mpr ⟨fun X => zs_lstore_n X.1 dX6_digest_180 rfl (Nat.le_of_ble_eq_true rfl) rfl,
  List.forall_mem_cons.mpr ⟨fun X => zs_iinc X.1 dX6_digest_181 (Nat.le_of_ble_eq_true rfl) rfl,
  List.forall_mem_cons.mpr ⟨fun X => zs_goto X.1 dX6_digest_184 (by decide),
  List.forall_mem_cons.mpr ⟨fun X => zs_lload_n X.1 dX6_digest_187 rfl rfl,
  List.forall_mem_cons.mpr ⟨fun X => zs_aload_n X.1 dX6_digest_188 rfl rfl,
  List.forall_mem_cons.mpr ⟨fun X => zs_getf (T := TX6) (N := 4) (k := 2) X.1 X.2.2.2.2.2.1 uX6_in rfl (by decide) wm_249 rfl dX6_digest_189 rfl,
  fun _ h9 => nomatch h9⟩⟩⟩⟩⟩⟩⟩⟩⟩⟩⟩⟩⟩⟩⟩⟩⟩⟩⟩⟩⟩⟩⟩⟩⟩⟩⟩⟩⟩⟩⟩
theorem zG_X6_digest_2 : ∀ q ∈ zT_X6_digest_2, zmono q.2 := List.forall_mem_cons.mpr ⟨zm_call 105 2 132, List.forall_mem_cons.mpr ⟨zm_lstore 1 133, List.forall_mem_cons.mpr ⟨zm_iconst 0 134, List.forall_mem_cons.mpr ⟨zm_istore 3 135, List.forall_mem_cons.mpr ⟨zm_iload 3 136, List.forall_mem_cons.mpr ⟨zm_aload 0 137, List.forall_mem_cons.mpr ⟨zm_getf 6 0 140, List.forall_mem_cons.mpr ⟨zm_getf 5 0 143, List.forall_mem_cons.mpr ⟨zm_getf 0 2 146, List.forall_mem_cons.mpr ⟨zm_icmpge 187 149, List.forall_mem_cons.mpr ⟨zm_lload 1 150, List.forall_mem_cons.mpr ⟨zm_aload 0 151, List.forall_mem_cons.mpr ⟨zm_getf 6 2 154, List.forall_mem_cons.mpr ⟨zm_getf 4 1 157, List.forall_mem_cons.mpr ⟨zm_iload 3 158, List.forall_mem_cons.mpr ⟨zm_callv 2 31 2 161, List.forall_mem_cons.mpr ⟨zm_call 106 2 164, List.forall_mem_cons.mpr ⟨zm_lstore 1 165, List.forall_mem_cons.mpr ⟨zm_lload 1 166, List.forall_mem_cons.mpr ⟨zm_aload 0 167, List.forall_mem_cons.mpr ⟨zm_getf 6 2 170, List.forall_mem_cons.mpr ⟨zm_getf 4 2 173, List.forall_mem_cons.mpr ⟨zm_iload 3 174, List.forall_mem_cons.mpr ⟨zm_callv 2 31 2 177, List.forall_mem_cons.mpr ⟨zm_call 106 2 180, List.forall_mem_cons.mpr ⟨zm_lstore 1 181, List.forall_mem_cons.mpr ⟨zm_iinc 3 1 184, List.forall_mem_cons.mpr ⟨zm_goto 135 [], List.forall_mem_cons.mpr ⟨zm_lload 1 188, List.forall_mem_cons.mpr ⟨zm_aload 0 189, List.forall_mem_cons.mpr ⟨zm_getf 6 2 192, fun _ h9 => nomatch h9⟩⟩⟩⟩⟩⟩⟩⟩⟩⟩⟩⟩⟩⟩⟩⟩⟩⟩⟩⟩⟩⟩⟩⟩⟩⟩⟩⟩⟩⟩⟩
set_option maxRecDepth 100000 in
theorem zE_X6_digest_3 : ∀ q ∈ zT_X6_digest_3, zEnt yX6_digest cX6_digest 4 (some .long) [] { frames := 7, cells := 0, slots := 0, locals := 155 } q := List.forall_mem_cons.mpr ⟨fun X => zs_getf (T := TX4) (N := 8) (k := 0) X.1 X.2.2.2.2.2.1 uX4_in rfl (by decide) wm_307 rfl dX6_digest_192 rfl,
  List.forall_mem_cons.mpr ⟨fun X => zs_callS X.1 zNw_ok (fun _ h9 => Or.inr h9) X.2.2.2.2.2.1 X.2.2.2.2.2.2.1 zcal_105 rfl ⟨rfl, rfl⟩ wm_350 wm_351 dX6_digest_195 rfl,
  List.forall_mem_cons.mpr ⟨fun X => zs_lstore_n X.1 dX6_digest_198 rfl (Nat.le_of_ble_eq_true rfl) rfl,
  List.forall_mem_cons.mpr ⟨fun X => zs_iconst X.1 dX6_digest_199 (by decide) rfl,
  List.forall_mem_cons.mpr ⟨fun X => zs_istore_n X.1 dX6_digest_200 rfl (Nat.le_of_ble_eq_true rfl) rfl,
  List.forall_mem_cons.mpr ⟨fun X => zs_iload_n X.1 dX6_digest_201 rfl rfl,
  List.forall_mem_cons.mpr ⟨fun X => zs_aload_n X.1 dX6_digest_202 rfl rfl,
  List.forall_mem_cons.mpr ⟨fun X => zs_getf (T := TX6) (N := 4) (k := 2) X.1 X.2.2.2.2.2.1 uX6_in rfl (by decide) wm_249 rfl dX6_digest_203 rfl,
  List.forall_mem_cons.mpr ⟨fun X => zs_getf (T := TX4) (N := 8) (k := 5) X.1 X.2.2.2.2.2.1 uX4_in rfl (by decide) wm_308 rfl dX6_digest_206 rfl,
  List.forall_mem_cons.mpr ⟨fun X => zs_icmpge X.1 dX6_digest_209 (by decide) rfl,
  List.forall_mem_cons.mpr ⟨fun X => zs_lload_n X.1 dX6_digest_212 rfl rfl,
  List.forall_mem_cons.mpr ⟨fun X => zs_aload_n X.1 dX6_digest_213 rfl rfl,
  List.forall_mem_cons.mpr ⟨fun X => zs_getf (T := TX6) (N := 4) (k := 2) X.1 X.2.2.2.2.2.1 uX6_in rfl (by decide) wm_249 rfl dX6_digest_214 rfl,
  List.forall_mem_cons.mpr ⟨fun X => zs_iload_n X.1 dX6_digest_217 rfl rfl,
  List.forall_mem_cons.mpr ⟨fun X => zs_callV (Cn := RX4) X.1 zNw_ok (fun _ h9 => Or.inr h9) X.2.2.2.2.2.1 X.2.2.2.2.2.2.1 zcal_50 rfl ⟨rfl, rfl⟩ wm_312 rfl wm_137 wm_138 dX6_digest_218 rfl,
  List.forall_mem_cons.mpr ⟨fun X => zs_callS X.1 zNw_ok (fun _ h9 => Or.inr h9) X.2.2.2.2.2.1 X.2.2.2.2.2.2.1 zcal_106 rfl ⟨rfl, rfl⟩ wm_347 wm_348 dX6_digest_221 rfl,
  List.forall_mem_cons.mpr ⟨fun X => zs_lstore_n X.1 dX6_digest_224 rfl (Nat.le_of_ble_eq_true rfl) rfl,
  List.forall_mem_cons.mpr ⟨fun X => zs_lload_n X.1 dX6_digest_225 rfl rfl,
  List.forall_mem_cons.mpr ⟨fun X => zs_aload_n X.1 dX6_digest_226 rfl rfl,
  List.forall_mem_cons.mpr ⟨fun X => zs_getf (T := TX6) (N := 4) (k := 2) X.1 X.2.2.2.2.2.1 uX6_in rfl (by decide) wm_249 rfl dX6_digest_227 rfl,
  List.forall_mem_cons.mpr ⟨fun X => zs_iload_n X.1 dX6_digest_230 rfl rfl,
  List.forall_mem_cons.mpr ⟨fun X => zs_callV (Cn := RX4) X.1 zNw_ok (fun _ h9 => Or.inr h9) X.2.2.2.2.2.1 X.2.2.2.2.2.2.1 zcal_51 rfl ⟨rfl, rfl⟩ wm_313 rfl wm_140 wm_141 dX6_digest_231 rfl,
  List.forall_mem_cons.mpr ⟨fun X => zs_callS X.1 zNw_ok (fun _ h9 => Or.inr h9) X.2.2.2.2.2.1 X.2.2.2.2.2.2.1 zcal_106 rfl ⟨rfl, rfl⟩ wm_347 wm_348 dX6_digest_234 rfl,
  List.forall_mem_cons.mpr ⟨fun X => zs_lstore_n X.1 dX6_digest_237 rfl (Nat.le_of_ble_eq_true rfl) rfl,
  List.forall_mem_cons.mpr ⟨fun X => zs_iinc X.1 dX6_digest_238 (Nat.le_of_ble_eq_true rfl) rfl,
  List.forall_mem_cons.mpr ⟨fun X => zs_goto X.1 dX6_digest_241 (by decide),
  List.forall_mem_cons.mpr ⟨fun X => zs_lload_n X.1 dX6_digest_244 rfl rfl,
  List.forall_mem_cons.mpr ⟨fun X => zs_lret X.1 X.2.1 X.2.2.1 dX6_digest_245,
  fun _ h9 => nomatch h9⟩⟩⟩⟩⟩⟩⟩⟩⟩⟩⟩⟩⟩⟩⟩⟩⟩⟩⟩⟩⟩⟩⟩⟩⟩⟩⟩⟩
theorem zG_X6_digest_3 : ∀ q ∈ zT_X6_digest_3, zmono q.2 := List.forall_mem_cons.mpr ⟨zm_getf 4 0 195, List.forall_mem_cons.mpr ⟨zm_call 105 2 198, List.forall_mem_cons.mpr ⟨zm_lstore 1 199, List.forall_mem_cons.mpr ⟨zm_iconst 0 200, List.forall_mem_cons.mpr ⟨zm_istore 3 201, List.forall_mem_cons.mpr ⟨zm_iload 3 202, List.forall_mem_cons.mpr ⟨zm_aload 0 203, List.forall_mem_cons.mpr ⟨zm_getf 6 2 206, List.forall_mem_cons.mpr ⟨zm_getf 4 5 209, List.forall_mem_cons.mpr ⟨zm_icmpge 244 212, List.forall_mem_cons.mpr ⟨zm_lload 1 213, List.forall_mem_cons.mpr ⟨zm_aload 0 214, List.forall_mem_cons.mpr ⟨zm_getf 6 2 217, List.forall_mem_cons.mpr ⟨zm_iload 3 218, List.forall_mem_cons.mpr ⟨zm_callv 4 50 2 221, List.forall_mem_cons.mpr ⟨zm_call 106 2 224, List.forall_mem_cons.mpr ⟨zm_lstore 1 225, List.forall_mem_cons.mpr ⟨zm_lload 1 226, List.forall_mem_cons.mpr ⟨zm_aload 0 227, List.forall_mem_cons.mpr ⟨zm_getf 6 2 230, List.forall_mem_cons.mpr ⟨zm_iload 3 231, List.forall_mem_cons.mpr ⟨zm_callv 4 51 2 234, List.forall_mem_cons.mpr ⟨zm_call 106 2 237, List.forall_mem_cons.mpr ⟨zm_lstore 1 238, List.forall_mem_cons.mpr ⟨zm_iinc 3 1 241, List.forall_mem_cons.mpr ⟨zm_goto 201 [], List.forall_mem_cons.mpr ⟨zm_lload 1 245, List.forall_mem_cons.mpr ⟨zm_lret, fun _ h9 => nomatch h9⟩⟩⟩⟩⟩⟩⟩⟩⟩⟩⟩⟩⟩⟩⟩⟩⟩⟩⟩⟩⟩⟩⟩⟩⟩⟩⟩⟩
theorem zE_X6_digest : ∀ L ∈ zT_X6_digest, ∀ q ∈ L, zEnt yX6_digest cX6_digest 4 (some .long) [] { frames := 7, cells := 0, slots := 0, locals := 155 } q := List.forall_mem_cons.mpr ⟨zE_X6_digest_0, List.forall_mem_cons.mpr ⟨zE_X6_digest_1, List.forall_mem_cons.mpr ⟨zE_X6_digest_2, List.forall_mem_cons.mpr ⟨zE_X6_digest_3, fun _ h9 => nomatch h9⟩⟩⟩⟩
theorem zG_X6_digest : ∀ L ∈ zT_X6_digest, ∀ q ∈ L, zmono q.2 := List.forall_mem_cons.mpr ⟨zG_X6_digest_0, List.forall_mem_cons.mpr ⟨zG_X6_digest_1, List.forall_mem_cons.mpr ⟨zG_X6_digest_2, List.forall_mem_cons.mpr ⟨zG_X6_digest_3, fun _ h9 => nomatch h9⟩⟩⟩⟩
set_option maxRecDepth 100000 in
theorem zE_X6_mixedWithBlocks_0 : ∀ q ∈ zT_X6_mixedWithBlocks_0, zEnt yX6_mixedWithBlocks cX6_mixedWithBlocks 6 (some .long) [] { frames := 2, cells := 0, slots := 0, locals := 42 } q := List.forall_mem_cons.mpr ⟨fun X => zs_lload_n X.1 dX6_mixedWithBlocks_0 rfl rfl,
  List.forall_mem_cons.mpr ⟨fun X => zs_lstore_n X.1 dX6_mixedWithBlocks_1 rfl (Nat.le_of_ble_eq_true rfl) rfl,
  List.forall_mem_cons.mpr ⟨fun X => zs_iconst X.1 dX6_mixedWithBlocks_2 (by decide) rfl,
  List.forall_mem_cons.mpr ⟨fun X => zs_istore X.1 dX6_mixedWithBlocks_3 (Nat.le_of_ble_eq_true rfl) rfl,
  List.forall_mem_cons.mpr ⟨fun X => zs_iload X.1 dX6_mixedWithBlocks_5 rfl,
  List.forall_mem_cons.mpr ⟨fun X => zs_aload_n X.1 dX6_mixedWithBlocks_7 rfl rfl,
  List.forall_mem_cons.mpr ⟨fun X => zs_getf (T := TX0) (N := 3) (k := 2) X.1 X.2.2.2.2.2.1 uX0_in rfl (by decide) wm_290 rfl dX6_mixedWithBlocks_8 rfl,
  List.forall_mem_cons.mpr ⟨fun X => zs_icmpge X.1 dX6_mixedWithBlocks_11 (by decide) rfl,
  List.forall_mem_cons.mpr ⟨fun X => zs_lload_n X.1 dX6_mixedWithBlocks_14 rfl rfl,
  List.forall_mem_cons.mpr ⟨fun X => zs_aload_n X.1 dX6_mixedWithBlocks_15 rfl rfl,
  List.forall_mem_cons.mpr ⟨fun X => zs_iload X.1 dX6_mixedWithBlocks_16 rfl,
  List.forall_mem_cons.mpr ⟨fun X => zs_callV (Cn := RX0) X.1 zNw_ok (fun _ h9 => Or.inr h9) X.2.2.2.2.2.1 X.2.2.2.2.2.2.1 zcal_3 rfl ⟨rfl, rfl⟩ wm_296 rfl wm_11 wm_12 dX6_mixedWithBlocks_18 rfl,
  List.forall_mem_cons.mpr ⟨fun X => zs_callS X.1 zNw_ok (fun _ h9 => Or.inr h9) X.2.2.2.2.2.1 X.2.2.2.2.2.2.1 zcal_106 rfl ⟨rfl, rfl⟩ wm_347 wm_348 dX6_mixedWithBlocks_21 rfl,
  List.forall_mem_cons.mpr ⟨fun X => zs_lstore_n X.1 dX6_mixedWithBlocks_24 rfl (Nat.le_of_ble_eq_true rfl) rfl,
  List.forall_mem_cons.mpr ⟨fun X => zs_lload_n X.1 dX6_mixedWithBlocks_25 rfl rfl,
  List.forall_mem_cons.mpr ⟨fun X => zs_aload_n X.1 dX6_mixedWithBlocks_26 rfl rfl,
  List.forall_mem_cons.mpr ⟨fun X => zs_iload X.1 dX6_mixedWithBlocks_27 rfl,
  List.forall_mem_cons.mpr ⟨fun X => zs_callV (Cn := RX0) X.1 zNw_ok (fun _ h9 => Or.inr h9) X.2.2.2.2.2.1 X.2.2.2.2.2.2.1 zcal_4 rfl ⟨rfl, rfl⟩ wm_297 rfl wm_17 wm_18 dX6_mixedWithBlocks_29 rfl,
  List.forall_mem_cons.mpr ⟨fun X => zs_callS X.1 zNw_ok (fun _ h9 => Or.inr h9) X.2.2.2.2.2.1 X.2.2.2.2.2.2.1 zcal_106 rfl ⟨rfl, rfl⟩ wm_347 wm_348 dX6_mixedWithBlocks_32 rfl,
  List.forall_mem_cons.mpr ⟨fun X => zs_lstore_n X.1 dX6_mixedWithBlocks_35 rfl (Nat.le_of_ble_eq_true rfl) rfl,
  List.forall_mem_cons.mpr ⟨fun X => zs_iinc X.1 dX6_mixedWithBlocks_36 (Nat.le_of_ble_eq_true rfl) rfl,
  List.forall_mem_cons.mpr ⟨fun X => zs_goto X.1 dX6_mixedWithBlocks_39 (by decide),
  List.forall_mem_cons.mpr ⟨fun X => zs_lload_n X.1 dX6_mixedWithBlocks_42 rfl rfl,
  List.forall_mem_cons.mpr ⟨fun X => zs_lret X.1 X.2.1 X.2.2.1 dX6_mixedWithBlocks_43,
  fun _ h9 => nomatch h9⟩⟩⟩⟩⟩⟩⟩⟩⟩⟩⟩⟩⟩⟩⟩⟩⟩⟩⟩⟩⟩⟩⟩⟩
theorem zG_X6_mixedWithBlocks_0 : ∀ q ∈ zT_X6_mixedWithBlocks_0, zmono q.2 := List.forall_mem_cons.mpr ⟨zm_lload 0 1, List.forall_mem_cons.mpr ⟨zm_lstore 3 2, List.forall_mem_cons.mpr ⟨zm_iconst 0 3, List.forall_mem_cons.mpr ⟨zm_istore 5 5, List.forall_mem_cons.mpr ⟨zm_iload 5 7, List.forall_mem_cons.mpr ⟨zm_aload 2 8, List.forall_mem_cons.mpr ⟨zm_getf 0 2 11, List.forall_mem_cons.mpr ⟨zm_icmpge 42 14, List.forall_mem_cons.mpr ⟨zm_lload 3 15, List.forall_mem_cons.mpr ⟨zm_aload 2 16, List.forall_mem_cons.mpr ⟨zm_iload 5 18, List.forall_mem_cons.mpr ⟨zm_callv 0 3 2 21, List.forall_mem_cons.mpr ⟨zm_call 106 2 24, List.forall_mem_cons.mpr ⟨zm_lstore 3 25, List.forall_mem_cons.mpr ⟨zm_lload 3 26, List.forall_mem_cons.mpr ⟨zm_aload 2 27, List.forall_mem_cons.mpr ⟨zm_iload 5 29, List.forall_mem_cons.mpr ⟨zm_callv 0 4 2 32, List.forall_mem_cons.mpr ⟨zm_call 106 2 35, List.forall_mem_cons.mpr ⟨zm_lstore 3 36, List.forall_mem_cons.mpr ⟨zm_iinc 5 1 39, List.forall_mem_cons.mpr ⟨zm_goto 5 [], List.forall_mem_cons.mpr ⟨zm_lload 3 43, List.forall_mem_cons.mpr ⟨zm_lret, fun _ h9 => nomatch h9⟩⟩⟩⟩⟩⟩⟩⟩⟩⟩⟩⟩⟩⟩⟩⟩⟩⟩⟩⟩⟩⟩⟩⟩
theorem zE_X6_mixedWithBlocks : ∀ L ∈ zT_X6_mixedWithBlocks, ∀ q ∈ L, zEnt yX6_mixedWithBlocks cX6_mixedWithBlocks 6 (some .long) [] { frames := 2, cells := 0, slots := 0, locals := 42 } q := List.forall_mem_cons.mpr ⟨zE_X6_mixedWithBlocks_0, fun _ h9 => nomatch h9⟩
theorem zG_X6_mixedWithBlocks : ∀ L ∈ zT_X6_mixedWithBlocks, ∀ q ∈ L, zmono q.2 := List.forall_mem_cons.mpr ⟨zG_X6_mixedWithBlocks_0, fun _ h9 => nomatch h9⟩
set_option maxRecDepth 100000 in
theorem zE_X6_mixed_0 : ∀ q ∈ zT_X6_mixed_0, zEnt yX6_mixed cX6_mixed 3 (some .long) [] { frames := 0, cells := 0, slots := 0, locals := 0 } q := List.forall_mem_cons.mpr ⟨fun X => zs_ldc2 X.1 wm_355 dX6_mixed_0 rfl,
  List.forall_mem_cons.mpr ⟨fun X => zs_lload_n X.1 dX6_mixed_3 rfl rfl,
  List.forall_mem_cons.mpr ⟨fun X => zs_lmul X.1 dX6_mixed_4 rfl,
  List.forall_mem_cons.mpr ⟨fun X => zs_iload_n X.1 dX6_mixed_5 rfl rfl,
  List.forall_mem_cons.mpr ⟨fun X => zs_i2l X.1 dX6_mixed_6 rfl,
  List.forall_mem_cons.mpr ⟨fun X => zs_ladd X.1 dX6_mixed_7 rfl,
  List.forall_mem_cons.mpr ⟨fun X => zs_lret X.1 X.2.1 X.2.2.1 dX6_mixed_8,
  fun _ h9 => nomatch h9⟩⟩⟩⟩⟩⟩⟩
theorem zG_X6_mixed_0 : ∀ q ∈ zT_X6_mixed_0, zmono q.2 := List.forall_mem_cons.mpr ⟨zm_lconst 31 3, List.forall_mem_cons.mpr ⟨zm_lload 0 4, List.forall_mem_cons.mpr ⟨zm_lmul 5, List.forall_mem_cons.mpr ⟨zm_iload 2 6, List.forall_mem_cons.mpr ⟨zm_i2l 7, List.forall_mem_cons.mpr ⟨zm_ladd 8, List.forall_mem_cons.mpr ⟨zm_lret, fun _ h9 => nomatch h9⟩⟩⟩⟩⟩⟩⟩
theorem zE_X6_mixed : ∀ L ∈ zT_X6_mixed, ∀ q ∈ L, zEnt yX6_mixed cX6_mixed 3 (some .long) [] { frames := 0, cells := 0, slots := 0, locals := 0 } q := List.forall_mem_cons.mpr ⟨zE_X6_mixed_0, fun _ h9 => nomatch h9⟩
theorem zG_X6_mixed : ∀ L ∈ zT_X6_mixed, ∀ q ∈ L, zmono q.2 := List.forall_mem_cons.mpr ⟨zG_X6_mixed_0, fun _ h9 => nomatch h9⟩
set_option maxRecDepth 100000 in
theorem zE_X6_isDraft_0 : ∀ q ∈ zT_X6_isDraft_0, zEnt yX6_isDraft cX6_isDraft 1 (some .boolean) [] { frames := 0, cells := 0, slots := 0, locals := 0 } q := List.forall_mem_cons.mpr ⟨fun X => zs_iload_n X.1 dX6_isDraft_0 rfl rfl,
  List.forall_mem_cons.mpr ⟨fun X => zs_ifeq X.1 dX6_isDraft_1 (by decide) rfl,
  List.forall_mem_cons.mpr ⟨fun X => zs_iload_n X.1 dX6_isDraft_4 rfl rfl,
  List.forall_mem_cons.mpr ⟨fun X => zs_iconst X.1 dX6_isDraft_5 (by decide) rfl,
  List.forall_mem_cons.mpr ⟨fun X => zs_icmpne X.1 dX6_isDraft_6 (by decide) rfl,
  List.forall_mem_cons.mpr ⟨fun X => zs_iconst X.1 dX6_isDraft_9 (by decide) rfl,
  List.forall_mem_cons.mpr ⟨fun X => zs_goto X.1 dX6_isDraft_10 (by decide),
  List.forall_mem_cons.mpr ⟨fun X => zs_iconst X.1 dX6_isDraft_13 (by decide) rfl,
  List.forall_mem_cons.mpr ⟨fun X => zs_zret X.1 X.2.1 X.2.2.1 dX6_isDraft_14,
  fun _ h9 => nomatch h9⟩⟩⟩⟩⟩⟩⟩⟩⟩
theorem zG_X6_isDraft_0 : ∀ q ∈ zT_X6_isDraft_0, zmono q.2 := List.forall_mem_cons.mpr ⟨zm_iload 0 1, List.forall_mem_cons.mpr ⟨zm_ifeq 9 4, List.forall_mem_cons.mpr ⟨zm_iload 0 5, List.forall_mem_cons.mpr ⟨zm_iconst 1 6, List.forall_mem_cons.mpr ⟨zm_icmpne 13 9, List.forall_mem_cons.mpr ⟨zm_iconst 1 10, List.forall_mem_cons.mpr ⟨zm_goto 14 [], List.forall_mem_cons.mpr ⟨zm_iconst 0 14, List.forall_mem_cons.mpr ⟨zm_zret, fun _ h9 => nomatch h9⟩⟩⟩⟩⟩⟩⟩⟩⟩
theorem zE_X6_isDraft : ∀ L ∈ zT_X6_isDraft, ∀ q ∈ L, zEnt yX6_isDraft cX6_isDraft 1 (some .boolean) [] { frames := 0, cells := 0, slots := 0, locals := 0 } q := List.forall_mem_cons.mpr ⟨zE_X6_isDraft_0, fun _ h9 => nomatch h9⟩
theorem zG_X6_isDraft : ∀ L ∈ zT_X6_isDraft, ∀ q ∈ L, zmono q.2 := List.forall_mem_cons.mpr ⟨zG_X6_isDraft_0, fun _ h9 => nomatch h9⟩
set_option maxRecDepth 100000 in
theorem zE_X6_isContent_0 : ∀ q ∈ zT_X6_isContent_0, zEnt yX6_isContent cX6_isContent 1 (some .boolean) [] { frames := 0, cells := 0, slots := 0, locals := 0 } q := List.forall_mem_cons.mpr ⟨fun X => zs_iload_n X.1 dX6_isContent_0 rfl rfl,
  List.forall_mem_cons.mpr ⟨fun X => zs_iflt X.1 dX6_isContent_1 (by decide) rfl,
  List.forall_mem_cons.mpr ⟨fun X => zs_iload_n X.1 dX6_isContent_4 rfl rfl,
  List.forall_mem_cons.mpr ⟨fun X => zs_bipush X.1 dX6_isContent_5 (by decide) rfl,
  List.forall_mem_cons.mpr ⟨fun X => zs_icmpgt X.1 dX6_isContent_7 (by decide) rfl,
  List.forall_mem_cons.mpr ⟨fun X => zs_iconst X.1 dX6_isContent_10 (by decide) rfl,
  List.forall_mem_cons.mpr ⟨fun X => zs_goto X.1 dX6_isContent_11 (by decide),
  List.forall_mem_cons.mpr ⟨fun X => zs_iconst X.1 dX6_isContent_14 (by decide) rfl,
  List.forall_mem_cons.mpr ⟨fun X => zs_zret X.1 X.2.1 X.2.2.1 dX6_isContent_15,
  fun _ h9 => nomatch h9⟩⟩⟩⟩⟩⟩⟩⟩⟩
theorem zG_X6_isContent_0 : ∀ q ∈ zT_X6_isContent_0, zmono q.2 := List.forall_mem_cons.mpr ⟨zm_iload 0 1, List.forall_mem_cons.mpr ⟨zm_iflt 14 4, List.forall_mem_cons.mpr ⟨zm_iload 0 5, List.forall_mem_cons.mpr ⟨zm_iconst 99 7, List.forall_mem_cons.mpr ⟨zm_icmpgt 14 10, List.forall_mem_cons.mpr ⟨zm_iconst 1 11, List.forall_mem_cons.mpr ⟨zm_goto 15 [], List.forall_mem_cons.mpr ⟨zm_iconst 0 15, List.forall_mem_cons.mpr ⟨zm_zret, fun _ h9 => nomatch h9⟩⟩⟩⟩⟩⟩⟩⟩⟩
theorem zE_X6_isContent : ∀ L ∈ zT_X6_isContent, ∀ q ∈ L, zEnt yX6_isContent cX6_isContent 1 (some .boolean) [] { frames := 0, cells := 0, slots := 0, locals := 0 } q := List.forall_mem_cons.mpr ⟨zE_X6_isContent_0, fun _ h9 => nomatch h9⟩
theorem zG_X6_isContent : ∀ L ∈ zT_X6_isContent, ∀ q ∈ L, zmono q.2 := List.forall_mem_cons.mpr ⟨zG_X6_isContent_0, fun _ h9 => nomatch h9⟩
set_option maxRecDepth 100000 in
theorem zE_X6_hasPosition_0 : ∀ q ∈ zT_X6_hasPosition_0, zEnt yX6_hasPosition cX6_hasPosition 3 (some .boolean) [] { frames := 1, cells := 0, slots := 0, locals := 21 } q := List.forall_mem_cons.mpr ⟨fun X => zs_iload_n X.1 dX6_hasPosition_0 rfl rfl,
  List.forall_mem_cons.mpr ⟨fun X => zs_callS X.1 zNw_ok (fun _ h9 => Or.inr h9) X.2.2.2.2.2.1 X.2.2.2.2.2.2.1 zcal_107 rfl ⟨rfl, rfl⟩ wm_291 wm_292 dX6_hasPosition_1 rfl,
  List.forall_mem_cons.mpr ⟨fun X => zs_ifeq X.1 dX6_hasPosition_4 (by decide) rfl,
  List.forall_mem_cons.mpr ⟨fun X => zs_aload_n X.1 dX6_hasPosition_7 rfl rfl,
  List.forall_mem_cons.mpr ⟨fun X => zs_getf (T := TX6) (N := 4) (k := 0) X.1 X.2.2.2.2.2.1 uX6_in rfl (by decide) wm_238 rfl dX6_hasPosition_8 rfl,
  List.forall_mem_cons.mpr ⟨fun X => zs_iload_n X.1 dX6_hasPosition_11 rfl rfl,
  List.forall_mem_cons.mpr ⟨fun X => zs_callV (Cn := RX5) X.1 zNw_ok (fun _ h9 => Or.inr h9) X.2.2.2.2.2.1 X.2.2.2.2.2.2.1 zcal_63 rfl ⟨rfl, rfl⟩ wm_269 rfl wm_189 wm_190 dX6_hasPosition_12 rfl,
  List.forall_mem_cons.mpr ⟨fun X => zs_iload_n X.1 dX6_hasPosition_15 rfl rfl,
  List.forall_mem_cons.mpr ⟨fun X => zs_callV (Cn := RX0) X.1 zNw_ok (fun _ h9 => Or.inr h9) X.2.2.2.2.2.1 X.2.2.2.2.2.2.1 zcal_1 rfl ⟨rfl, rfl⟩ wm_298 rfl wm_7 wm_8 dX6_hasPosition_16 rfl,
  List.forall_mem_cons.mpr ⟨fun X => zs_ifeq X.1 dX6_hasPosition_19 (by decide) rfl,
  List.forall_mem_cons.mpr ⟨fun X => zs_iconst X.1 dX6_hasPosition_22 (by decide) rfl,
  List.forall_mem_cons.mpr ⟨fun X => zs_goto X.1 dX6_hasPosition_23 (by decide),
  List.forall_mem_cons.mpr ⟨fun X => zs_iconst X.1 dX6_hasPosition_26 (by decide) rfl,
  List.forall_mem_cons.mpr ⟨fun X => zs_zret X.1 X.2.1 X.2.2.1 dX6_hasPosition_27,
  fun _ h9 => nomatch h9⟩⟩⟩⟩⟩⟩⟩⟩⟩⟩⟩⟩⟩⟩
theorem zG_X6_hasPosition_0 : ∀ q ∈ zT_X6_hasPosition_0, zmono q.2 := List.forall_mem_cons.mpr ⟨zm_iload 1 1, List.forall_mem_cons.mpr ⟨zm_call 107 1 4, List.forall_mem_cons.mpr ⟨zm_ifeq 26 7, List.forall_mem_cons.mpr ⟨zm_aload 0 8, List.forall_mem_cons.mpr ⟨zm_getf 6 0 11, List.forall_mem_cons.mpr ⟨zm_iload 1 12, List.forall_mem_cons.mpr ⟨zm_callv 5 63 2 15, List.forall_mem_cons.mpr ⟨zm_iload 2 16, List.forall_mem_cons.mpr ⟨zm_callv 0 1 2 19, List.forall_mem_cons.mpr ⟨zm_ifeq 26 22, List.forall_mem_cons.mpr ⟨zm_iconst 1 23, List.forall_mem_cons.mpr ⟨zm_goto 27 [], List.forall_mem_cons.mpr ⟨zm_iconst 0 27, List.forall_mem_cons.mpr ⟨zm_zret, fun _ h9 => nomatch h9⟩⟩⟩⟩⟩⟩⟩⟩⟩⟩⟩⟩⟩⟩
theorem zE_X6_hasPosition : ∀ L ∈ zT_X6_hasPosition, ∀ q ∈ L, zEnt yX6_hasPosition cX6_hasPosition 3 (some .boolean) [] { frames := 1, cells := 0, slots := 0, locals := 21 } q := List.forall_mem_cons.mpr ⟨zE_X6_hasPosition_0, fun _ h9 => nomatch h9⟩
theorem zG_X6_hasPosition : ∀ L ∈ zT_X6_hasPosition, ∀ q ∈ L, zmono q.2 := List.forall_mem_cons.mpr ⟨zG_X6_hasPosition_0, fun _ h9 => nomatch h9⟩
set_option maxRecDepth 100000 in
theorem zE_X6_editFault_0 : ∀ q ∈ zT_X6_editFault_0, zEnt yX6_editFault cX6_editFault 4 (some .int) [] { frames := 2, cells := 0, slots := 0, locals := 43 } q := List.forall_mem_cons.mpr ⟨fun X => zs_aload_n X.1 dX6_editFault_0 rfl rfl,
  List.forall_mem_cons.mpr ⟨fun X => zs_iload_n X.1 dX6_editFault_1 rfl rfl,
  List.forall_mem_cons.mpr ⟨fun X => zs_iload_n X.1 dX6_editFault_2 rfl rfl,
  List.forall_mem_cons.mpr ⟨fun X => zs_callV (Cn := RX6) X.1 zNw_ok (fun _ h9 => Or.inr h9) X.2.2.2.2.2.1 X.2.2.2.2.2.2.1 zcal_109 rfl ⟨rfl, rfl⟩ wm_293 rfl wm_294 wm_295 dX6_editFault_3 rfl,
  List.forall_mem_cons.mpr ⟨fun X => zs_ifne X.1 dX6_editFault_6 (by decide) rfl,
  List.forall_mem_cons.mpr ⟨fun X => zs_iconst X.1 dX6_editFault_9 (by decide) rfl,
  List.forall_mem_cons.mpr ⟨fun X => zs_iret X.1 X.2.1 X.2.2.1 dX6_editFault_10,
  List.forall_mem_cons.mpr ⟨fun X => zs_iload_n X.1 dX6_editFault_11 rfl rfl,
  List.forall_mem_cons.mpr ⟨fun X => zs_callS X.1 zNw_ok (fun _ h9 => Or.inr h9) X.2.2.2.2.2.1 X.2.2.2.2.2.2.1 zcal_108 rfl ⟨rfl, rfl⟩ wm_255 wm_256 dX6_editFault_12 rfl,
  List.forall_mem_cons.mpr ⟨fun X => zs_ifeq X.1 dX6_editFault_15 (by decide) rfl,
  List.forall_mem_cons.mpr ⟨fun X => zs_iconst X.1 dX6_editFault_18 (by decide) rfl,
  List.forall_mem_cons.mpr ⟨fun X => zs_goto X.1 dX6_editFault_19 (by decide),
  List.forall_mem_cons.mpr ⟨fun X => zs_iconst X.1 dX6_editFault_22 (by decide) rfl,
  List.forall_mem_cons.mpr ⟨fun X => zs_iret X.1 X.2.1 X.2.2.1 dX6_editFault_23,
  fun _ h9 => nomatch h9⟩⟩⟩⟩⟩⟩⟩⟩⟩⟩⟩⟩⟩⟩
theorem zG_X6_editFault_0 : ∀ q ∈ zT_X6_editFault_0, zmono q.2 := List.forall_mem_cons.mpr ⟨zm_aload 0 1, List.forall_mem_cons.mpr ⟨zm_iload 1 2, List.forall_mem_cons.mpr ⟨zm_iload 2 3, List.forall_mem_cons.mpr ⟨zm_callv 6 109 3 6, List.forall_mem_cons.mpr ⟨zm_ifne 11 9, List.forall_mem_cons.mpr ⟨zm_iconst 1 10, List.forall_mem_cons.mpr ⟨zm_iret, List.forall_mem_cons.mpr ⟨zm_iload 3 12, List.forall_mem_cons.mpr ⟨zm_call 108 1 15, List.forall_mem_cons.mpr ⟨zm_ifeq 22 18, List.forall_mem_cons.mpr ⟨zm_iconst 0 19, List.forall_mem_cons.mpr ⟨zm_goto 23 [], List.forall_mem_cons.mpr ⟨zm_iconst 2 23, List.forall_mem_cons.mpr ⟨zm_iret, fun _ h9 => nomatch h9⟩⟩⟩⟩⟩⟩⟩⟩⟩⟩⟩⟩⟩⟩
theorem zE_X6_editFault : ∀ L ∈ zT_X6_editFault, ∀ q ∈ L, zEnt yX6_editFault cX6_editFault 4 (some .int) [] { frames := 2, cells := 0, slots := 0, locals := 43 } q := List.forall_mem_cons.mpr ⟨zE_X6_editFault_0, fun _ h9 => nomatch h9⟩
theorem zG_X6_editFault : ∀ L ∈ zT_X6_editFault, ∀ q ∈ L, zmono q.2 := List.forall_mem_cons.mpr ⟨zG_X6_editFault_0, fun _ h9 => nomatch h9⟩
set_option maxRecDepth 100000 in
theorem zE_X6_moveFault_0 : ∀ q ∈ zT_X6_moveFault_0, zEnt yX6_moveFault cX6_moveFault 4 (some .int) [] { frames := 2, cells := 0, slots := 0, locals := 43 } q := List.forall_mem_cons.mpr ⟨fun X => zs_aload_n X.1 dX6_moveFault_0 rfl rfl,
  List.forall_mem_cons.mpr ⟨fun X => zs_iload_n X.1 dX6_moveFault_1 rfl rfl,
  List.forall_mem_cons.mpr ⟨fun X => zs_iload_n X.1 dX6_moveFault_2 rfl rfl,
  List.forall_mem_cons.mpr ⟨fun X => zs_callV (Cn := RX6) X.1 zNw_ok (fun _ h9 => Or.inr h9) X.2.2.2.2.2.1 X.2.2.2.2.2.2.1 zcal_109 rfl ⟨rfl, rfl⟩ wm_293 rfl wm_294 wm_295 dX6_moveFault_3 rfl,
  List.forall_mem_cons.mpr ⟨fun X => zs_ifeq X.1 dX6_moveFault_6 (by decide) rfl,
  List.forall_mem_cons.mpr ⟨fun X => zs_aload_n X.1 dX6_moveFault_9 rfl rfl,
  List.forall_mem_cons.mpr ⟨fun X => zs_iload_n X.1 dX6_moveFault_10 rfl rfl,
  List.forall_mem_cons.mpr ⟨fun X => zs_iload_n X.1 dX6_moveFault_11 rfl rfl,
  List.forall_mem_cons.mpr ⟨fun X => zs_callV (Cn := RX6) X.1 zNw_ok (fun _ h9 => Or.inr h9) X.2.2.2.2.2.1 X.2.2.2.2.2.2.1 zcal_109 rfl ⟨rfl, rfl⟩ wm_293 rfl wm_294 wm_295 dX6_moveFault_12 rfl,
  List.forall_mem_cons.mpr ⟨fun X => zs_ifeq X.1 dX6_moveFault_15 (by decide) rfl,
  List.forall_mem_cons.mpr ⟨fun X => zs_iconst X.1 dX6_moveFault_18 (by decide) rfl,
  List.forall_mem_cons.mpr ⟨fun X => zs_goto X.1 dX6_moveFault_19 (by decide),
  List.forall_mem_cons.mpr ⟨fun X => zs_iconst X.1 dX6_moveFault_22 (by decide) rfl,
  List.forall_mem_cons.mpr ⟨fun X => zs_iret X.1 X.2.1 X.2.2.1 dX6_moveFault_23,
  fun _ h9 => nomatch h9⟩⟩⟩⟩⟩⟩⟩⟩⟩⟩⟩⟩⟩⟩
theorem zG_X6_moveFault_0 : ∀ q ∈ zT_X6_moveFault_0, zmono q.2 := List.forall_mem_cons.mpr ⟨zm_aload 0 1, List.forall_mem_cons.mpr ⟨zm_iload 1 2, List.forall_mem_cons.mpr ⟨zm_iload 2 3, List.forall_mem_cons.mpr ⟨zm_callv 6 109 3 6, List.forall_mem_cons.mpr ⟨zm_ifeq 22 9, List.forall_mem_cons.mpr ⟨zm_aload 0 10, List.forall_mem_cons.mpr ⟨zm_iload 1 11, List.forall_mem_cons.mpr ⟨zm_iload 3 12, List.forall_mem_cons.mpr ⟨zm_callv 6 109 3 15, List.forall_mem_cons.mpr ⟨zm_ifeq 22 18, List.forall_mem_cons.mpr ⟨zm_iconst 0 19, List.forall_mem_cons.mpr ⟨zm_goto 23 [], List.forall_mem_cons.mpr ⟨zm_iconst 1 23, List.forall_mem_cons.mpr ⟨zm_iret, fun _ h9 => nomatch h9⟩⟩⟩⟩⟩⟩⟩⟩⟩⟩⟩⟩⟩⟩
theorem zE_X6_moveFault : ∀ L ∈ zT_X6_moveFault, ∀ q ∈ L, zEnt yX6_moveFault cX6_moveFault 4 (some .int) [] { frames := 2, cells := 0, slots := 0, locals := 43 } q := List.forall_mem_cons.mpr ⟨zE_X6_moveFault_0, fun _ h9 => nomatch h9⟩
theorem zG_X6_moveFault : ∀ L ∈ zT_X6_moveFault, ∀ q ∈ L, zmono q.2 := List.forall_mem_cons.mpr ⟨zG_X6_moveFault_0, fun _ h9 => nomatch h9⟩
set_option maxRecDepth 100000 in
theorem zE_X6_insertFault_0 : ∀ q ∈ zT_X6_insertFault_0, zEnt yX6_insertFault cX6_insertFault 4 (some .int) [] { frames := 1, cells := 0, slots := 0, locals := 21 } q := List.forall_mem_cons.mpr ⟨fun X => zs_iload_n X.1 dX6_insertFault_0 rfl rfl,
  List.forall_mem_cons.mpr ⟨fun X => zs_callS X.1 zNw_ok (fun _ h9 => Or.inr h9) X.2.2.2.2.2.1 X.2.2.2.2.2.2.1 zcal_107 rfl ⟨rfl, rfl⟩ wm_291 wm_292 dX6_insertFault_1 rfl,
  List.forall_mem_cons.mpr ⟨fun X => zs_ifeq X.1 dX6_insertFault_4 (by decide) rfl,
  List.forall_mem_cons.mpr ⟨fun X => zs_iload_n X.1 dX6_insertFault_7 rfl rfl,
  List.forall_mem_cons.mpr ⟨fun X => zs_iflt X.1 dX6_insertFault_8 (by decide) rfl,
  List.forall_mem_cons.mpr ⟨fun X => zs_iload_n X.1 dX6_insertFault_11 rfl rfl,
  List.forall_mem_cons.mpr ⟨fun X => zs_aload_n X.1 dX6_insertFault_12 rfl rfl,
  List.forall_mem_cons.mpr ⟨fun X => zs_getf (T := TX6) (N := 4) (k := 0) X.1 X.2.2.2.2.2.1 uX6_in rfl (by decide) wm_238 rfl dX6_insertFault_13 rfl,
  List.forall_mem_cons.mpr ⟨fun X => zs_iload_n X.1 dX6_insertFault_16 rfl rfl,
  List.forall_mem_cons.mpr ⟨fun X => zs_callV (Cn := RX5) X.1 zNw_ok (fun _ h9 => Or.inr h9) X.2.2.2.2.2.1 X.2.2.2.2.2.2.1 zcal_63 rfl ⟨rfl, rfl⟩ wm_269 rfl wm_189 wm_190 dX6_insertFault_17 rfl,
  List.forall_mem_cons.mpr ⟨fun X => zs_getf (T := TX0) (N := 3) (k := 2) X.1 X.2.2.2.2.2.1 uX0_in rfl (by decide) wm_290 rfl dX6_insertFault_20 rfl,
  List.forall_mem_cons.mpr ⟨fun X => zs_icmple X.1 dX6_insertFault_23 (by decide) rfl,
  List.forall_mem_cons.mpr ⟨fun X => zs_iconst X.1 dX6_insertFault_26 (by decide) rfl,
  List.forall_mem_cons.mpr ⟨fun X => zs_iret X.1 X.2.1 X.2.2.1 dX6_insertFault_27,
  List.forall_mem_cons.mpr ⟨fun X => zs_iload_n X.1 dX6_insertFault_28 rfl rfl,
  List.forall_mem_cons.mpr ⟨fun X => zs_callS X.1 zNw_ok (fun _ h9 => Or.inr h9) X.2.2.2.2.2.1 X.2.2.2.2.2.2.1 zcal_108 rfl ⟨rfl, rfl⟩ wm_255 wm_256 dX6_insertFault_29 rfl,
  List.forall_mem_cons.mpr ⟨fun X => zs_ifne X.1 dX6_insertFault_32 (by decide) rfl,
  List.forall_mem_cons.mpr ⟨fun X => zs_iconst X.1 dX6_insertFault_35 (by decide) rfl,
  List.forall_mem_cons.mpr ⟨fun X => zs_iret X.1 X.2.1 X.2.2.1 dX6_insertFault_36,
  List.forall_mem_cons.mpr ⟨fun X => zs_aload_n X.1 dX6_insertFault_37 rfl rfl,
  List.forall_mem_cons.mpr ⟨fun X => zs_getf (T := TX6) (N := 4) (k := 0) X.1 X.2.2.2.2.2.1 uX6_in rfl (by decide) wm_238 rfl dX6_insertFault_38 rfl,
  List.forall_mem_cons.mpr ⟨fun X => zs_iload_n X.1 dX6_insertFault_41 rfl rfl,
  List.forall_mem_cons.mpr ⟨fun X => zs_callV (Cn := RX5) X.1 zNw_ok (fun _ h9 => Or.inr h9) X.2.2.2.2.2.1 X.2.2.2.2.2.2.1 zcal_63 rfl ⟨rfl, rfl⟩ wm_269 rfl wm_189 wm_190 dX6_insertFault_42 rfl,
  List.forall_mem_cons.mpr ⟨fun X => zs_callV (Cn := RX0) X.1 zNw_ok (fun _ h9 => Or.inr h9) X.2.2.2.2.2.1 X.2.2.2.2.2.2.1 zcal_2 rfl ⟨rfl, rfl⟩ wm_356 rfl wm_21 wm_22 dX6_insertFault_45 rfl,
  List.forall_mem_cons.mpr ⟨fun X => zs_ifne X.1 dX6_insertFault_48 (by decide) rfl,
  List.forall_mem_cons.mpr ⟨fun X => zs_aload_n X.1 dX6_insertFault_51 rfl rfl,
  List.forall_mem_cons.mpr ⟨fun X => zs_getf (T := TX6) (N := 4) (k := 0) X.1 X.2.2.2.2.2.1 uX6_in rfl (by decide) wm_238 rfl dX6_insertFault_52 rfl,
  List.forall_mem_cons.mpr ⟨fun X => zs_getf (T := TX5) (N := 7) (k := 4) X.1 X.2.2.2.2.2.1 uX5_in rfl (by decide) wm_357 rfl dX6_insertFault_55 rfl,
  List.forall_mem_cons.mpr ⟨fun X => zs_bipush X.1 dX6_insertFault_58 (by decide) rfl,
  List.forall_mem_cons.mpr ⟨fun X => zs_icmplt X.1 dX6_insertFault_60 (by decide) rfl,
  List.forall_mem_cons.mpr ⟨fun X => zs_iconst X.1 dX6_insertFault_63 (by decide) rfl,
  fun _ h9 => nomatch h9⟩⟩⟩⟩⟩⟩⟩⟩⟩⟩⟩⟩⟩⟩⟩⟩⟩⟩⟩⟩⟩⟩⟩⟩⟩⟩⟩⟩⟩⟩⟩
theorem zG_X6_insertFault_0 : ∀ q ∈ zT_X6_insertFault_0, zmono q.2 := List.forall_mem_cons.mpr ⟨zm_iload 1 1, List.forall_mem_cons.mpr ⟨zm_call 107 1 4, List.forall_mem_cons.mpr ⟨zm_ifeq 26 7, List.forall_mem_cons.mpr ⟨zm_iload 2 8, List.forall_mem_cons.mpr ⟨zm_iflt 26 11, List.forall_mem_cons.mpr ⟨zm_iload 2 12, List.forall_mem_cons.mpr ⟨zm_aload 0 13, List.forall_mem_cons.mpr ⟨zm_getf 6 0 16, List.forall_mem_cons.mpr ⟨zm_iload 1 17, List.forall_mem_cons.mpr ⟨zm_callv 5 63 2 20, List.forall_mem_cons.mpr ⟨zm_getf 0 2 23, List.forall_mem_cons.mpr ⟨zm_icmple 28 26, List.forall_mem_cons.mpr ⟨zm_iconst 1 27, List.forall_mem_cons.mpr ⟨zm_iret, List.forall_mem_cons.mpr ⟨zm_iload 3 29, List.forall_mem_cons.mpr ⟨zm_call 108 1 32, List.forall_mem_cons.mpr ⟨zm_ifne 37 35, List.forall_mem_cons.mpr ⟨zm_iconst 2 36, List.forall_mem_cons.mpr ⟨zm_iret, List.forall_mem_cons.mpr ⟨zm_aload 0 38, List.forall_mem_cons.mpr ⟨zm_getf 6 0 41, List.forall_mem_cons.mpr ⟨zm_iload 1 42, List.forall_mem_cons.mpr ⟨zm_callv 5 63 2 45, List.forall_mem_cons.mpr ⟨zm_callv 0 2 1 48, List.forall_mem_cons.mpr ⟨zm_ifne 63 51, List.forall_mem_cons.mpr ⟨zm_aload 0 52, List.forall_mem_cons.mpr ⟨zm_getf 6 0 55, List.forall_mem_cons.mpr ⟨zm_getf 5 4 58, List.forall_mem_cons.mpr ⟨zm_iconst 30 60, List.forall_mem_cons.mpr ⟨zm_icmplt 67 63, List.forall_mem_cons.mpr ⟨zm_iconst 3 64, fun _ h9 => nomatch h9⟩⟩⟩⟩⟩⟩⟩⟩⟩⟩⟩⟩⟩⟩⟩⟩⟩⟩⟩⟩⟩⟩⟩⟩⟩⟩⟩⟩⟩⟩⟩
set_option maxRecDepth 100000 in
theorem zE_X6_insertFault_1 : ∀ q ∈ zT_X6_insertFault_1, zEnt yX6_insertFault cX6_insertFault 4 (some .int) [] { frames := 1, cells := 0, slots := 0, locals := 21 } q := List.forall_mem_cons.mpr ⟨fun X => zs_goto X.1 dX6_insertFault_64 (by decide),
  List.forall_mem_cons.mpr ⟨fun X => zs_iconst X.1 dX6_insertFault_67 (by decide) rfl,
  List.forall_mem_cons.mpr ⟨fun X => zs_iret X.1 X.2.1 X.2.2.1 dX6_insertFault_68,
  fun _ h9 => nomatch h9⟩⟩⟩
theorem zG_X6_insertFault_1 : ∀ q ∈ zT_X6_insertFault_1, zmono q.2 := List.forall_mem_cons.mpr ⟨zm_goto 68 [], List.forall_mem_cons.mpr ⟨zm_iconst 0 68, List.forall_mem_cons.mpr ⟨zm_iret, fun _ h9 => nomatch h9⟩⟩⟩
theorem zE_X6_insertFault : ∀ L ∈ zT_X6_insertFault, ∀ q ∈ L, zEnt yX6_insertFault cX6_insertFault 4 (some .int) [] { frames := 1, cells := 0, slots := 0, locals := 21 } q := List.forall_mem_cons.mpr ⟨zE_X6_insertFault_0, List.forall_mem_cons.mpr ⟨zE_X6_insertFault_1, fun _ h9 => nomatch h9⟩⟩
theorem zG_X6_insertFault : ∀ L ∈ zT_X6_insertFault, ∀ q ∈ L, zmono q.2 := List.forall_mem_cons.mpr ⟨zG_X6_insertFault_0, List.forall_mem_cons.mpr ⟨zG_X6_insertFault_1, fun _ h9 => nomatch h9⟩⟩
set_option maxRecDepth 100000 in
theorem zE_X6_removeFault_0 : ∀ q ∈ zT_X6_removeFault_0, zEnt yX6_removeFault cX6_removeFault 3 (some .int) [] { frames := 2, cells := 0, slots := 0, locals := 43 } q := List.forall_mem_cons.mpr ⟨fun X => zs_aload_n X.1 dX6_removeFault_0 rfl rfl,
  List.forall_mem_cons.mpr ⟨fun X => zs_iload_n X.1 dX6_removeFault_1 rfl rfl,
  List.forall_mem_cons.mpr ⟨fun X => zs_iload_n X.1 dX6_removeFault_2 rfl rfl,
  List.forall_mem_cons.mpr ⟨fun X => zs_callV (Cn := RX6) X.1 zNw_ok (fun _ h9 => Or.inr h9) X.2.2.2.2.2.1 X.2.2.2.2.2.2.1 zcal_109 rfl ⟨rfl, rfl⟩ wm_293 rfl wm_294 wm_295 dX6_removeFault_3 rfl,
  List.forall_mem_cons.mpr ⟨fun X => zs_ifeq X.1 dX6_removeFault_6 (by decide) rfl,
  List.forall_mem_cons.mpr ⟨fun X => zs_iconst X.1 dX6_removeFault_9 (by decide) rfl,
  List.forall_mem_cons.mpr ⟨fun X => zs_goto X.1 dX6_removeFault_10 (by decide),
  List.forall_mem_cons.mpr ⟨fun X => zs_iconst X.1 dX6_removeFault_13 (by decide) rfl,
  List.forall_mem_cons.mpr ⟨fun X => zs_iret X.1 X.2.1 X.2.2.1 dX6_removeFault_14,
  fun _ h9 => nomatch h9⟩⟩⟩⟩⟩⟩⟩⟩⟩
theorem zG_X6_removeFault_0 : ∀ q ∈ zT_X6_removeFault_0, zmono q.2 := List.forall_mem_cons.mpr ⟨zm_aload 0 1, List.forall_mem_cons.mpr ⟨zm_iload 1 2, List.forall_mem_cons.mpr ⟨zm_iload 2 3, List.forall_mem_cons.mpr ⟨zm_callv 6 109 3 6, List.forall_mem_cons.mpr ⟨zm_ifeq 13 9, List.forall_mem_cons.mpr ⟨zm_iconst 0 10, List.forall_mem_cons.mpr ⟨zm_goto 14 [], List.forall_mem_cons.mpr ⟨zm_iconst 1 14, List.forall_mem_cons.mpr ⟨zm_iret, fun _ h9 => nomatch h9⟩⟩⟩⟩⟩⟩⟩⟩⟩
theorem zE_X6_removeFault : ∀ L ∈ zT_X6_removeFault, ∀ q ∈ L, zEnt yX6_removeFault cX6_removeFault 3 (some .int) [] { frames := 2, cells := 0, slots := 0, locals := 43 } q := List.forall_mem_cons.mpr ⟨zE_X6_removeFault_0, fun _ h9 => nomatch h9⟩
theorem zG_X6_removeFault : ∀ L ∈ zT_X6_removeFault, ∀ q ∈ L, zmono q.2 := List.forall_mem_cons.mpr ⟨zG_X6_removeFault_0, fun _ h9 => nomatch h9⟩
set_option maxRecDepth 100000 in
theorem zE_X6_executeText_0 : ∀ q ∈ zT_X6_executeText_0, zEnt yX6_executeText cX6_executeText 4 (some .int) [] { frames := 5, cells := 0, slots := 0, locals := 112 } q := List.forall_mem_cons.mpr ⟨fun X => zs_iconst X.1 dX6_executeText_0 (by decide) rfl,
  List.forall_mem_cons.mpr ⟨fun X => zs_istore_n X.1 dX6_executeText_1 rfl (Nat.le_of_ble_eq_true rfl) rfl,
  List.forall_mem_cons.mpr ⟨fun X => zs_aload_n X.1 dX6_executeText_2 rfl rfl,
  List.forall_mem_cons.mpr ⟨fun X => zs_getf (T := TX6) (N := 4) (k := 3) X.1 X.2.2.2.2.2.1 uX6_in rfl (by decide) wm_254 rfl dX6_executeText_3 rfl,
  List.forall_mem_cons.mpr ⟨fun X => zs_callV (Cn := RX1) X.1 zNw_ok (fun _ h9 => Or.inr h9) X.2.2.2.2.2.1 X.2.2.2.2.2.2.1 zcal_22 rfl ⟨rfl, rfl⟩ wm_358 rfl wm_43 wm_44 dX6_executeText_6 rfl,
  List.forall_mem_cons.mpr ⟨fun X => zs_iconst X.1 dX6_executeText_9 (by decide) rfl,
  List.forall_mem_cons.mpr ⟨fun X => zs_istore_n X.1 dX6_executeText_10 rfl (Nat.le_of_ble_eq_true rfl) rfl,
  List.forall_mem_cons.mpr ⟨fun X => zs_iload_n X.1 dX6_executeText_11 rfl rfl,
  List.forall_mem_cons.mpr ⟨fun X => zs_aload_n X.1 dX6_executeText_12 rfl rfl,
  List.forall_mem_cons.mpr ⟨fun X => zs_getf (T := TX6) (N := 4) (k := 3) X.1 X.2.2.2.2.2.1 uX6_in rfl (by decide) wm_254 rfl dX6_executeText_13 rfl,
  List.forall_mem_cons.mpr ⟨fun X => zs_getf (T := TX1) (N := 7) (k := 1) X.1 X.2.2.2.2.2.1 uX1_in rfl (by decide) wm_328 rfl dX6_executeText_16 rfl,
  List.forall_mem_cons.mpr ⟨fun X => zs_icmpgt X.1 dX6_executeText_19 (by decide) rfl,
  List.forall_mem_cons.mpr ⟨fun X => zs_aload_n X.1 dX6_executeText_22 rfl rfl,
  List.forall_mem_cons.mpr ⟨fun X => zs_getf (T := TX6) (N := 4) (k := 3) X.1 X.2.2.2.2.2.1 uX6_in rfl (by decide) wm_254 rfl dX6_executeText_23 rfl,
  List.forall_mem_cons.mpr ⟨fun X => zs_iload_n X.1 dX6_executeText_26 rfl rfl,
  List.forall_mem_cons.mpr ⟨fun X => zs_callV (Cn := RX1) X.1 zNw_ok (fun _ h9 => Or.inr h9) X.2.2.2.2.2.1 X.2.2.2.2.2.2.1 zcal_17 rfl ⟨rfl, rfl⟩ wm_359 rfl wm_46 wm_47 dX6_executeText_27 rfl,
  List.forall_mem_cons.mpr ⟨fun X => zs_istore_n X.1 dX6_executeText_30 rfl (Nat.le_of_ble_eq_true rfl) rfl,
  List.forall_mem_cons.mpr ⟨fun X => zs_iload_n X.1 dX6_executeText_31 rfl rfl,
  List.forall_mem_cons.mpr ⟨fun X => zs_aload_n X.1 dX6_executeText_32 rfl rfl,
  List.forall_mem_cons.mpr ⟨fun X => zs_getf (T := TX6) (N := 4) (k := 3) X.1 X.2.2.2.2.2.1 uX6_in rfl (by decide) wm_254 rfl dX6_executeText_33 rfl,
  List.forall_mem_cons.mpr ⟨fun X => zs_getf (T := TX1) (N := 7) (k := 1) X.1 X.2.2.2.2.2.1 uX1_in rfl (by decide) wm_328 rfl dX6_executeText_36 rfl,
  List.forall_mem_cons.mpr ⟨fun X => zs_icmpeq X.1 dX6_executeText_39 (by decide) rfl,
  List.forall_mem_cons.mpr ⟨fun X => zs_iload_n X.1 dX6_executeText_42 rfl rfl,
  List.forall_mem_cons.mpr ⟨fun X => zs_bipush X.1 dX6_executeText_43 (by decide) rfl,
  List.forall_mem_cons.mpr ⟨fun X => zs_icmpne X.1 dX6_executeText_45 (by decide) rfl,
  List.forall_mem_cons.mpr ⟨fun X => zs_aload_n X.1 dX6_executeText_48 rfl rfl,
  List.forall_mem_cons.mpr ⟨fun X => zs_callV (Cn := RX6) X.1 zNw_ok (fun _ h9 => Or.inr h9) X.2.2.2.2.2.1 X.2.2.2.2.2.2.1 zcal_115 rfl ⟨rfl, rfl⟩ wm_360 rfl wm_361 wm_362 dX6_executeText_49 rfl,
  List.forall_mem_cons.mpr ⟨fun X => zs_ifne X.1 dX6_executeText_52 (by decide) rfl,
  List.forall_mem_cons.mpr ⟨fun X => zs_iload_n X.1 dX6_executeText_55 rfl rfl,
  List.forall_mem_cons.mpr ⟨fun X => zs_iret X.1 X.2.1 X.2.2.1 dX6_executeText_56,
  List.forall_mem_cons.mpr ⟨fun X => zs_iinc X.1 dX6_executeText_57 (Nat.le_of_ble_eq_true rfl) rfl,
  List.forall_mem_cons.mpr ⟨fun X => zs_aload_n X.1 dX6_executeText_60 rfl rfl,
  List.forall_mem_cons.mpr ⟨fun X => zs_getf (T := TX6) (N := 4) (k := 3) X.1 X.2.2.2.2.2.1 uX6_in rfl (by decide) wm_254 rfl dX6_executeText_61 rfl,
  fun _ h9 => nomatch h9⟩⟩⟩⟩⟩⟩⟩⟩⟩⟩⟩⟩⟩⟩⟩⟩⟩⟩⟩⟩⟩⟩⟩⟩⟩⟩⟩⟩⟩⟩⟩⟩⟩
theorem zG_X6_executeText_0 : ∀ q ∈ zT_X6_executeText_0, zmono q.2 := List.forall_mem_cons.mpr ⟨zm_iconst 0 1, List.forall_mem_cons.mpr ⟨zm_istore 1 2, List.forall_mem_cons.mpr ⟨zm_aload 0 3, List.forall_mem_cons.mpr ⟨zm_getf 6 3 6, List.forall_mem_cons.mpr ⟨zm_callv 1 22 1 9, List.forall_mem_cons.mpr ⟨zm_iconst 0 10, List.forall_mem_cons.mpr ⟨zm_istore 2 11, List.forall_mem_cons.mpr ⟨zm_iload 2 12, List.forall_mem_cons.mpr ⟨zm_aload 0 13, List.forall_mem_cons.mpr ⟨zm_getf 6 3 16, List.forall_mem_cons.mpr ⟨zm_getf 1 1 19, List.forall_mem_cons.mpr ⟨zm_icmpgt 75 22, List.forall_mem_cons.mpr ⟨zm_aload 0 23, List.forall_mem_cons.mpr ⟨zm_getf 6 3 26, List.forall_mem_cons.mpr ⟨zm_iload 2 27, List.forall_mem_cons.mpr ⟨zm_callv 1 17 2 30, List.forall_mem_cons.mpr ⟨zm_istore 3 31, List.forall_mem_cons.mpr ⟨zm_iload 2 32, List.forall_mem_cons.mpr ⟨zm_aload 0 33, List.forall_mem_cons.mpr ⟨zm_getf 6 3 36, List.forall_mem_cons.mpr ⟨zm_getf 1 1 39, List.forall_mem_cons.mpr ⟨zm_icmpeq 48 42, List.forall_mem_cons.mpr ⟨zm_iload 3 43, List.forall_mem_cons.mpr ⟨zm_iconst 59 45, List.forall_mem_cons.mpr ⟨zm_icmpne 60 48, List.forall_mem_cons.mpr ⟨zm_aload 0 49, List.forall_mem_cons.mpr ⟨zm_callv 6 115 1 52, List.forall_mem_cons.mpr ⟨zm_ifne 57 55, List.forall_mem_cons.mpr ⟨zm_iload 1 56, List.forall_mem_cons.mpr ⟨zm_iret, List.forall_mem_cons.mpr ⟨zm_iinc 1 1 60, List.forall_mem_cons.mpr ⟨zm_aload 0 61, List.forall_mem_cons.mpr ⟨zm_getf 6 3 64, fun _ h9 => nomatch h9⟩⟩⟩⟩⟩⟩⟩⟩⟩⟩⟩⟩⟩⟩⟩⟩⟩⟩⟩⟩⟩⟩⟩⟩⟩⟩⟩⟩⟩⟩⟩⟩⟩
set_option maxRecDepth 100000 in
theorem zE_X6_executeText_1 : ∀ q ∈ zT_X6_executeText_1, zEnt yX6_executeText cX6_executeText 4 (some .int) [] { frames := 5, cells := 0, slots := 0, locals := 112 } q := List.forall_mem_cons.mpr ⟨fun X => zs_iload_n X.1 dX6_executeText_64 rfl rfl,
  List.forall_mem_cons.mpr ⟨fun X => zs_callV (Cn := RX1) X.1 zNw_ok (fun _ h9 => Or.inr h9) X.2.2.2.2.2.1 X.2.2.2.2.2.2.1 zcal_24 rfl ⟨rfl, rfl⟩ wm_363 rfl wm_49 wm_50 dX6_executeText_65 rfl,
  List.forall_mem_cons.mpr ⟨fun X => zs_pop X.1 dX6_executeText_68 rfl,
  List.forall_mem_cons.mpr ⟨fun X => zs_iinc X.1 dX6_executeText_69 (Nat.le_of_ble_eq_true rfl) rfl,
  List.forall_mem_cons.mpr ⟨fun X => zs_goto X.1 dX6_executeText_72 (by decide),
  List.forall_mem_cons.mpr ⟨fun X => zs_iload_n X.1 dX6_executeText_75 rfl rfl,
  List.forall_mem_cons.mpr ⟨fun X => zs_iret X.1 X.2.1 X.2.2.1 dX6_executeText_76,
  fun _ h9 => nomatch h9⟩⟩⟩⟩⟩⟩⟩
theorem zG_X6_executeText_1 : ∀ q ∈ zT_X6_executeText_1, zmono q.2 := List.forall_mem_cons.mpr ⟨zm_iload 3 65, List.forall_mem_cons.mpr ⟨zm_callv 1 24 2 68, List.forall_mem_cons.mpr ⟨zm_pop 69, List.forall_mem_cons.mpr ⟨zm_iinc 2 1 72, List.forall_mem_cons.mpr ⟨zm_goto 11 [], List.forall_mem_cons.mpr ⟨zm_iload 1 76, List.forall_mem_cons.mpr ⟨zm_iret, fun _ h9 => nomatch h9⟩⟩⟩⟩⟩⟩⟩
theorem zE_X6_executeText : ∀ L ∈ zT_X6_executeText, ∀ q ∈ L, zEnt yX6_executeText cX6_executeText 4 (some .int) [] { frames := 5, cells := 0, slots := 0, locals := 112 } q := List.forall_mem_cons.mpr ⟨zE_X6_executeText_0, List.forall_mem_cons.mpr ⟨zE_X6_executeText_1, fun _ h9 => nomatch h9⟩⟩
theorem zG_X6_executeText : ∀ L ∈ zT_X6_executeText, ∀ q ∈ L, zmono q.2 := List.forall_mem_cons.mpr ⟨zG_X6_executeText_0, List.forall_mem_cons.mpr ⟨zG_X6_executeText_1, fun _ h9 => nomatch h9⟩⟩
set_option maxRecDepth 100000 in
theorem zE_X6_executeCommand_0 : ∀ q ∈ zT_X6_executeCommand_0, zEnt yX6_executeCommand cX6_executeCommand 4 (some .boolean) [] { frames := 4, cells := 0, slots := 0, locals := 89 } q := List.forall_mem_cons.mpr ⟨fun X => zs_aload_n X.1 dX6_executeCommand_0 rfl rfl,
  List.forall_mem_cons.mpr ⟨fun X => zs_getf (T := TX6) (N := 4) (k := 3) X.1 X.2.2.2.2.2.1 uX6_in rfl (by decide) wm_254 rfl dX6_executeCommand_1 rfl,
  List.forall_mem_cons.mpr ⟨fun X => zs_getf (T := TX1) (N := 7) (k := 2) X.1 X.2.2.2.2.2.1 uX1_in rfl (by decide) wm_364 rfl dX6_executeCommand_4 rfl,
  List.forall_mem_cons.mpr ⟨fun X => zs_istore_n X.1 dX6_executeCommand_7 rfl (Nat.le_of_ble_eq_true rfl) rfl,
  List.forall_mem_cons.mpr ⟨fun X => zs_aload_n X.1 dX6_executeCommand_8 rfl rfl,
  List.forall_mem_cons.mpr ⟨fun X => zs_getf (T := TX6) (N := 4) (k := 3) X.1 X.2.2.2.2.2.1 uX6_in rfl (by decide) wm_254 rfl dX6_executeCommand_9 rfl,
  List.forall_mem_cons.mpr ⟨fun X => zs_getf (T := TX1) (N := 7) (k := 4) X.1 X.2.2.2.2.2.1 uX1_in rfl (by decide) wm_365 rfl dX6_executeCommand_12 rfl,
  List.forall_mem_cons.mpr ⟨fun X => zs_istore_n X.1 dX6_executeCommand_15 rfl (Nat.le_of_ble_eq_true rfl) rfl,
  List.forall_mem_cons.mpr ⟨fun X => zs_aload_n X.1 dX6_executeCommand_16 rfl rfl,
  List.forall_mem_cons.mpr ⟨fun X => zs_getf (T := TX6) (N := 4) (k := 3) X.1 X.2.2.2.2.2.1 uX6_in rfl (by decide) wm_254 rfl dX6_executeCommand_17 rfl,
  List.forall_mem_cons.mpr ⟨fun X => zs_getf (T := TX1) (N := 7) (k := 6) X.1 X.2.2.2.2.2.1 uX1_in rfl (by decide) wm_366 rfl dX6_executeCommand_20 rfl,
  List.forall_mem_cons.mpr ⟨fun X => zs_istore_n X.1 dX6_executeCommand_23 rfl (Nat.le_of_ble_eq_true rfl) rfl,
  List.forall_mem_cons.mpr ⟨fun X => zs_aload_n X.1 dX6_executeCommand_24 rfl rfl,
  List.forall_mem_cons.mpr ⟨fun X => zs_getf (T := TX6) (N := 4) (k := 3) X.1 X.2.2.2.2.2.1 uX6_in rfl (by decide) wm_254 rfl dX6_executeCommand_25 rfl,
  List.forall_mem_cons.mpr ⟨fun X => zs_getf (T := TX1) (N := 7) (k := 3) X.1 X.2.2.2.2.2.1 uX1_in rfl (by decide) wm_367 rfl dX6_executeCommand_28 rfl,
  List.forall_mem_cons.mpr ⟨fun X => zs_bipush X.1 dX6_executeCommand_31 (by decide) rfl,
  List.forall_mem_cons.mpr ⟨fun X => zs_icmpne X.1 dX6_executeCommand_33 (by decide) rfl,
  List.forall_mem_cons.mpr ⟨fun X => zs_aload_n X.1 dX6_executeCommand_36 rfl rfl,
  List.forall_mem_cons.mpr ⟨fun X => zs_iload_n X.1 dX6_executeCommand_37 rfl rfl,
  List.forall_mem_cons.mpr ⟨fun X => zs_iload_n X.1 dX6_executeCommand_38 rfl rfl,
  List.forall_mem_cons.mpr ⟨fun X => zs_iload_n X.1 dX6_executeCommand_39 rfl rfl,
  List.forall_mem_cons.mpr ⟨fun X => zs_callV (Cn := RX6) X.1 zNw_ok (fun _ h9 => Or.inr h9) X.2.2.2.2.2.1 X.2.2.2.2.2.2.1 zcal_110 rfl ⟨rfl, rfl⟩ wm_266 rfl wm_267 wm_268 dX6_executeCommand_40 rfl,
  List.forall_mem_cons.mpr ⟨fun X => zs_ifne X.1 dX6_executeCommand_43 (by decide) rfl,
  List.forall_mem_cons.mpr ⟨fun X => zs_aload_n X.1 dX6_executeCommand_46 rfl rfl,
  List.forall_mem_cons.mpr ⟨fun X => zs_getf (T := TX6) (N := 4) (k := 0) X.1 X.2.2.2.2.2.1 uX6_in rfl (by decide) wm_238 rfl dX6_executeCommand_47 rfl,
  List.forall_mem_cons.mpr ⟨fun X => zs_iload_n X.1 dX6_executeCommand_50 rfl rfl,
  List.forall_mem_cons.mpr ⟨fun X => zs_callV (Cn := RX5) X.1 zNw_ok (fun _ h9 => Or.inr h9) X.2.2.2.2.2.1 X.2.2.2.2.2.2.1 zcal_63 rfl ⟨rfl, rfl⟩ wm_269 rfl wm_189 wm_190 dX6_executeCommand_51 rfl,
  List.forall_mem_cons.mpr ⟨fun X => zs_iload_n X.1 dX6_executeCommand_54 rfl rfl,
  List.forall_mem_cons.mpr ⟨fun X => zs_iload_n X.1 dX6_executeCommand_55 rfl rfl,
  List.forall_mem_cons.mpr ⟨fun X => zs_callV (Cn := RX0) X.1 zNw_ok (fun _ h9 => Or.inr h9) X.2.2.2.2.2.1 X.2.2.2.2.2.2.1 zcal_7 rfl ⟨rfl, rfl⟩ wm_270 rfl wm_271 wm_272 dX6_executeCommand_56 rfl,
  List.forall_mem_cons.mpr ⟨fun X => zs_pop X.1 dX6_executeCommand_59 rfl,
  List.forall_mem_cons.mpr ⟨fun X => zs_iconst X.1 dX6_executeCommand_60 (by decide) rfl,
  List.forall_mem_cons.mpr ⟨fun X => zs_zret X.1 X.2.1 X.2.2.1 dX6_executeCommand_61,
  List.forall_mem_cons.mpr ⟨fun X => zs_aload_n X.1 dX6_executeCommand_62 rfl rfl,
  List.forall_mem_cons.mpr ⟨fun X => zs_getf (T := TX6) (N := 4) (k := 3) X.1 X.2.2.2.2.2.1 uX6_in rfl (by decide) wm_254 rfl dX6_executeCommand_63 rfl,
  fun _ h9 => nomatch h9⟩⟩⟩⟩⟩⟩⟩⟩⟩⟩⟩⟩⟩⟩⟩⟩⟩⟩⟩⟩⟩⟩⟩⟩⟩⟩⟩⟩⟩⟩⟩⟩⟩⟩⟩
theorem zG_X6_executeCommand_0 : ∀ q ∈ zT_X6_executeCommand_0, zmono q.2 := List.forall_mem_cons.mpr ⟨zm_aload 0 1, List.forall_mem_cons.mpr ⟨zm_getf 6 3 4, List.forall_mem_cons.mpr ⟨zm_getf 1 2 7, List.forall_mem_cons.mpr ⟨zm_istore 1 8, List.forall_mem_cons.mpr ⟨zm_aload 0 9, List.forall_mem_cons.mpr ⟨zm_getf 6 3 12, List.forall_mem_cons.mpr ⟨zm_getf 1 4 15, List.forall_mem_cons.mpr ⟨zm_istore 2 16, List.forall_mem_cons.mpr ⟨zm_aload 0 17, List.forall_mem_cons.mpr ⟨zm_getf 6 3 20, List.forall_mem_cons.mpr ⟨zm_getf 1 6 23, List.forall_mem_cons.mpr ⟨zm_istore 3 24, List.forall_mem_cons.mpr ⟨zm_aload 0 25, List.forall_mem_cons.mpr ⟨zm_getf 6 3 28, List.forall_mem_cons.mpr ⟨zm_getf 1 3 31, List.forall_mem_cons.mpr ⟨zm_iconst 101 33, List.forall_mem_cons.mpr ⟨zm_icmpne 62 36, List.forall_mem_cons.mpr ⟨zm_aload 0 37, List.forall_mem_cons.mpr ⟨zm_iload 1 38, List.forall_mem_cons.mpr ⟨zm_iload 2 39, List.forall_mem_cons.mpr ⟨zm_iload 3 40, List.forall_mem_cons.mpr ⟨zm_callv 6 110 4 43, List.forall_mem_cons.mpr ⟨zm_ifne 62 46, List.forall_mem_cons.mpr ⟨zm_aload 0 47, List.forall_mem_cons.mpr ⟨zm_getf 6 0 50, List.forall_mem_cons.mpr ⟨zm_iload 1 51, List.forall_mem_cons.mpr ⟨zm_callv 5 63 2 54, List.forall_mem_cons.mpr ⟨zm_iload 2 55, List.forall_mem_cons.mpr ⟨zm_iload 3 56, List.forall_mem_cons.mpr ⟨zm_callv 0 7 3 59, List.forall_mem_cons.mpr ⟨zm_pop 60, List.forall_mem_cons.mpr ⟨zm_iconst 1 61, List.forall_mem_cons.mpr ⟨zm_zret, List.forall_mem_cons.mpr ⟨zm_aload 0 63, List.forall_mem_cons.mpr ⟨zm_getf 6 3 66, fun _ h9 => nomatch h9⟩⟩⟩⟩⟩⟩⟩⟩⟩⟩⟩⟩⟩⟩⟩⟩⟩⟩⟩⟩⟩⟩⟩⟩⟩⟩⟩⟩⟩⟩⟩⟩⟩⟩⟩
set_option maxRecDepth 100000 in
theorem zE_X6_executeCommand_1 : ∀ q ∈ zT_X6_executeCommand_1, zEnt yX6_executeCommand cX6_executeCommand 4 (some .boolean) [] { frames := 4, cells := 0, slots := 0, locals := 89 } q := List.forall_mem_cons.mpr ⟨fun X => zs_getf (T := TX1) (N := 7) (k := 3) X.1 X.2.2.2.2.2.1 uX1_in rfl (by decide) wm_367 rfl dX6_executeCommand_66 rfl,
  List.forall_mem_cons.mpr ⟨fun X => zs_bipush X.1 dX6_executeCommand_69 (by decide) rfl,
  List.forall_mem_cons.mpr ⟨fun X => zs_icmpne X.1 dX6_executeCommand_71 (by decide) rfl,
  List.forall_mem_cons.mpr ⟨fun X => zs_aload_n X.1 dX6_executeCommand_74 rfl rfl,
  List.forall_mem_cons.mpr ⟨fun X => zs_iload_n X.1 dX6_executeCommand_75 rfl rfl,
  List.forall_mem_cons.mpr ⟨fun X => zs_iload_n X.1 dX6_executeCommand_76 rfl rfl,
  List.forall_mem_cons.mpr ⟨fun X => zs_iload_n X.1 dX6_executeCommand_77 rfl rfl,
  List.forall_mem_cons.mpr ⟨fun X => zs_callV (Cn := RX6) X.1 zNw_ok (fun _ h9 => Or.inr h9) X.2.2.2.2.2.1 X.2.2.2.2.2.2.1 zcal_111 rfl ⟨rfl, rfl⟩ wm_273 rfl wm_274 wm_275 dX6_executeCommand_78 rfl,
  List.forall_mem_cons.mpr ⟨fun X => zs_ifne X.1 dX6_executeCommand_81 (by decide) rfl,
  List.forall_mem_cons.mpr ⟨fun X => zs_aload_n X.1 dX6_executeCommand_84 rfl rfl,
  List.forall_mem_cons.mpr ⟨fun X => zs_getf (T := TX6) (N := 4) (k := 0) X.1 X.2.2.2.2.2.1 uX6_in rfl (by decide) wm_238 rfl dX6_executeCommand_85 rfl,
  List.forall_mem_cons.mpr ⟨fun X => zs_iload_n X.1 dX6_executeCommand_88 rfl rfl,
  List.forall_mem_cons.mpr ⟨fun X => zs_callV (Cn := RX5) X.1 zNw_ok (fun _ h9 => Or.inr h9) X.2.2.2.2.2.1 X.2.2.2.2.2.2.1 zcal_63 rfl ⟨rfl, rfl⟩ wm_269 rfl wm_189 wm_190 dX6_executeCommand_89 rfl,
  List.forall_mem_cons.mpr ⟨fun X => zs_iload_n X.1 dX6_executeCommand_92 rfl rfl,
  List.forall_mem_cons.mpr ⟨fun X => zs_iload_n X.1 dX6_executeCommand_93 rfl rfl,
  List.forall_mem_cons.mpr ⟨fun X => zs_callV (Cn := RX0) X.1 zNw_ok (fun _ h9 => Or.inr h9) X.2.2.2.2.2.1 X.2.2.2.2.2.2.1 zcal_11 rfl ⟨rfl, rfl⟩ wm_276 rfl wm_277 wm_278 dX6_executeCommand_94 rfl,
  List.forall_mem_cons.mpr ⟨fun X => zs_pop X.1 dX6_executeCommand_97 rfl,
  List.forall_mem_cons.mpr ⟨fun X => zs_iconst X.1 dX6_executeCommand_98 (by decide) rfl,
  List.forall_mem_cons.mpr ⟨fun X => zs_zret X.1 X.2.1 X.2.2.1 dX6_executeCommand_99,
  List.forall_mem_cons.mpr ⟨fun X => zs_aload_n X.1 dX6_executeCommand_100 rfl rfl,
  List.forall_mem_cons.mpr ⟨fun X => zs_getf (T := TX6) (N := 4) (k := 3) X.1 X.2.2.2.2.2.1 uX6_in rfl (by decide) wm_254 rfl dX6_executeCommand_101 rfl,
  List.forall_mem_cons.mpr ⟨fun X => zs_getf (T := TX1) (N := 7) (k := 3) X.1 X.2.2.2.2.2.1 uX1_in rfl (by decide) wm_367 rfl dX6_executeCommand_104 rfl,
  List.forall_mem_cons.mpr ⟨fun X => zs_bipush X.1 dX6_executeCommand_107 (by decide) rfl,
  List.forall_mem_cons.mpr ⟨fun X => zs_icmpne X.1 dX6_executeCommand_109 (by decide) rfl,
  List.forall_mem_cons.mpr ⟨fun X => zs_aload_n X.1 dX6_executeCommand_112 rfl rfl,
  List.forall_mem_cons.mpr ⟨fun X => zs_iload_n X.1 dX6_executeCommand_113 rfl rfl,
  List.forall_mem_cons.mpr ⟨fun X => zs_iload_n X.1 dX6_executeCommand_114 rfl rfl,
  List.forall_mem_cons.mpr ⟨fun X => zs_iload_n X.1 dX6_executeCommand_115 rfl rfl,
  List.forall_mem_cons.mpr ⟨fun X => zs_callV (Cn := RX6) X.1 zNw_ok (fun _ h9 => Or.inr h9) X.2.2.2.2.2.1 X.2.2.2.2.2.2.1 zcal_112 rfl ⟨rfl, rfl⟩ wm_279 rfl wm_280 wm_281 dX6_executeCommand_116 rfl,
  List.forall_mem_cons.mpr ⟨fun X => zs_ifne X.1 dX6_executeCommand_119 (by decide) rfl,
  List.forall_mem_cons.mpr ⟨fun X => zs_aload_n X.1 dX6_executeCommand_122 rfl rfl,
  List.forall_mem_cons.mpr ⟨fun X => zs_getf (T := TX6) (N := 4) (k := 0) X.1 X.2.2.2.2.2.1 uX6_in rfl (by decide) wm_238 rfl dX6_executeCommand_123 rfl,
  List.forall_mem_cons.mpr ⟨fun X => zs_iload_n X.1 dX6_executeCommand_126 rfl rfl,
  List.forall_mem_cons.mpr ⟨fun X => zs_iload_n X.1 dX6_executeCommand_127 rfl rfl,
  fun _ h9 => nomatch h9⟩⟩⟩⟩⟩⟩⟩⟩⟩⟩⟩⟩⟩⟩⟩⟩⟩⟩⟩⟩⟩⟩⟩⟩⟩⟩⟩⟩⟩⟩⟩⟩⟩⟩
theorem zG_X6_executeCommand_1 : ∀ q ∈ zT_X6_executeCommand_1, zmono q.2 := List.forall_mem_cons.mpr ⟨zm_getf 1 3 69, List.forall_mem_cons.mpr ⟨zm_iconst 109 71, List.forall_mem_cons.mpr ⟨zm_icmpne 100 74, List.forall_mem_cons.mpr ⟨zm_aload 0 75, List.forall_mem_cons.mpr ⟨zm_iload 1 76, List.forall_mem_cons.mpr ⟨zm_iload 2 77, List.forall_mem_cons.mpr ⟨zm_iload 3 78, List.forall_mem_cons.mpr ⟨zm_callv 6 111 4 81, List.forall_mem_cons.mpr ⟨zm_ifne 100 84, List.forall_mem_cons.mpr ⟨zm_aload 0 85, List.forall_mem_cons.mpr ⟨zm_getf 6 0 88, List.forall_mem_cons.mpr ⟨zm_iload 1 89, List.forall_mem_cons.mpr ⟨zm_callv 5 63 2 92, List.forall_mem_cons.mpr ⟨zm_iload 2 93, List.forall_mem_cons.mpr ⟨zm_iload 3 94, List.forall_mem_cons.mpr ⟨zm_callv 0 11 3 97, List.forall_mem_cons.mpr ⟨zm_pop 98, List.forall_mem_cons.mpr ⟨zm_iconst 1 99, List.forall_mem_cons.mpr ⟨zm_zret, List.forall_mem_cons.mpr ⟨zm_aload 0 101, List.forall_mem_cons.mpr ⟨zm_getf 6 3 104, List.forall_mem_cons.mpr ⟨zm_getf 1 3 107, List.forall_mem_cons.mpr ⟨zm_iconst 105 109, List.forall_mem_cons.mpr ⟨zm_icmpne 135 112, List.forall_mem_cons.mpr ⟨zm_aload 0 113, List.forall_mem_cons.mpr ⟨zm_iload 1 114, List.forall_mem_cons.mpr ⟨zm_iload 2 115, List.forall_mem_cons.mpr ⟨zm_iload 3 116, List.forall_mem_cons.mpr ⟨zm_callv 6 112 4 119, List.forall_mem_cons.mpr ⟨zm_ifne 135 122, List.forall_mem_cons.mpr ⟨zm_aload 0 123, List.forall_mem_cons.mpr ⟨zm_getf 6 0 126, List.forall_mem_cons.mpr ⟨zm_iload 1 127, List.forall_mem_cons.mpr ⟨zm_iload 2 128, fun _ h9 => nomatch h9⟩⟩⟩⟩⟩⟩⟩⟩⟩⟩⟩⟩⟩⟩⟩⟩⟩⟩⟩⟩⟩⟩⟩⟩⟩⟩⟩⟩⟩⟩⟩⟩⟩⟩
set_option maxRecDepth 100000 in
theorem zE_X6_executeCommand_2 : ∀ q ∈ zT_X6_executeCommand_2, zEnt yX6_executeCommand cX6_executeCommand 4 (some .boolean) [] { frames := 4, cells := 0, slots := 0, locals := 89 } q := List.forall_mem_cons.mpr ⟨fun X => zs_iload_n X.1 dX6_executeCommand_128 rfl rfl,
  List.forall_mem_cons.mpr ⟨fun X => zs_callV (Cn := RX5) X.1 zNw_ok (fun _ h9 => Or.inr h9) X.2.2.2.2.2.1 X.2.2.2.2.2.2.1 zcal_66 rfl ⟨rfl, rfl⟩ wm_282 rfl wm_283 wm_284 dX6_executeCommand_129 rfl,
  List.forall_mem_cons.mpr ⟨fun X => zs_pop X.1 dX6_executeCommand_132 rfl,
  List.forall_mem_cons.mpr ⟨fun X => zs_iconst X.1 dX6_executeCommand_133 (by decide) rfl,
  List.forall_mem_cons.mpr ⟨fun X => zs_zret X.1 X.2.1 X.2.2.1 dX6_executeCommand_134,
  List.forall_mem_cons.mpr ⟨fun X => zs_aload_n X.1 dX6_executeCommand_135 rfl rfl,
  List.forall_mem_cons.mpr ⟨fun X => zs_getf (T := TX6) (N := 4) (k := 3) X.1 X.2.2.2.2.2.1 uX6_in rfl (by decide) wm_254 rfl dX6_executeCommand_136 rfl,
  List.forall_mem_cons.mpr ⟨fun X => zs_getf (T := TX1) (N := 7) (k := 3) X.1 X.2.2.2.2.2.1 uX1_in rfl (by decide) wm_367 rfl dX6_executeCommand_139 rfl,
  List.forall_mem_cons.mpr ⟨fun X => zs_bipush X.1 dX6_executeCommand_142 (by decide) rfl,
  List.forall_mem_cons.mpr ⟨fun X => zs_icmpne X.1 dX6_executeCommand_144 (by decide) rfl,
  List.forall_mem_cons.mpr ⟨fun X => zs_aload_n X.1 dX6_executeCommand_147 rfl rfl,
  List.forall_mem_cons.mpr ⟨fun X => zs_iload_n X.1 dX6_executeCommand_148 rfl rfl,
  List.forall_mem_cons.mpr ⟨fun X => zs_iload_n X.1 dX6_executeCommand_149 rfl rfl,
  List.forall_mem_cons.mpr ⟨fun X => zs_callV (Cn := RX6) X.1 zNw_ok (fun _ h9 => Or.inr h9) X.2.2.2.2.2.1 X.2.2.2.2.2.2.1 zcal_113 rfl ⟨rfl, rfl⟩ wm_285 rfl wm_286 wm_287 dX6_executeCommand_150 rfl,
  List.forall_mem_cons.mpr ⟨fun X => zs_ifne X.1 dX6_executeCommand_153 (by decide) rfl,
  List.forall_mem_cons.mpr ⟨fun X => zs_aload_n X.1 dX6_executeCommand_156 rfl rfl,
  List.forall_mem_cons.mpr ⟨fun X => zs_getf (T := TX6) (N := 4) (k := 0) X.1 X.2.2.2.2.2.1 uX6_in rfl (by decide) wm_238 rfl dX6_executeCommand_157 rfl,
  List.forall_mem_cons.mpr ⟨fun X => zs_iload_n X.1 dX6_executeCommand_160 rfl rfl,
  List.forall_mem_cons.mpr ⟨fun X => zs_callV (Cn := RX5) X.1 zNw_ok (fun _ h9 => Or.inr h9) X.2.2.2.2.2.1 X.2.2.2.2.2.2.1 zcal_63 rfl ⟨rfl, rfl⟩ wm_269 rfl wm_189 wm_190 dX6_executeCommand_161 rfl,
  List.forall_mem_cons.mpr ⟨fun X => zs_iload_n X.1 dX6_executeCommand_164 rfl rfl,
  List.forall_mem_cons.mpr ⟨fun X => zs_callV (Cn := RX0) X.1 zNw_ok (fun _ h9 => Or.inr h9) X.2.2.2.2.2.1 X.2.2.2.2.2.2.1 zcal_10 rfl ⟨rfl, rfl⟩ wm_288 rfl wm_27 wm_28 dX6_executeCommand_165 rfl,
  List.forall_mem_cons.mpr ⟨fun X => zs_pop X.1 dX6_executeCommand_168 rfl,
  List.forall_mem_cons.mpr ⟨fun X => zs_iconst X.1 dX6_executeCommand_169 (by decide) rfl,
  List.forall_mem_cons.mpr ⟨fun X => zs_zret X.1 X.2.1 X.2.2.1 dX6_executeCommand_170,
  List.forall_mem_cons.mpr ⟨fun X => zs_iconst X.1 dX6_executeCommand_171 (by decide) rfl,
  List.forall_mem_cons.mpr ⟨fun X => zs_zret X.1 X.2.1 X.2.2.1 dX6_executeCommand_172,
  fun _ h9 => nomatch h9⟩⟩⟩⟩⟩⟩⟩⟩⟩⟩⟩⟩⟩⟩⟩⟩⟩⟩⟩⟩⟩⟩⟩⟩⟩⟩
theorem zG_X6_executeCommand_2 : ∀ q ∈ zT_X6_executeCommand_2, zmono q.2 := List.forall_mem_cons.mpr ⟨zm_iload 3 129, List.forall_mem_cons.mpr ⟨zm_callv 5 66 4 132, List.forall_mem_cons.mpr ⟨zm_pop 133, List.forall_mem_cons.mpr ⟨zm_iconst 1 134, List.forall_mem_cons.mpr ⟨zm_zret, List.forall_mem_cons.mpr ⟨zm_aload 0 136, List.forall_mem_cons.mpr ⟨zm_getf 6 3 139, List.forall_mem_cons.mpr ⟨zm_getf 1 3 142, List.forall_mem_cons.mpr ⟨zm_iconst 114 144, List.forall_mem_cons.mpr ⟨zm_icmpne 171 147, List.forall_mem_cons.mpr ⟨zm_aload 0 148, List.forall_mem_cons.mpr ⟨zm_iload 1 149, List.forall_mem_cons.mpr ⟨zm_iload 2 150, List.forall_mem_cons.mpr ⟨zm_callv 6 113 3 153, List.forall_mem_cons.mpr ⟨zm_ifne 171 156, List.forall_mem_cons.mpr ⟨zm_aload 0 157, List.forall_mem_cons.mpr ⟨zm_getf 6 0 160, List.forall_mem_cons.mpr ⟨zm_iload 1 161, List.forall_mem_cons.mpr ⟨zm_callv 5 63 2 164, List.forall_mem_cons.mpr ⟨zm_iload 2 165, List.forall_mem_cons.mpr ⟨zm_callv 0 10 2 168, List.forall_mem_cons.mpr ⟨zm_pop 169, List.forall_mem_cons.mpr ⟨zm_iconst 1 170, List.forall_mem_cons.mpr ⟨zm_zret, List.forall_mem_cons.mpr ⟨zm_iconst 0 172, List.forall_mem_cons.mpr ⟨zm_zret, fun _ h9 => nomatch h9⟩⟩⟩⟩⟩⟩⟩⟩⟩⟩⟩⟩⟩⟩⟩⟩⟩⟩⟩⟩⟩⟩⟩⟩⟩⟩
theorem zE_X6_executeCommand : ∀ L ∈ zT_X6_executeCommand, ∀ q ∈ L, zEnt yX6_executeCommand cX6_executeCommand 4 (some .boolean) [] { frames := 4, cells := 0, slots := 0, locals := 89 } q := List.forall_mem_cons.mpr ⟨zE_X6_executeCommand_0, List.forall_mem_cons.mpr ⟨zE_X6_executeCommand_1, List.forall_mem_cons.mpr ⟨zE_X6_executeCommand_2, fun _ h9 => nomatch h9⟩⟩⟩
theorem zG_X6_executeCommand : ∀ L ∈ zT_X6_executeCommand, ∀ q ∈ L, zmono q.2 := List.forall_mem_cons.mpr ⟨zG_X6_executeCommand_0, List.forall_mem_cons.mpr ⟨zG_X6_executeCommand_1, List.forall_mem_cons.mpr ⟨zG_X6_executeCommand_2, fun _ h9 => nomatch h9⟩⟩⟩
set_option maxRecDepth 100000 in
theorem zE_X6_cell_0 : ∀ q ∈ zT_X6_cell_0, zEnt yX6_cell cX6_cell 2 (some .int) [] { frames := 0, cells := 0, slots := 0, locals := 0 } q := List.forall_mem_cons.mpr ⟨fun X => zs_iload_n X.1 dX6_cell_0 rfl rfl,
  List.forall_mem_cons.mpr ⟨fun X => zs_iflt X.1 dX6_cell_1 (by decide) rfl,
  List.forall_mem_cons.mpr ⟨fun X => zs_iload_n X.1 dX6_cell_4 rfl rfl,
  List.forall_mem_cons.mpr ⟨fun X => zs_aload_n X.1 dX6_cell_5 rfl rfl,
  List.forall_mem_cons.mpr ⟨fun X => zs_alen X.1 X.2.2.2.2.2.1 dX6_cell_6 rfl,
  List.forall_mem_cons.mpr ⟨fun X => zs_icmpge X.1 dX6_cell_7 (by decide) rfl,
  List.forall_mem_cons.mpr ⟨fun X => zs_aload_n X.1 dX6_cell_10 rfl rfl,
  List.forall_mem_cons.mpr ⟨fun X => zs_iload_n X.1 dX6_cell_11 rfl rfl,
  List.forall_mem_cons.mpr ⟨fun X => zs_iald X.1 X.2.2.2.2.2.1 dX6_cell_12 rfl,
  List.forall_mem_cons.mpr ⟨fun X => zs_goto X.1 dX6_cell_13 (by decide),
  List.forall_mem_cons.mpr ⟨fun X => zs_iconst X.1 dX6_cell_16 (by decide) rfl,
  List.forall_mem_cons.mpr ⟨fun X => zs_iret X.1 X.2.1 X.2.2.1 dX6_cell_17,
  fun _ h9 => nomatch h9⟩⟩⟩⟩⟩⟩⟩⟩⟩⟩⟩⟩
theorem zG_X6_cell_0 : ∀ q ∈ zT_X6_cell_0, zmono q.2 := List.forall_mem_cons.mpr ⟨zm_iload 1 1, List.forall_mem_cons.mpr ⟨zm_iflt 16 4, List.forall_mem_cons.mpr ⟨zm_iload 1 5, List.forall_mem_cons.mpr ⟨zm_aload 0 6, List.forall_mem_cons.mpr ⟨zm_alen 7, List.forall_mem_cons.mpr ⟨zm_icmpge 16 10, List.forall_mem_cons.mpr ⟨zm_aload 0 11, List.forall_mem_cons.mpr ⟨zm_iload 1 12, List.forall_mem_cons.mpr ⟨zm_iald 13, List.forall_mem_cons.mpr ⟨zm_goto 17 [], List.forall_mem_cons.mpr ⟨zm_iconst (-1) 17, List.forall_mem_cons.mpr ⟨zm_iret, fun _ h9 => nomatch h9⟩⟩⟩⟩⟩⟩⟩⟩⟩⟩⟩⟩
theorem zE_X6_cell : ∀ L ∈ zT_X6_cell, ∀ q ∈ L, zEnt yX6_cell cX6_cell 2 (some .int) [] { frames := 0, cells := 0, slots := 0, locals := 0 } q := List.forall_mem_cons.mpr ⟨zE_X6_cell_0, fun _ h9 => nomatch h9⟩
theorem zG_X6_cell : ∀ L ∈ zT_X6_cell, ∀ q ∈ L, zmono q.2 := List.forall_mem_cons.mpr ⟨zG_X6_cell_0, fun _ h9 => nomatch h9⟩
set_option maxRecDepth 100000 in
theorem zE_X6_setCell_0 : ∀ q ∈ zT_X6_setCell_0, zEnt yX6_setCell cX6_setCell 3 none [] { frames := 0, cells := 0, slots := 0, locals := 0 } q := List.forall_mem_cons.mpr ⟨fun X => zs_iload_n X.1 dX6_setCell_0 rfl rfl,
  List.forall_mem_cons.mpr ⟨fun X => zs_iflt X.1 dX6_setCell_1 (by decide) rfl,
  List.forall_mem_cons.mpr ⟨fun X => zs_iload_n X.1 dX6_setCell_4 rfl rfl,
  List.forall_mem_cons.mpr ⟨fun X => zs_aload_n X.1 dX6_setCell_5 rfl rfl,
  List.forall_mem_cons.mpr ⟨fun X => zs_alen X.1 X.2.2.2.2.2.1 dX6_setCell_6 rfl,
  List.forall_mem_cons.mpr ⟨fun X => zs_icmpge X.1 dX6_setCell_7 (by decide) rfl,
  List.forall_mem_cons.mpr ⟨fun X => zs_aload_n X.1 dX6_setCell_10 rfl rfl,
  List.forall_mem_cons.mpr ⟨fun X => zs_iload_n X.1 dX6_setCell_11 rfl rfl,
  List.forall_mem_cons.mpr ⟨fun X => zs_iload_n X.1 dX6_setCell_12 rfl rfl,
  List.forall_mem_cons.mpr ⟨fun X => zs_iast X.1 X.2.2.2.2.2.1 dX6_setCell_13 rfl,
  List.forall_mem_cons.mpr ⟨fun X => zs_vret X.1 X.2.1 X.2.2.1 dX6_setCell_14,
  fun _ h9 => nomatch h9⟩⟩⟩⟩⟩⟩⟩⟩⟩⟩⟩
theorem zG_X6_setCell_0 : ∀ q ∈ zT_X6_setCell_0, zmono q.2 := List.forall_mem_cons.mpr ⟨zm_iload 1 1, List.forall_mem_cons.mpr ⟨zm_iflt 14 4, List.forall_mem_cons.mpr ⟨zm_iload 1 5, List.forall_mem_cons.mpr ⟨zm_aload 0 6, List.forall_mem_cons.mpr ⟨zm_alen 7, List.forall_mem_cons.mpr ⟨zm_icmpge 14 10, List.forall_mem_cons.mpr ⟨zm_aload 0 11, List.forall_mem_cons.mpr ⟨zm_iload 1 12, List.forall_mem_cons.mpr ⟨zm_iload 2 13, List.forall_mem_cons.mpr ⟨zm_iast 14, List.forall_mem_cons.mpr ⟨zm_vret, fun _ h9 => nomatch h9⟩⟩⟩⟩⟩⟩⟩⟩⟩⟩⟩
theorem zE_X6_setCell : ∀ L ∈ zT_X6_setCell, ∀ q ∈ L, zEnt yX6_setCell cX6_setCell 3 none [] { frames := 0, cells := 0, slots := 0, locals := 0 } q := List.forall_mem_cons.mpr ⟨zE_X6_setCell_0, fun _ h9 => nomatch h9⟩
theorem zG_X6_setCell : ∀ L ∈ zT_X6_setCell, ∀ q ∈ L, zmono q.2 := List.forall_mem_cons.mpr ⟨zG_X6_setCell_0, fun _ h9 => nomatch h9⟩
