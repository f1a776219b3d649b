/-! what makes cells; Object.<init>; Math.max and min; switches -/
section ZSound
variable {p : Program} {l : Launch} {e : Env} {R : Room} {s : State} {m : MethodId} {args : Array Value} {below : List Frame} {meth : Method} {c : Code} {Qf : State → Prop}
variable {cc : ByteArray} {nL : Nat} {Ts : List Cond} {own SC : String} {D : va_G} {cl : List vw_C} {dA : Nat → ClassId} {A : Nat → Prop} {ad0 : Nat → Nat} {n0 : Nat}
variable {C : zK} {R' : zQ} {pc : Nat}

theorem zty_name {dA : Nat → ClassId} {SC : String} {D : va_G} {cl : List vw_C} {s : State} (hK : va_K D cl (zTys dA SC) s) {t : Nat} {ty : FieldType} (ht : (zTys dA SC)[t]? = some (dA t, ty)) {cA : ClassId} (h : va_RA s cA ty) : cA = dA t := by
  have h1 := (hK.2 t _ ht).2
  cases ty with
  | object X =>
    obtain ⟨-, -, -, -, -, e1⟩ := h1
    obtain ⟨-, -, -, -, -, e2⟩ := h
    exact Option.some.inj (e2.symm.trans e1)
  | _ => exact Option.some.inj (Eq.trans (Eq.symm h) h1)
theorem zvp_nn {k : Int32} (h : ¬ k < 0) (h2 : k.toNatClampNeg ≤ 1000) : k.toNatClampNeg * 8 ≤ 536870912 := by omega
theorem zs_newi (F : CallFix p m c cc nL s args Ts own) (hK : va_K D cl (zTys dA SC) s) (hA : ∀ q, s.heap.size ≤ q → A q) {lim : Nat × Nat} (hlim : lim.1 ≤ R.cells ∧ lim.2 ≤ R.slots) {nx : Nat} (harr : Cond.arrayClass .int ∈ Ts) (hd : decode cc pc = .ok (.newarray .int, 2)) (hn : pc + 2 = nx) : zSnd (zConc p l e R s m args below meth c Qf nL D cl dA A ad0 n0) C R' pc (zt_newi lim nx) := by
  intro ls st h n cu su ht hw hr hnn ad H locs lsA ha hP hD hS hl
  subst hn
  match st, ht, hw with
  | .int k :: st, ht, hw =>
    obtain ⟨h1, h2, h3, h4⟩ := ht
    obtain ⟨f1, f2⟩ := zfit_ok h3
    refine va_newa (atype := .int) (a0 := (k.toNatClampNeg, .inl (fun _ => 0))) F.1 F.2.1 (F.2.2.2.2 _ harr) rfl hK hP hD hS hA (fun cA => rfl) h1 rfl (Nat.le_trans (Nat.mul_le_mul_left _ (show componentBytes .int ≤ 8 by decide)) (zvp_nn h1 h2)) (Nat.le_trans f1 hlim.1) (Nat.le_trans f2 hlim.2) hd fun q cA H1 hK1 hP1 hD1 hS1 => ?_
    have hcA : cA = dA 0 := zty_name (t := 0) hK rfl (hK1.2 5 (cA, .int) rfl).2
    subst hcA
    have e9 := zW_new (dA := dA) (ad := ad) (q := q) (c := .inl (0, (k.toNatClampNeg, .inl (fun _ => 0)))) hw.2.2 trivial
    have hl' : lv_has lsA nL (zlv (zadd ad n q) 0 ls) := zlv_agree zadd_lt hw.1 hl
    have k9 := h4 ⟨zwl_up hw.1 (Nat.le_succ n), zws_cons (zwv_ref (Nat.lt_succ_self n)) (zws_up (zws_tl hw.2.1) (Nat.le_succ n)), zwh_new hw.2.2 trivial⟩ ⟨Nat.le_trans f1 hlim.1, Nat.le_trans f2 hlim.2⟩ (Nat.le_succ_of_le hnn) (zadd ad n q) H1 locs lsA (fun i hi => (zadd_lt i (Nat.lt_of_lt_of_le hi hnn)).trans (ha i hi)) (e9 ▸ hP1) (e9 ▸ hD1) hS1 hl'
    rw [List.map_cons, zvs_agree zadd_lt (zws_tl hw.2.1), show zv (zadd ad n q) (.ref n) = .ref q from congrArg Value.ref zadd_n] at k9
    exact k9
theorem zs_newz (F : CallFix p m c cc nL s args Ts own) (hK : va_K D cl (zTys dA SC) s) (hA : ∀ q, s.heap.size ≤ q → A q) {lim : Nat × Nat} (hlim : lim.1 ≤ R.cells ∧ lim.2 ≤ R.slots) {nx : Nat} (harr : Cond.arrayClass .boolean ∈ Ts) (hd : decode cc pc = .ok (.newarray .boolean, 2)) (hn : pc + 2 = nx) : zSnd (zConc p l e R s m args below meth c Qf nL D cl dA A ad0 n0) C R' pc (zt_newz lim nx) := by
  intro ls st h n cu su ht hw hr hnn ad H locs lsA ha hP hD hS hl
  subst hn
  match st, ht, hw with
  | .int k :: st, ht, hw =>
    obtain ⟨h1, h2, h3, h4⟩ := ht
    obtain ⟨f1, f2⟩ := zfit_ok h3
    refine va_newa (atype := .boolean) (a0 := (k.toNatClampNeg, .inl (fun _ => 0))) F.1 F.2.1 (F.2.2.2.2 _ harr) rfl hK hP hD hS hA (fun cA => rfl) h1 rfl (Nat.le_trans (Nat.mul_le_mul_left _ (show componentBytes .boolean ≤ 8 by decide)) (zvp_nn h1 h2)) (Nat.le_trans f1 hlim.1) (Nat.le_trans f2 hlim.2) hd fun q cA H1 hK1 hP1 hD1 hS1 => ?_
    have hcA : cA = dA 1 := zty_name (t := 1) hK rfl (hK1.2 5 (cA, .boolean) rfl).2
    subst hcA
    have e9 := zW_new (dA := dA) (ad := ad) (q := q) (c := .inl (1, (k.toNatClampNeg, .inl (fun _ => 0)))) hw.2.2 trivial
    have hl' : lv_has lsA nL (zlv (zadd ad n q) 0 ls) := zlv_agree zadd_lt hw.1 hl
    have k9 := h4 ⟨zwl_up hw.1 (Nat.le_succ n), zws_cons (zwv_ref (Nat.lt_succ_self n)) (zws_up (zws_tl hw.2.1) (Nat.le_succ n)), zwh_new hw.2.2 trivial⟩ ⟨Nat.le_trans f1 hlim.1, Nat.le_trans f2 hlim.2⟩ (Nat.le_succ_of_le hnn) (zadd ad n q) H1 locs lsA (fun i hi => (zadd_lt i (Nat.lt_of_lt_of_le hi hnn)).trans (ha i hi)) (e9 ▸ hP1) (e9 ▸ hD1) hS1 hl'
    rw [List.map_cons, zvs_agree zadd_lt (zws_tl hw.2.1), show zv (zadd ad n q) (.ref n) = .ref q from congrArg Value.ref zadd_n] at k9
    exact k9
theorem zs_newl (F : CallFix p m c cc nL s args Ts own) (hK : va_K D cl (zTys dA SC) s) (hA : ∀ q, s.heap.size ≤ q → A q) {lim : Nat × Nat} (hlim : lim.1 ≤ R.cells ∧ lim.2 ≤ R.slots) {nx : Nat} (harr : Cond.arrayClass .long ∈ Ts) (hd : decode cc pc = .ok (.newarray .long, 2)) (hn : pc + 2 = nx) : zSnd (zConc p l e R s m args below meth c Qf nL D cl dA A ad0 n0) C R' pc (zt_newl lim nx) := by
  intro ls st h n cu su ht hw hr hnn ad H locs lsA ha hP hD hS hl
  subst hn
  match st, ht, hw with
  | .int k :: st, ht, hw =>
    obtain ⟨h1, h2, h3, h4⟩ := ht
    obtain ⟨f1, f2⟩ := zfit_ok h3
    refine va_newa (atype := .long) (a0 := (k.toNatClampNeg, .inr (.inl (fun _ => 0)))) F.1 F.2.1 (F.2.2.2.2 _ harr) rfl hK hP hD hS hA (fun cA => rfl) h1 rfl (Nat.le_trans (Nat.mul_le_mul_left _ (show componentBytes .long ≤ 8 by decide)) (zvp_nn h1 h2)) (Nat.le_trans f1 hlim.1) (Nat.le_trans f2 hlim.2) hd fun q cA H1 hK1 hP1 hD1 hS1 => ?_
    have hcA : cA = dA 2 := zty_name (t := 2) hK rfl (hK1.2 5 (cA, .long) rfl).2
    subst hcA
    have e9 := zW_new (dA := dA) (ad := ad) (q := q) (c := .inl (2, (k.toNatClampNeg, .inr (.inl (fun _ => 0))))) hw.2.2 trivial
    have hl' : lv_has lsA nL (zlv (zadd ad n q) 0 ls) := zlv_agree zadd_lt hw.1 hl
    have k9 := h4 ⟨zwl_up hw.1 (Nat.le_succ n), zws_cons (zwv_ref (Nat.lt_succ_self n)) (zws_up (zws_tl hw.2.1) (Nat.le_succ n)), zwh_new hw.2.2 trivial⟩ ⟨Nat.le_trans f1 hlim.1, Nat.le_trans f2 hlim.2⟩ (Nat.le_succ_of_le hnn) (zadd ad n q) H1 locs lsA (fun i hi => (zadd_lt i (Nat.lt_of_lt_of_le hi hnn)).trans (ha i hi)) (e9 ▸ hP1) (e9 ▸ hD1) hS1 hl'
    rw [List.map_cons, zvs_agree zadd_lt (zws_tl hw.2.1), show zv (zadd ad n q) (.ref n) = .ref q from congrArg Value.ref zadd_n] at k9
    exact k9
theorem zs_newd (F : CallFix p m c cc nL s args Ts own) (hK : va_K D cl (zTys dA SC) s) (hA : ∀ q, s.heap.size ≤ q → A q) {lim : Nat × Nat} (hlim : lim.1 ≤ R.cells ∧ lim.2 ≤ R.slots) {nx : Nat} (harr : Cond.arrayClass .double ∈ Ts) (hd : decode cc pc = .ok (.newarray .double, 2)) (hn : pc + 2 = nx) : zSnd (zConc p l e R s m args below meth c Qf nL D cl dA A ad0 n0) C R' pc (zt_newd lim nx) := by
  intro ls st h n cu su ht hw hr hnn ad H locs lsA ha hP hD hS hl
  subst hn
  match st, ht, hw with
  | .int k :: st, ht, hw =>
    obtain ⟨h1, h2, h3, h4⟩ := ht
    obtain ⟨f1, f2⟩ := zfit_ok h3
    refine va_newa (atype := .double) (a0 := (k.toNatClampNeg, .inr (.inr (.inr (.inl (fun _ => 0)))))) F.1 F.2.1 (F.2.2.2.2 _ harr) rfl hK hP hD hS hA (fun cA => rfl) h1 rfl (Nat.le_trans (Nat.mul_le_mul_left _ (show componentBytes .double ≤ 8 by decide)) (zvp_nn h1 h2)) (Nat.le_trans f1 hlim.1) (Nat.le_trans f2 hlim.2) hd fun q cA H1 hK1 hP1 hD1 hS1 => ?_
    have hcA : cA = dA 3 := zty_name (t := 3) hK rfl (hK1.2 5 (cA, .double) rfl).2
    subst hcA
    have e9 := zW_new (dA := dA) (ad := ad) (q := q) (c := .inl (3, (k.toNatClampNeg, .inr (.inr (.inr (.inl (fun _ => 0))))))) hw.2.2 trivial
    have hl' : lv_has lsA nL (zlv (zadd ad n q) 0 ls) := zlv_agree zadd_lt hw.1 hl
    have k9 := h4 ⟨zwl_up hw.1 (Nat.le_succ n), zws_cons (zwv_ref (Nat.lt_succ_self n)) (zws_up (zws_tl hw.2.1) (Nat.le_succ n)), zwh_new hw.2.2 trivial⟩ ⟨Nat.le_trans f1 hlim.1, Nat.le_trans f2 hlim.2⟩ (Nat.le_succ_of_le hnn) (zadd ad n q) H1 locs lsA (fun i hi => (zadd_lt i (Nat.lt_of_lt_of_le hi hnn)).trans (ha i hi)) (e9 ▸ hP1) (e9 ▸ hD1) hS1 hl'
    rw [List.map_cons, zvs_agree zadd_lt (zws_tl hw.2.1), show zv (zadd ad n q) (.ref n) = .ref q from congrArg Value.ref zadd_n] at k9
    exact k9
theorem zs_newa (F : CallFix p m c cc nL s args Ts own) (hK : va_K D cl (zTys dA SC) s) (hA : ∀ q, s.heap.size ≤ q → A q) {lim : Nat × Nat} (hlim : lim.1 ≤ R.cells ∧ lim.2 ≤ R.slots) {nx index : Nat} (hcl : Cond.classLink own index SC ∈ Ts) (hao : va_AO SC s) (hd : decode cc pc = .ok (.anewarray index, 3)) (hn : pc + 3 = nx) : zSnd (zConc p l e R s m args below meth c Qf nL D cl dA A ad0 n0) C R' pc (zt_newa lim nx) := by
  intro ls st h n cu su ht hw hr hnn ad H locs lsA ha hP hD hS hl
  subst hn
  match st, ht, hw with
  | .int k :: st, ht, hw =>
    obtain ⟨h1, h2, h3, h4⟩ := ht
    obtain ⟨f1, f2⟩ := zfit_ok h3
    refine va_newq F.1 F.2.1 F.2.2.2.1 (F.2.2.2.2 _ hcl) hao hK hP hD hS hA h1 rfl (Nat.le_trans (Nat.mul_le_mul_left _ (show 4 ≤ 8 by decide)) (zvp_nn h1 h2)) (Nat.le_trans f1 hlim.1) (Nat.le_trans f2 hlim.2) hd fun q cA H1 hK1 hP1 hD1 hS1 => ?_
    have hcA : cA = dA 4 := zty_name (t := 4) hK rfl (hK1.2 5 (cA, .object SC) rfl).2
    subst hcA
    have e9 := zW_new (dA := dA) (ad := ad) (q := q) (c := .inl (4, (k.toNatClampNeg, .inr (.inr (.inr (.inr (fun _ => none))))))) hw.2.2 (fun j a h => nomatch h)
    have hl' : lv_has lsA nL (zlv (zadd ad n q) 0 ls) := zlv_agree zadd_lt hw.1 hl
    have k9 := h4 ⟨zwl_up hw.1 (Nat.le_succ n), zws_cons (zwv_ref (Nat.lt_succ_self n)) (zws_up (zws_tl hw.2.1) (Nat.le_succ n)), zwh_new hw.2.2 (fun j a h => nomatch h)⟩ ⟨Nat.le_trans f1 hlim.1, Nat.le_trans f2 hlim.2⟩ (Nat.le_succ_of_le hnn) (zadd ad n q) H1 locs lsA (fun i hi => (zadd_lt i (Nat.lt_of_lt_of_le hi hnn)).trans (ha i hi)) (e9 ▸ hP1) (e9 ▸ hD1) hS1 hl'
    rw [List.map_cons, zvs_agree zadd_lt (zws_tl hw.2.1), show zv (zadd ad n q) (.ref n) = .ref q from congrArg Value.ref zadd_n] at k9
    exact k9
theorem zs_new (F : CallFix p m c cc nL s args Ts own) (hK : va_K D cl (zTys dA SC) s) (hA : ∀ q, s.heap.size ≤ q → A q) {lim : Nat × Nat} (hlim : lim.1 ≤ R.cells ∧ lim.2 ≤ R.slots) {ci nx index N : Nat} {Cn : String} {T : u_T} {fs : List Value} (hin : ∀ w ∈ u_ws Cn T N, w ∈ Ts) (ty : Nat → FieldType) (hty : ∀ k, k < N → parseFieldDescriptor (T k).2.2.1 = some (ty k)) (hcl : Cond.classLink own index Cn ∈ Ts) (hinst : Cond.instantiable Cn N ∈ Ts) (hini : Cond.initialized Cn ∈ Ts) (hc : cl[ci]? = some (Cn, T, N)) (hfs : ∀ j, j < N → defaultValue (ty j) = vp_V fs j) (hN : fs.length = N) (hnr : fs.all (fun v => match v with | .ref _ => false | _ => true) = true) (hd : decode cc pc = .ok (.new index, 3)) (hn : pc + 3 = nx) : zSnd (zConc p l e R s m args below meth c Qf nL D cl dA A ad0 n0) C R' pc (zt_new ci fs lim nx) := by
  intro ls st h n cu su ht hw hr hnn ad H locs lsA ha hP hD hS hl
  subst hn
  obtain ⟨h3, h4⟩ := ht
  obtain ⟨f1, f2⟩ := zfit_ok h3
  have hwf : ∀ v ∈ fs, ∀ a, v ≠ .ref a := fun v hv a e => by
    have := List.all_eq_true.mp hnr v hv
    rw [e] at this
    exact nomatch this
  have hwc : zwc n (.inr (ci, fs)) := fun v hv a e => absurd e (hwf v hv a)
  have hmap : fs.map (zv ad) = fs := by
    have : fs.map (zv ad) = fs.map id := List.map_congr_left fun v hv => by
      cases v <;> first | rfl | exact absurd rfl (hwf _ hv _)
    rw [this, List.map_id]
  refine va_new F.1 F.2.1 F.2.2.2.2 hin ty hty F.2.2.2.1 (F.2.2.2.2 _ hcl) (F.2.2.2.2 _ hinst) (F.2.2.2.2 _ hini) hK hP hD hS hA hc hfs (Nat.le_trans f1 hlim.1) (by rw [← hN]; exact Nat.le_trans f2 hlim.2) hd fun q H1 hP1 hD1 hS1 => ?_
  have e9 := zW_new (dA := dA) (ad := ad) (q := q) (c := .inr (ci, fs)) hw.2.2 hwc
  rw [show zcell ad dA (.inr (ci, fs)) = .inr (ci, fs) from congrArg (fun z => Sum.inr (ci, z)) hmap] at e9
  have hl' : lv_has lsA nL (zlv (zadd ad n q) 0 ls) := zlv_agree zadd_lt hw.1 hl
  have k9 := h4 ⟨zwl_up hw.1 (Nat.le_succ n), zws_cons (zwv_ref (Nat.lt_succ_self n)) (zws_up hw.2.1 (Nat.le_succ n)), zwh_new hw.2.2 hwc⟩ ⟨Nat.le_trans f1 hlim.1, Nat.le_trans f2 hlim.2⟩ (Nat.le_succ_of_le hnn) (zadd ad n q) H1 locs lsA (fun i hi => (zadd_lt i (Nat.lt_of_lt_of_le hi hnn)).trans (ha i hi)) (e9 ▸ hP1) (e9 ▸ hD1) hS1 hl'
  rw [List.map_cons, zvs_agree zadd_lt hw.2.1, show zv (zadd ad n q) (.ref n) = .ref q from congrArg Value.ref zadd_n, hN] at k9
  exact k9
theorem zs_objinit (F : CallFix p m c cc nL s args Ts own) {nx index : Nat} (hlink : Cond.methodLink own index Lib.objectInit ∈ Ts) (hinst : Cond.instanceMethod Lib.objectInit ∈ Ts) (hcode : Cond.code Lib.objectInit ⟨#[0xb1]⟩ 1 none ∈ Ts) (hR : 1 ≤ R.frames ∧ 20 ≤ R.locals) (hd : decode cc pc = .ok (.invokespecial index, 3)) (hn : pc + 3 = nx) : zSnd (zConc p l e R s m args below meth c Qf nL D cl dA A ad0 n0) C R' pc (zt_objinit nx) := by
  intro ls st h n cu su ht hw hr hnn ad H locs lsA ha hP hD hS hl
  subst hn
  match st, ht, hw with
  | .ref a :: st, ht, hw =>
    unfold zt_objinit at ht
    cases hk : zsm st 8 with
    | false => simp only [hk] at ht
    | true =>
      simp only [hk] at ht
      have h8 := zsm_ok st 8 hk
      refine W.objInit F.1 F.2.1 F.2.2.2.1 (F.2.2.2.2 _ hlink) (F.2.2.2.2 _ hinst) (F.2.2.2.2 _ hcode) rfl (hl.1.trans F.2.2.1.symm) rfl hd hR.1 (by rw [zsm_map]; show 2 * 0 + _ + 12 ≤ _; omega) ?_
      exact ht ⟨hw.1, zws_tl hw.2.1, hw.2.2⟩ hr hnn ad H locs lsA ha hP hD hS hl
theorem zs_imax (F : CallFix p m c cc nL s args Ts own) {nx index : Nat} (hlink : Cond.methodLink own index Lib.Math.max.name ∈ Ts) (hst : Cond.static Lib.Math.max.name ∈ Ts) (hini : Cond.initialized "java/lang/Math" ∈ Ts) (hcode : Cond.code Lib.Math.max.name Lib.Math.max.code 2 (some .int) ∈ Ts) (hR : 1 ≤ R.frames ∧ 21 ≤ R.locals) (hd : decode cc pc = .ok (.invokestatic index, 3)) (hn : pc + 3 = nx) : zSnd (zConc p l e R s m args below meth c Qf nL D cl dA A ad0 n0) C R' pc (zt_imax nx) := by
  intro ls st h n cu su ht hw hr hnn ad H locs lsA ha hP hD hS hl
  subst hn
  match st, ht, hw with
  | .int b :: .int a :: st, ht, hw =>
    unfold zt_imax at ht
    cases hk : zsm st 8 with
    | false => simp only [hk] at ht
    | true =>
      simp only [hk] at ht
      have h8 := zsm_ok st 8 hk
      exact va_mmax F.1 F.2.1 (F.2.2.1.trans hl.1.symm) F.2.2.2.1 (F.2.2.2.2 _ hlink) (F.2.2.2.2 _ hst) (F.2.2.2.2 _ hini) (F.2.2.2.2 _ hcode) hR.1 (by rw [zsm_map]; omega) hr.1 hr.2 hd (ht ⟨hw.1, zws_cons zwv_int (zws_tl (zws_tl hw.2.1)), hw.2.2⟩ hr hnn ad H locs lsA ha hP hD hS hl)
theorem zs_imin (F : CallFix p m c cc nL s args Ts own) {nx index : Nat} (hlink : Cond.methodLink own index Lib.Math.min.name ∈ Ts) (hst : Cond.static Lib.Math.min.name ∈ Ts) (hini : Cond.initialized "java/lang/Math" ∈ Ts) (hcode : Cond.code Lib.Math.min.name Lib.Math.min.code 2 (some .int) ∈ Ts) (hR : 1 ≤ R.frames ∧ 21 ≤ R.locals) (hd : decode cc pc = .ok (.invokestatic index, 3)) (hn : pc + 3 = nx) : zSnd (zConc p l e R s m args below meth c Qf nL D cl dA A ad0 n0) C R' pc (zt_imin nx) := by
  intro ls st h n cu su ht hw hr hnn ad H locs lsA ha hP hD hS hl
  subst hn
  match st, ht, hw with
  | .int b :: .int a :: st, ht, hw =>
    unfold zt_imin at ht
    cases hk : zsm st 8 with
    | false => simp only [hk] at ht
    | true =>
      simp only [hk] at ht
      have h8 := zsm_ok st 8 hk
      exact va_mmin F.1 F.2.1 (F.2.2.1.trans hl.1.symm) F.2.2.2.1 (F.2.2.2.2 _ hlink) (F.2.2.2.2 _ hst) (F.2.2.2.2 _ hini) (F.2.2.2.2 _ hcode) hR.1 (by rw [zsm_map]; omega) hr.1 hr.2 hd (ht ⟨hw.1, zws_cons zwv_int (zws_tl (zws_tl hw.2.1)), hw.2.2⟩ hr hnn ad H locs lsA ha hP hD hS hl)
theorem zs_lookup (F : CallFix p m c cc nL s args Ts own) {dflt : Int} {ps : Array (Int × Int)} {len : Nat} {qs : List (Int32 × Nat)} {dt : Nat} (hd : decode cc pc = .ok (.lookupswitch dflt ps, len)) (hp : (ps.toList.zip (ps.toList.drop 1)).all (fun (a, next) => a.1 < next.1) = true) (hq : ∀ x : Int32, (∃ q ∈ qs, x = q.1 ∧ (pc : Int) + Op.lookupswitch.offset ps.toList dflt x.toInt = ((q.2 : Nat) : Int)) ∨ ((∀ q ∈ qs, ¬ x = q.1) ∧ (pc : Int) + Op.lookupswitch.offset ps.toList dflt x.toInt = ((dt : Nat) : Int))) : zSnd (zConc p l e R s m args below meth c Qf nL D cl dA A ad0 n0) C R' pc (zt_lookup qs dt) := by
  intro ls st h n cu su ht hw hr hnn ad H locs lsA ha hP hD hS hl
  match st, ht, hw with
  | .int a :: st, ht, hw =>
    rcases hq a with ⟨q, h1, h2, h3⟩ | ⟨h1, h3⟩
    · exact lv_lookup F.1 F.2.1 hd hp rfl h3 (ht.1 q h1 h2 ⟨hw.1, zws_tl hw.2.1, hw.2.2⟩ hr hnn ad H locs lsA ha hP hD hS hl)
    · exact lv_lookup F.1 F.2.1 hd hp rfl h3 (ht.2 h1 ⟨hw.1, zws_tl hw.2.1, hw.2.2⟩ hr hnn ad H locs lsA ha hP hD hS hl)
end ZSound
