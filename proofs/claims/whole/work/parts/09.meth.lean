/-! ends of a method; a method out of its table -/
section ZEnds
variable {p : Program} {l : Launch} {e : Env} {R : Room} {s : State} {m : MethodId} {args : Array Value} {below : List Frame} {meth : Method} {c : Code}
variable {cc : ByteArray} {nL : Nat} {Ts : List Cond} {own SC : String} {D : va_G} {cl : List vw_C} {dA : Nat → ClassId} {ad0 : Nat → Nat} {n0 : Nat} {h0 : zH}
variable {St : List (String × Nat × String)} {Nw : List Cond} {Nc : List (String × String)}
variable {C : zK} {R' : zQ} {pc : Nat}
/-- what a method's body owes at its end -/
abbrev zQf (R : Room) (s : State) (args : Array Value) (below : List Frame) (D : va_G) (cl : List vw_C) (dA : Nat → ClassId) (ad0 : Nat → Nat) (h0 : zH) (n0 : Nat) (R' : zQ) : State → Prop :=
  vx_MQ below (zQc D cl dA ad0 h0 n0 s.heap.size R') (zXC D cl dA ad0 h0 n0 s.heap.size R') args s R.cells R.slots (va_A (zW dA ad0 h0 n0) s.heap.size)
theorem zs_endQ {n : Nat} {h : zH} {ad : Nat → Nat} {H : Heap} {locs : List Loc} {r : Option Value} (hR : R' 0 r h n) (hwr : ∀ v, r = some v → zwv n v) (hwh : zwh n h) (hnn : n0 ≤ n) (ha : ∀ i, i < n0 → ad i = ad0 i) (hP : va_P D cl (zW dA ad h n) H) (hD : va_D (va_A (zW dA ad0 h0 n0) s.heap.size) (zW dA ad h n)) (hS : va_S (va_A (zW dA ad0 h0 n0) s.heap.size) s.heap H locs) :
    ∀ t : State, t.heap = H → s.WarmedH t.vm → zQc D cl dA ad0 h0 n0 s.heap.size R' args s (.returned (r.map (zv ad))) t :=
  fun t ht _ => ⟨r, h, n, ad, rfl, hR, hwr, hnn, ha, hwh, by rw [ht]; exact hP, hD, hS.F ht⟩
theorem zs_iret (F : CallFix p m c cc nL s args Ts own) (hr9 : meth.sig.returnType = some .int) (hlk : meth.locks = false) (hd : decode cc pc = .ok (.ireturn, 1)) : zSnd (zConc p l e R s m args below meth c (zQf R s args below D cl dA ad0 h0 n0 R') nL D cl dA (va_A (zW dA ad0 h0 n0) s.heap.size) ad0 n0) C R' pc zt_iret := by
  intro ls st h n cu su ht hw hr hnn ad H locs lsA ha hP hD hS hl
  match st, ht, hw with
  | [.int v], ht, hw => exact W.widen hr.1 hr.2 (vx_ret (W.iret F.1 F.2.1 hr9 (zs_endQ (r := some (.int v)) ht (fun w hw => by cases hw; exact zwv_int) hw.2.2 hnn ha hP hD hS) hS.2.2 hd hlk))
theorem zs_zret (F : CallFix p m c cc nL s args Ts own) (hr9 : meth.sig.returnType = some .boolean) (hlk : meth.locks = false) (hd : decode cc pc = .ok (.ireturn, 1)) : zSnd (zConc p l e R s m args below meth c (zQf R s args below D cl dA ad0 h0 n0 R') nL D cl dA (va_A (zW dA ad0 h0 n0) s.heap.size) ad0 n0) C R' pc zt_zret := by
  intro ls st h n cu su ht hw hr hnn ad H locs lsA ha hP hD hS hl
  match st, ht, hw with
  | [.int v], ht, hw => exact W.widen hr.1 hr.2 (vx_ret (W.zret F.1 F.2.1 hr9 (by rcases ht.1 with rfl | rfl <;> rfl) (zs_endQ (r := some (.int v)) ht.2 (fun w hw => by cases hw; exact zwv_int) hw.2.2 hnn ha hP hD hS) hS.2.2 hd hlk))
theorem zs_lret (F : CallFix p m c cc nL s args Ts own) (hr9 : meth.sig.returnType = some .long) (hlk : meth.locks = false) (hd : decode cc pc = .ok (.lreturn, 1)) : zSnd (zConc p l e R s m args below meth c (zQf R s args below D cl dA ad0 h0 n0 R') nL D cl dA (va_A (zW dA ad0 h0 n0) s.heap.size) ad0 n0) C R' pc zt_lret := by
  intro ls st h n cu su ht hw hr hnn ad H locs lsA ha hP hD hS hl
  match st, ht, hw with
  | [.long v], ht, hw => exact W.widen hr.1 hr.2 (vx_ret (W.lret F.1 F.2.1 hr9 (zs_endQ (r := some (.long v)) ht (fun w hw => by cases hw; exact zwv_long) hw.2.2 hnn ha hP hD hS) hS.2.2 hd hlk))
theorem zs_dret (F : CallFix p m c cc nL s args Ts own) (hr9 : meth.sig.returnType = some .double) (hlk : meth.locks = false) (hd : decode cc pc = .ok (.dreturn, 1)) : zSnd (zConc p l e R s m args below meth c (zQf R s args below D cl dA ad0 h0 n0 R') nL D cl dA (va_A (zW dA ad0 h0 n0) s.heap.size) ad0 n0) C R' pc zt_dret := by
  intro ls st h n cu su ht hw hr hnn ad H locs lsA ha hP hD hS hl
  match st, ht, hw with
  | [.double v], ht, hw => exact W.widen hr.1 hr.2 (vx_ret (W.dret F.1 F.2.1 hr9 (zs_endQ (r := some (.double v)) ht (fun w hw => by cases hw; exact zwv_double) hw.2.2 hnn ha hP hD hS) hS.2.2 hd hlk))
theorem zs_aret (F : CallFix p m c cc nL s args Ts own) {rt : FieldType} (hr9 : meth.sig.returnType = some rt) (hrt : (∃ n, rt = .object n) ∨ ∃ t, rt = .array t) (hlk : meth.locks = false) (hd : decode cc pc = .ok (.areturn, 1)) : zSnd (zConc p l e R s m args below meth c (zQf R s args below D cl dA ad0 h0 n0 R') nL D cl dA (va_A (zW dA ad0 h0 n0) s.heap.size) ad0 n0) C R' pc zt_aret := by
  intro ls st h n cu su ht hw hr hnn ad H locs lsA ha hP hD hS hl
  match st, ht, hw with
  | [.ref v], ht, hw => exact W.widen hr.1 hr.2 (vx_ret (W.aret F.1 F.2.1 hr9 hrt (Or.inr ⟨_, rfl⟩) (zs_endQ (r := some (.ref v)) ht (fun w hw2 => by cases hw2; exact zws_hd hw.2.1) hw.2.2 hnn ha hP hD hS) hS.2.2 hd hlk))
theorem zs_vret (F : CallFix p m c cc nL s args Ts own) (hr9 : meth.sig.returnType = none) (hlk : meth.locks = false) (hd : decode cc pc = .ok (.return_, 1)) : zSnd (zConc p l e R s m args below meth c (zQf R s args below D cl dA ad0 h0 n0 R') nL D cl dA (va_A (zW dA ad0 h0 n0) s.heap.size) ad0 n0) C R' pc zt_vret := by
  intro ls st h n cu su ht hw hr hnn ad H locs lsA ha hP hD hS hl
  match st, ht, hw with
  | [], ht, hw => exact W.widen hr.1 hr.2 (vx_ret (W.vret F.1 F.2.1 hr9 (zs_endQ (r := none) ht (fun w hw => nomatch hw) hw.2.2 hnn ha hP hD hS) hS.2.2 hd hlk))
/-- what a place that throws owes of the tables -/
def zthr (Ts Nw : List Cond) (own : String) (ik ic x : Nat) : Prop :=
  Cond.classLink own ik (zxn x) ∈ Ts ∧ Cond.initialized (zxn x) ∈ Ts ∧ (∀ w ∈ (vx_atS own ic (zxn x) ["java/lang/RuntimeException", "java/lang/Exception"]).filter goodWord, w ∈ Ts) ∧ (∀ w ∈ (vx_atS own ic (zxn x) ["java/lang/RuntimeException", "java/lang/Exception"]).filter (fun w => !goodWord w), w ∈ Nw ∧ w.onTables = true) ∧
  (∀ w ∈ Cond.classLink own ik (zxn x) :: Cond.initialized (zxn x) :: vx_atS own ic (zxn x) ["java/lang/RuntimeException", "java/lang/Exception"], vx_ot w = true) ∧ Bundle.fit (zxn x) = true ∧ (∀ n ∈ ["java/lang/RuntimeException", "java/lang/Exception"], Bundle.fit n = true)
theorem zs_throw (F : CallFix p m c cc nL s args Ts own) (hE : zEnv St Nw Nc SC (va_A (zW dA ad0 h0 n0) s.heap.size) s s.heap) (hlst : l.stackTraces = false) (hlk : meth.locks = false) {ik is ic x : Nat} {text : String} (hx3 : x < 3) (hth : zthr Ts Nw own ik ic x) (htx : (own, is, text) ∈ St) (hout : c.exceptionTable.toList = []) (hRf : 5 < R.frames) (hRl : 82 ≤ R.locals)
    (d0 : decode cc pc = .ok (.new ik, 3)) (d3 : decode cc (pc + 3) = .ok (.dup, 1)) (d4 : decode cc (pc + 4) = .ok (.ldc is, 2)) (d6 : decode cc (pc + 6) = .ok (.invokespecial ic, 3)) (d9 : decode cc (pc + 9) = .ok (.athrow, 1)) :
    zSnd (zConc p l e R s m args below meth c (zQf R s args below D cl dA ad0 h0 n0 R') nL D cl dA (va_A (zW dA ad0 h0 n0) s.heap.size) ad0 n0) C R' pc (zt_throw x (R.cells, R.slots)) := by
  intro ls st h n cu su ht hw hr hnn ad H locs lsA ha hP hD hS hl
  match st, ht, hw with
  | [], ht, hw =>
    obtain ⟨f1, f2⟩ := zfit_ok ht.1
    obtain ⟨sa, hsa⟩ := hE.2.2.1 _ htx
    obtain ⟨t1, t2, t3, t4, t5, t6, t7⟩ := hth
    refine vx_throwS (names := ["java/lang/RuntimeException", "java/lang/Exception"]) F.1 F.2.1 hlst F.2.2.2.1 t6 t7 (F.2.2.2.2 _ t1) (F.2.2.2.2 _ t2) hsa
      (vx_hat (B := (vx_atS own ic (zxn x) ["java/lang/RuntimeException", "java/lang/Exception"]).filter (fun w => !goodWord w)) (fun w hw => F.2.2.2.2 _ (t3 w hw)) (fun w hw => hw) (fun w hw => va_Nw.use (t4 w hw).2 (hE.2.2.2.1 _ (t4 w hw).1))) t5 hE.1 hE.2.1 hS (hl.1.trans F.2.2.1.symm) d0 d3 d4 d6 d9 (fun x hx => by rw [hout] at hx; exact nomatch hx) hRf hRl f1 f2 hlk (fun t hvm hz hk => ?_) hS.2.2 f1 f2
    exact ⟨x, h, n, ad, rfl, hx3, ht.2, hnn, ha, hw.2.2, hP.kept (fun k q hq => hk _ (hP k q hq).lt), hD, ⟨Nat.le_trans hS.1 hz, fun q h1 h2 => (hk q (Nat.lt_of_lt_of_le h1 hS.1)).trans (hS.2.1 q h1 h2)⟩⟩
end ZEnds
-- the locals at a method's entry
def zarg : List Value → zL
  | [] => []
  | v :: vs => match v with
    | .long _ => some v :: none :: zarg vs
    | .double _ => some v :: none :: zarg vs
    | _ => some v :: zarg vs
def zpad : Nat → zL → zL
  | 0, _ => []
  | k + 1, [] => none :: zpad k []
  | k + 1, a :: l => a :: zpad k l
def zent (k : Nat) (vs : List Value) : zL := zpad k (zarg vs)
theorem zget_pad : ∀ (k : Nat) (l : zL) (i : Nat) (v : Value), zget (zpad k l) i = some v → zget l i = some v := by
  intro k
  induction k with
  | zero => intro l i v h; exact nomatch h
  | succ k ih =>
    intro l i v h
    cases l with
    | nil =>
      cases i with
      | zero => exact nomatch h
      | succ i => exact ih [] i v h
    | cons a l =>
      cases i with
      | zero => exact h
      | succ i => exact ih l i v h
theorem zget_arg {n : Nat} : ∀ (vs : List Value), zws n vs → zwl n (zarg vs) := by
  intro vs
  induction vs with
  | nil => intro hw i v h; exact nomatch h
  | cons w vs ih =>
    intro hw i v h
    cases w with
    | long x =>
      match i, h with
      | 0, h => cases h; exact hw _ List.mem_cons_self
      | i + 2, h => exact ih (zws_tl hw) i v h
    | double x =>
      match i, h with
      | 0, h => cases h; exact hw _ List.mem_cons_self
      | i + 2, h => exact ih (zws_tl hw) i v h
    | _ =>
      match i, h with
      | 0, h => cases h; exact hw _ List.mem_cons_self
      | i + 1, h => exact ih (zws_tl hw) i v h
theorem zent_wl {n k : Nat} {vs : List Value} (h : zws n vs) : zwl n (zent k vs) := fun i v hv => zget_arg vs h i v (zget_pad k _ i v hv)
theorem zarg_args {ad : Nat → Nat} : ∀ (vs : List Value) (i : Nat), ∀ q ∈ zlv ad i (zarg vs), q ∈ lv_args i (vs.map (zv ad)) := by
  intro vs
  induction vs with
  | nil => intro i q hq; exact nomatch hq
  | cons v vs ih =>
    intro i q hq
    have hcat : (zv ad v).category = v.category := zcat ad v
    show q ∈ (i, zv ad v) :: lv_args (if (zv ad v).category = 2 then i + 2 else i + 1) (vs.map (zv ad))
    rw [hcat]
    cases v with
    | long x =>
      rcases List.mem_cons.mp hq with h | h
      · exact List.mem_cons.mpr (Or.inl h)
      · exact List.mem_cons_of_mem _ (ih (i + 2) q h)
    | double x =>
      rcases List.mem_cons.mp hq with h | h
      · exact List.mem_cons.mpr (Or.inl h)
      · exact List.mem_cons_of_mem _ (ih (i + 2) q h)
    | _ =>
      rcases List.mem_cons.mp hq with h | h
      · exact List.mem_cons.mpr (Or.inl h)
      · exact List.mem_cons_of_mem _ (ih (i + 1) q h)
theorem zent_has {ad : Nat → Nat} {k nL : Nat} {vs : List Value} {lsA : Array Slot} (hl : lv_has lsA nL (lv_args 0 (vs.map (zv ad)))) : lv_has lsA nL (zlv ad 0 (zent k vs)) := by
  refine ⟨hl.1, hl.2.1, fun q hq => ?_⟩
  obtain ⟨i, v, h1, rfl⟩ := (zlv_mem 0 q).mp hq
  exact hl.2.2 _ (zarg_args vs 0 _ ((zlv_mem 0 _).mpr ⟨i, v, zget_pad k _ i v h1, rfl⟩))
-- a method's table
theorem zlk_mem : ∀ (L : List (Nat × zT)) (pc : Nat) (t : zT), zlk L pc = some t → (pc, t) ∈ L := by
  intro L
  induction L with
  | nil => intro pc t h; exact nomatch h
  | cons a L ih =>
    intro pc t h
    obtain ⟨q, u⟩ := a
    unfold zlk at h
    cases hb : Nat.beq q pc with
    | true =>
      simp only [hb] at h
      cases h
      rw [Nat.eq_of_beq_eq_true hb]
      exact List.mem_cons_self
    | false =>
      simp only [hb] at h
      exact List.mem_cons_of_mem _ (ih pc t h)
theorem zfet_mem {T : List (List (Nat × zT))} {pc : Nat} {t : zT} (h : zfet T pc = some t) : ∃ L ∈ T, (pc, t) ∈ L := by
  unfold zfet at h
  cases hT : T[pc / 64]? with
  | none => simp only [hT] at h; exact nomatch h
  | some L =>
    simp only [hT] at h
    exact ⟨L, List.mem_of_getElem? hT, zlk_mem L pc t h⟩
/-- less known of the locals is less asked -/
def zfgt (P : zP) : Prop := ∀ pc ls ls' st h n cu su, (∀ i v, zget ls' i = some v → zget ls i = some v) → P pc ls' st h n cu su → P pc ls st h n cu su
theorem zConc_fgt {p : Program} {l : Launch} {e : Env} {R : Room} {s : State} {m : MethodId} {args : Array Value} {below : List Frame} {meth : Method} {c : Code} {Qf : State → Prop} {nL : Nat} {D : va_G} {cl : List vw_C} {dA : Nat → ClassId} {A : Nat → Prop} {ad0 : Nat → Nat} {n0 : Nat} : zfgt (zConc p l e R s m args below meth c Qf nL D cl dA A ad0 n0) :=
  fun pc ls ls' st h n cu su hsub hc hw hr hnn ad H locs lsA ha hP hD hS hl => hc ⟨fun i v hv => hw.1 i v (hsub i v hv), hw.2⟩ hr hnn ad H locs lsA ha hP hD hS (zl_sub hl hsub)
/-- all contracts of the table-driven machine: whoever is closed under the steps of a method's table bounds it -/
def zClosed (TT : Nat → Nat × List (List (Nat × zT))) (C : zK) : Prop :=
  (∀ y as h n (Q Q' : zQ), (∀ x r h n, Q x r h n → Q' x r h n) → C y as h n Q → C y as h n Q') ∧
  ∀ y as h n (Q : zQ), (∀ P : zP, (∀ pc ls st h n cu su, zstep (TT y).2 C Q P pc ls st h n cu su → P pc ls st h n cu su) → zfgt P → P 0 (zent (TT y).1 as) [] h n 0 0) → C y as h n Q
/-- a method whose table's every transformer is sound in every context has the contracts that the table gives -/
theorem z_meth {l : Launch} {D : va_G} {cl : List vw_C} {dA : Nat → ClassId} {SC : String} {St : List (String × Nat × String)} {Nw : List Cond} {Nc : List (String × String)} {MT : zMT} {Ts : List Cond} {k nL np : Nat} {cc : ByteArray} {ret : Option FieldType} {T : List (List (Nat × zT))}
    (hcal : zcal MT Ts k cc nL ret np) (hy : plainName (MT k).1.cls = true) {as : List Value} {h0 : zH} {n0 : Nat} {Q : zQ} (hlen : (lg_sl (as.map (zv (fun i => i)))).length ≤ nL)
    (hS : ∀ (ad0 : Nat → Nat) (p : Program) (e : Env) (s : State) (m : MethodId) (args : Array Value) (below : List Frame) (meth : Method) (c : Code),
      CallFix p m c cc nL s args Ts (MT k).1.cls → meth.sig.returnType = ret → meth.locks = false → meth.name = (MT k).1.name → c.exceptionTable.toList = [] → va_K D cl (zTys dA SC) s → zEnv St Nw Nc SC (va_A (zW dA ad0 h0 n0) s.heap.size) s s.heap →
      ∀ L ∈ T, ∀ q ∈ L, zSnd (zConc p l e (MT k).2.2 s m args below meth c (zQf (MT k).2.2 s args below D cl dA ad0 h0 n0 Q) nL D cl dA (va_A (zW dA ad0 h0 n0) s.heap.size) ad0 n0) (zMet l D cl dA SC St Nw Nc MT) Q q.1 q.2)
    (hP : ∀ P : zP, (∀ pc ls st h n cu su, zstep T (zMet l D cl dA SC St Nw Nc MT) Q P pc ls st h n cu su → P pc ls st h n cu su) → zfgt P → P 0 (zent nL as) [] h0 n0 0 0) : zMet l D cl dA SC St Nw Nc MT k as h0 n0 Q := by
  intro hwa hwh ad sz
  refine vx_ofW (cc := cc) (maxL := nL) (ret := ret) hy hcal.1 ?_
  intro p e s m args below meth c s₁ B hml htab hv
  obtain ⟨rfl, hsz, hP0, hK, hD0, hE⟩ := hv
  subst hsz
  have hts := atoms_spec (ws := (MT k).2.1) B.pre
  have hts' : ∀ w ∈ Ts, w.before _ s = true := fun w hw => hts w (by rw [hcal.1]; exact List.mem_cons_of_mem _ hw)
  have F : CallFix p m c cc nL s (as.map (zv ad)).toArray Ts (MT k).1.cls := ⟨B.exec, B.bytes, hml, findClass_of_methodNamed B.named, hts'⟩
  have htab' : c.exceptionTable.toList = [] := List.eq_nil_iff_forall_not_mem.mpr fun x hx => htab x hx
  have hSn := hS ad p e s m _ below meth c F B.returns B.notSynchronized (name_of_methodNamed B.named B.method).1 htab' hK hE
  have key := hP _ (fun pc ls st h n cu su hst => by
    unfold zstep at hst
    cases hf : zfet T pc with
    | none => simp only [hf] at hst
    | some t =>
      simp only [hf] at hst
      obtain ⟨L, hL, hm⟩ := zfet_mem hf
      exact hSn L hL _ hm ls st h n cu su hst) zConc_fgt
  have hlen' : (lg_sl (as.map (zv ad))).length ≤ nL := by
    have e1 : ∀ (f g : Nat → Nat) (vs : List Value), (lg_sl (vs.map (zv f))).length = (lg_sl (vs.map (zv g))).length := by
      intro f g vs
      induction vs with
      | nil => rfl
      | cons v vs ih =>
        unfold lg_sl at ih ⊢
        simp only [List.map_cons, List.flatMap_cons, List.length_append, ih]
        cases v <;> rfl
    rw [e1 ad (fun i => i)]
    exact hlen
  have hl := lv_entry (as.map (zv ad)) hlen'
  rw [lg_entry_eq]
  refine key ⟨zent_wl hwa, zws_nil, hwh⟩ ⟨Nat.zero_le _, Nat.zero_le _⟩ (Nat.le_refl _) ad s.heap [] _ (fun _ _ => rfl) hP0 hD0.self va_S.rf (zent_has hl)
