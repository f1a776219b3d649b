/-! THE LAW'S OWN MACHINE: its script lies in local 0, an old cell that nothing writes -/
section ZLaw
variable {p : Program} {l : Launch} {e : Env} {R : Room} {s : State} {m : MethodId} {args : Array Value} {below : List Frame} {meth : Method} {c : Code} {Qf : State → Prop}
variable {cc : ByteArray} {nL : Nat} {Ts : List Cond} {own SC : String} {D : va_G} {cl : List vw_C} {dA : Nat → ClassId} {A : Nat → Prop} {ad0 : Nat → Nat} {n0 bS : Nat}
variable {St : List (String × Nat × String)} {Nw : List Cond} {Nc : List (String × String)} {MT : zMT}
variable {C : zK} {R' : zQ} {pc : Nat}
def zConcL (p : Program) (l : Launch) (e : Env) (R : Room) (s : State) (m : MethodId) (args : Array Value) (below : List Frame) (meth : Method) (c : Code) (Qf : State → Prop) (nL : Nat) (D : va_G) (cl : List vw_C) (dA : Nat → ClassId) (A : Nat → Prop) (ad0 : Nat → Nat) (n0 bS : Nat) : zP := fun pc ls st h n cu su =>
  (zwl n ls ∧ zws n st ∧ zwh n h) → (cu ≤ R.cells ∧ su ≤ R.slots) → n0 ≤ n → ∀ (ad : Nat → Nat) (H : Heap) (locs : List Loc) (lsA : Array Slot), (∀ i, i < n0 → ad i = ad0 i) →
    va_P D cl (zW dA ad h n) H → va_D A (zW dA ad h n) → va_S A s.heap H locs → lv_has lsA nL ((0, .ref bS) :: zlv ad 0 ls) →
    W p l e R s m args below meth c H locs cu su Qf (F0 m pc lsA (st.map (zv ad)))
theorem zLl {lsA : Array Slot} {nL : Nat} {q : Nat × Value} {L : List (Nat × Value)} (hl : lv_has lsA nL (q :: L)) : lv_has lsA nL L := ⟨hl.1, hl.2.1, fun q hq => hl.2.2 q (List.mem_cons_of_mem _ hq)⟩
theorem zLc {lsA : Array Slot} {nL : Nat} {q : Nat × Value} {L : List (Nat × Value)} (h0 : lsA[q.1]? = some (.val q.2)) (hl : lv_has lsA nL L) : lv_has lsA nL (q :: L) := ⟨hl.1, hl.2.1, fun q' hq => (List.mem_cons.mp hq).elim (fun e => by rw [e]; exact h0) (hl.2.2 q')⟩
theorem zLh {lsA : Array Slot} {nL : Nat} {q : Nat × Value} {L : List (Nat × Value)} (hl : lv_has lsA nL (q :: L)) : lsA[q.1]? = some (.val q.2) := hl.2.2 q List.mem_cons_self
theorem zLag {ad ad' : Nat → Nat} {n bS : Nat} (ha : ∀ i, i < n → ad' i = ad i) {ls : zL} (h : zwl n ls) {lsA : Array Slot} {nL : Nat} (hl : lv_has lsA nL ((0, .ref bS) :: zlv ad 0 ls)) : lv_has lsA nL ((0, .ref bS) :: zlv ad' 0 ls) := zLc (zLh hl) (zlv_agree ha h (zLl hl))
theorem zLsub {ad : Nat → Nat} {ls ls' : zL} {lsA : Array Slot} {nL bS : Nat} (hl : lv_has lsA nL ((0, .ref bS) :: zlv ad 0 ls)) (h : ∀ i v, zget ls' i = some v → zget ls i = some v) : lv_has lsA nL ((0, .ref bS) :: zlv ad 0 ls') := zLc (zLh hl) (zl_sub (zLl hl) h)
theorem zLs1 {ad : Nat → Nat} {ls : zL} {lsA : Array Slot} {nL i bS : Nat} {v : Value} (h0 : 0 < i) (hk : zok ls i = true) (hl : lv_has lsA nL ((i, zv ad v) :: ((0, .ref bS) :: zlv ad 0 ls).filter (fun q => !(q.1 == i) && !(q.1 + 1 == i && q.2.category == 2)))) : lv_has lsA nL ((0, .ref bS) :: zlv ad 0 (zset ls i v)) := by
  refine zLc (hl.2.2 (0, .ref bS) (List.mem_cons_of_mem _ (List.mem_filter.mpr ⟨List.mem_cons_self, ?_⟩))) (zl_store1 hk ⟨hl.1, hl.2.1, fun q hq => hl.2.2 q ?_⟩)
  · have h1 : ((0 : Nat) == i) = false := by
      rw [beq_eq_false_iff_ne]
      omega
    show (!((0 : Nat) == i) && !(0 + 1 == i && Value.category (.ref bS) == 2)) = true
    rw [h1, show (Value.category (.ref bS) == 2) = false from rfl, Bool.and_false]
    rfl
  · rcases List.mem_cons.mp hq with e | e
    · rw [e]; exact List.mem_cons_self
    · obtain ⟨e1, e2⟩ := List.mem_filter.mp e
      exact List.mem_cons_of_mem _ (List.mem_filter.mpr ⟨List.mem_cons_of_mem _ e1, e2⟩)
theorem zLs2 {ad : Nat → Nat} {ls : zL} {lsA : Array Slot} {nL i bS : Nat} {v : Value} (h0 : 0 < i) (hk : zok ls i = true) (hl : lv_has lsA nL ((i, zv ad v) :: ((0, .ref bS) :: zlv ad 0 ls).filter (fun q => !(q.1 == i) && (!(q.1 == i + 1) && !(q.1 + 1 == i && q.2.category == 2))))) : lv_has lsA nL ((0, .ref bS) :: zlv ad 0 (zclr (zset ls i v) (i + 1))) := by
  refine zLc (hl.2.2 (0, .ref bS) (List.mem_cons_of_mem _ (List.mem_filter.mpr ⟨List.mem_cons_self, ?_⟩))) (zl_store2 hk ⟨hl.1, hl.2.1, fun q hq => hl.2.2 q ?_⟩)
  · have h1 : ((0 : Nat) == i) = false := by
      rw [beq_eq_false_iff_ne]
      omega
    have h2 : ((0 : Nat) == i + 1) = false := by
      rw [beq_eq_false_iff_ne]
      omega
    show (!((0 : Nat) == i) && (!((0 : Nat) == i + 1) && !(0 + 1 == i && Value.category (.ref bS) == 2))) = true
    rw [h1, h2, show (Value.category (.ref bS) == 2) = false from rfl, Bool.and_false]
    rfl
  · rcases List.mem_cons.mp hq with e | e
    · rw [e]; exact List.mem_cons_self
    · obtain ⟨e1, e2⟩ := List.mem_filter.mp e
      exact List.mem_cons_of_mem _ (List.mem_filter.mpr ⟨List.mem_cons_of_mem _ e1, e2⟩)
theorem zsL_iload (F : CallFix p m c cc nL s args Ts own) {i nx : Nat} (hd : decode cc pc = .ok (.iload i, 2)) (hn : pc + 2 = nx) : zSnd (zConcL p l e R s m args below meth c Qf nL D cl dA A ad0 n0 bS) C R' pc (zt_iload i nx) := by
  intro ls st h n cu su ht hw hr hnn ad H locs lsA ha hP hD hS hl
  subst hn
  unfold zt_iload at ht
  cases hg : zget ls i with
  | none => rw [hg] at ht; exact ht.elim
  | some v =>
    rw [hg] at ht
    cases v <;> first | exact ht.elim | exact lv_iload F.1 F.2.1 hd (zl_at (zLl hl) hg) (ht ⟨hw.1, zws_cons zwv_int hw.2.1, hw.2.2⟩ hr hnn ad H locs lsA ha hP hD hS hl)
theorem zsL_aload (F : CallFix p m c cc nL s args Ts own) {i nx : Nat} (hd : decode cc pc = .ok (.aload i, 2)) (hn : pc + 2 = nx) : zSnd (zConcL p l e R s m args below meth c Qf nL D cl dA A ad0 n0 bS) C R' pc (zt_aload i nx) := by
  intro ls st h n cu su ht hw hr hnn ad H locs lsA ha hP hD hS hl
  subst hn
  unfold zt_aload at ht
  cases hg : zget ls i with
  | none => rw [hg] at ht; exact ht.elim
  | some v =>
    rw [hg] at ht
    cases v <;> first | exact ht.elim | exact lv_aload F.1 F.2.1 hd (zl_at (zLl hl) hg) (ht ⟨hw.1, zws_cons (hw.1 _ _ hg) hw.2.1, hw.2.2⟩ hr hnn ad H locs lsA ha hP hD hS hl)
theorem zsL_aload_n (F : CallFix p m c cc nL s args Ts own) {k : Fin 4} {i nx : Nat} (hd : decode cc pc = .ok (.aload_n k, 1)) (hi : (k : Nat) = i) (hn : pc + 1 = nx) : zSnd (zConcL p l e R s m args below meth c Qf nL D cl dA A ad0 n0 bS) C R' pc (zt_aload i nx) := by
  intro ls st h n cu su ht hw hr hnn ad H locs lsA ha hP hD hS hl
  subst hn
  unfold zt_aload at ht
  cases hg : zget ls i with
  | none => rw [hg] at ht; exact ht.elim
  | some v =>
    rw [hg] at ht
    cases v <;> first | exact ht.elim | exact lv_aload_n F.1 F.2.1 hd hi (zl_at (zLl hl) hg) (ht ⟨hw.1, zws_cons (hw.1 _ _ hg) hw.2.1, hw.2.2⟩ hr hnn ad H locs lsA ha hP hD hS hl)
theorem zsL_dload (F : CallFix p m c cc nL s args Ts own) {i nx : Nat} (hd : decode cc pc = .ok (.dload i, 2)) (hn : pc + 2 = nx) : zSnd (zConcL p l e R s m args below meth c Qf nL D cl dA A ad0 n0 bS) C R' pc (zt_dload i nx) := by
  intro ls st h n cu su ht hw hr hnn ad H locs lsA ha hP hD hS hl
  subst hn
  unfold zt_dload at ht
  cases hg : zget ls i with
  | none => rw [hg] at ht; exact ht.elim
  | some v =>
    rw [hg] at ht
    cases v <;> first | exact ht.elim | exact lv_dload F.1 F.2.1 hd (zl_at (zLl hl) hg) (ht ⟨hw.1, zws_cons zwv_double hw.2.1, hw.2.2⟩ hr hnn ad H locs lsA ha hP hD hS hl)
theorem zsL_istore (F : CallFix p m c cc nL s args Ts own) {i nx : Nat} (hd : decode cc pc = .ok (.istore i, 2)) (hi : i < nL) (h00 : 0 < i) (hn : pc + 2 = nx) : zSnd (zConcL p l e R s m args below meth c Qf nL D cl dA A ad0 n0 bS) C R' pc (zt_istore i nx) := by
  intro ls st h n cu su ht hw hr hnn ad H locs lsA ha hP hD hS hl
  subst hn
  match st, ht, hw with
  | .int x :: st, ht, hw =>
    unfold zt_istore at ht
    cases hk : zok ls i with
    | false => simp only [hk] at ht
    | true =>
      simp only [hk] at ht
      exact lv_istore F.1 F.2.1 hd hl hi rfl fun ls' hl' => ht ⟨zwl_set hw.1 zwv_int, zws_tl hw.2.1, hw.2.2⟩ hr hnn ad H locs ls' ha hP hD hS (zLs1 h00 (v := .int x) hk hl')
theorem zsL_astore (F : CallFix p m c cc nL s args Ts own) {i nx : Nat} (hd : decode cc pc = .ok (.astore i, 2)) (hi : i < nL) (h00 : 0 < i) (hn : pc + 2 = nx) : zSnd (zConcL p l e R s m args below meth c Qf nL D cl dA A ad0 n0 bS) C R' pc (zt_astore i nx) := by
  intro ls st h n cu su ht hw hr hnn ad H locs lsA ha hP hD hS hl
  subst hn
  match st, ht, hw with
  | .ref x :: st, ht, hw =>
    unfold zt_astore at ht
    cases hk : zok ls i with
    | false => simp only [hk] at ht
    | true =>
      simp only [hk] at ht
      exact lv_astore F.1 F.2.1 hd hl hi rfl fun ls' hl' => ht ⟨zwl_set hw.1 (zws_hd hw.2.1), zws_tl hw.2.1, hw.2.2⟩ hr hnn ad H locs ls' ha hP hD hS (zLs1 h00 (v := .ref x) hk hl')
theorem zsL_astore_n (F : CallFix p m c cc nL s args Ts own) {k : Fin 4} {i nx : Nat} (hd : decode cc pc = .ok (.astore_n k, 1)) (he : (k : Nat) = i) (hi : i < nL) (h00 : 0 < i) (hn : pc + 1 = nx) : zSnd (zConcL p l e R s m args below meth c Qf nL D cl dA A ad0 n0 bS) C R' pc (zt_astore i nx) := by
  intro ls st h n cu su ht hw hr hnn ad H locs lsA ha hP hD hS hl
  subst hn
  match st, ht, hw with
  | .ref x :: st, ht, hw =>
    unfold zt_astore at ht
    cases hk : zok ls i with
    | false => simp only [hk] at ht
    | true =>
      simp only [hk] at ht
      exact lv_astore_n F.1 F.2.1 hd he hl hi rfl fun ls' hl' => ht ⟨zwl_set hw.1 (zws_hd hw.2.1), zws_tl hw.2.1, hw.2.2⟩ hr hnn ad H locs ls' ha hP hD hS (zLs1 h00 (v := .ref x) hk hl')
theorem zsL_dstore (F : CallFix p m c cc nL s args Ts own) {i nx : Nat} (hd : decode cc pc = .ok (.dstore i, 2)) (hi : i + 1 < nL) (h00 : 0 < i) (hn : pc + 2 = nx) : zSnd (zConcL p l e R s m args below meth c Qf nL D cl dA A ad0 n0 bS) C R' pc (zt_dstore i nx) := by
  intro ls st h n cu su ht hw hr hnn ad H locs lsA ha hP hD hS hl
  subst hn
  match st, ht, hw with
  | .double x :: st, ht, hw =>
    unfold zt_dstore at ht
    cases hk : zok ls i with
    | false => simp only [hk] at ht
    | true =>
      simp only [hk] at ht
      exact lv_dstore F.1 F.2.1 hd hl hi rfl fun ls' hl' => ht ⟨zwl_clr (zwl_set hw.1 zwv_double), zws_tl hw.2.1, hw.2.2⟩ hr hnn ad H locs ls' ha hP hD hS (zLs2 h00 (v := .double x) hk hl')
theorem zsL_iinc (F : CallFix p m c cc nL s args Ts own) {i nx : Nat} {k : Int} (hd : decode cc pc = .ok (.iinc i k, 3)) (hi : i < nL) (h00 : 0 < i) (hn : pc + 3 = nx) : zSnd (zConcL p l e R s m args below meth c Qf nL D cl dA A ad0 n0 bS) C R' pc (zt_iinc i k nx) := by
  intro ls st h n cu su ht hw hr hnn ad H locs lsA ha hP hD hS hl
  subst hn
  unfold zt_iinc at ht
  cases hg : zget ls i with
  | none => rw [hg] at ht; exact ht.elim
  | some v =>
    rw [hg] at ht
    cases v with
    | int x =>
      cases hk : zok ls i with
      | false => simp only [hk] at ht
      | true =>
        simp only [hk] at ht
        obtain ⟨k9, hk9⟩ := List.getElem?_of_mem ((zlv_mem 0 (0 + i, zv ad (.int x))).mpr ⟨i, .int x, hg, rfl⟩)
        rw [Nat.zero_add] at hk9
        exact lv_iinc F.1 F.2.1 hd hl (show ((0, Value.ref bS) :: zlv ad 0 ls)[k9 + 1]? = some (i, zv ad (Value.int x)) from hk9) rfl hi rfl fun ls' hl' => ht ⟨zwl_set hw.1 zwv_int, hw.2.1, hw.2.2⟩ hr hnn ad H locs ls' ha hP hD hS (zLs1 h00 (v := .int (x + Int32.ofInt k)) hk hl')
    | _ => exact ht.elim
theorem zsL_iconst (F : CallFix p m c cc nL s args Ts own) {k : Int} {v : Int32} {nx : Nat} (hd : decode cc pc = .ok (.iconst k, 1)) (hv : Int32.ofInt k = v) (hn : pc + 1 = nx) : zSnd (zConcL p l e R s m args below meth c Qf nL D cl dA A ad0 n0 bS) C R' pc (zt_iconst v nx) := by
  intro ls st h n cu su ht hw hr hnn ad H locs lsA ha hP hD hS hl
  subst hn
  exact lv_iconst F.1 F.2.1 hd hv (ht ⟨hw.1, zws_cons zwv_int hw.2.1, hw.2.2⟩ hr hnn ad H locs lsA ha hP hD hS hl)
theorem zsL_bipush (F : CallFix p m c cc nL s args Ts own) {k : Int} {v : Int32} {nx : Nat} (hd : decode cc pc = .ok (.bipush k, 2)) (hv : (Int8.ofInt k).toInt32 = v) (hn : pc + 2 = nx) : zSnd (zConcL p l e R s m args below meth c Qf nL D cl dA A ad0 n0 bS) C R' pc (zt_iconst v nx) := by
  intro ls st h n cu su ht hw hr hnn ad H locs lsA ha hP hD hS hl
  subst hn
  exact lv_bipush F.1 F.2.1 hd hv (ht ⟨hw.1, zws_cons zwv_int hw.2.1, hw.2.2⟩ hr hnn ad H locs lsA ha hP hD hS hl)
theorem zsL_isub (F : CallFix p m c cc nL s args Ts own) {nx : Nat} (hd : decode cc pc = .ok (.isub, 1)) (hn : pc + 1 = nx) : zSnd (zConcL p l e R s m args below meth c Qf nL D cl dA A ad0 n0 bS) C R' pc (zt_isub nx) := by
  intro ls st h n cu su ht hw hr hnn ad H locs lsA ha hP hD hS hl
  subst hn
  match st, ht, hw with
  | .int b :: .int a :: st, ht, hw => exact lv_isub F.1 F.2.1 hd (ht ⟨hw.1, zws_cons zwv_int (zws_tl (zws_tl hw.2.1)), hw.2.2⟩ hr hnn ad H locs lsA ha hP hD hS hl)
theorem zsL_iand (F : CallFix p m c cc nL s args Ts own) {nx : Nat} (hd : decode cc pc = .ok (.iand, 1)) (hn : pc + 1 = nx) : zSnd (zConcL p l e R s m args below meth c Qf nL D cl dA A ad0 n0 bS) C R' pc (zt_iand nx) := by
  intro ls st h n cu su ht hw hr hnn ad H locs lsA ha hP hD hS hl
  subst hn
  match st, ht, hw with
  | .int b :: .int a :: st, ht, hw => exact lv_iand F.1 F.2.1 hd (ht ⟨hw.1, zws_cons zwv_int (zws_tl (zws_tl hw.2.1)), hw.2.2⟩ hr hnn ad H locs lsA ha hP hD hS hl)
theorem zsL_i2l (F : CallFix p m c cc nL s args Ts own) {nx : Nat} (hd : decode cc pc = .ok (.i2l, 1)) (hn : pc + 1 = nx) : zSnd (zConcL p l e R s m args below meth c Qf nL D cl dA A ad0 n0 bS) C R' pc (zt_i2l nx) := by
  intro ls st h n cu su ht hw hr hnn ad H locs lsA ha hP hD hS hl
  subst hn
  match st, ht, hw with
  | .int a :: st, ht, hw => exact lv_i2l F.1 F.2.1 hd rfl (ht ⟨hw.1, zws_cons zwv_long (zws_tl hw.2.1), hw.2.2⟩ hr hnn ad H locs lsA ha hP hD hS hl)
theorem zsL_dcmp (F : CallFix p m c cc nL s args Ts own) {op : CmpOp} {nx : Nat} (hd : decode cc pc = .ok (.dcmp op, 1)) (hn : pc + 1 = nx) : zSnd (zConcL p l e R s m args below meth c Qf nL D cl dA A ad0 n0 bS) C R' pc (zt_dcmp op nx) := by
  intro ls st h n cu su ht hw hr hnn ad H locs lsA ha hP hD hS hl
  subst hn
  match st, ht, hw with
  | .double b :: .double a :: st, ht, hw => exact lv_dcmp F.1 F.2.1 hd (ht ⟨hw.1, zws_cons zwv_int (zws_tl (zws_tl hw.2.1)), hw.2.2⟩ hr hnn ad H locs lsA ha hP hD hS hl)
theorem zsL_dup (F : CallFix p m c cc nL s args Ts own) {nx : Nat} (hd : decode cc pc = .ok (.dup, 1)) (hn : pc + 1 = nx) : zSnd (zConcL p l e R s m args below meth c Qf nL D cl dA A ad0 n0 bS) C R' pc (zt_dup nx) := by
  intro ls st h n cu su ht hw hr hnn ad H locs lsA ha hP hD hS hl
  subst hn
  match st, ht, hw with
  | .int a :: st, ht, hw => exact lv_dup F.1 F.2.1 hd rfl (ht ⟨hw.1, zws_cons (zws_hd hw.2.1) hw.2.1, hw.2.2⟩ hr hnn ad H locs lsA ha hP hD hS hl)
  | .ref a :: st, ht, hw => exact lv_dup F.1 F.2.1 hd rfl (ht ⟨hw.1, zws_cons (zws_hd hw.2.1) hw.2.1, hw.2.2⟩ hr hnn ad H locs lsA ha hP hD hS hl)
theorem zsL_goto (F : CallFix p m c cc nL s args Ts own) {off : Int} {tgt : Nat} {is : List Nat} (hd : decode cc pc = .ok (.goto off, 3)) (hn : (pc : Int) + off = (tgt : Int)) : zSnd (zConcL p l e R s m args below meth c Qf nL D cl dA A ad0 n0 bS) C R' pc (zt_goto tgt is) := by
  intro ls st h n cu su ht hw hr hnn ad H locs lsA ha hP hD hS hl
  exact lv_goto F.1 F.2.1 hd hn (ht ⟨fun i v e => hw.1 i v (zget_clrs e), hw.2.1, hw.2.2⟩ hr hnn ad H locs lsA ha hP hD hS (zLsub hl fun i v e => zget_clrs e))
theorem zsL_ifeq (F : CallFix p m c cc nL s args Ts own) {off : Int} {tgt nx : Nat} (hd : decode cc pc = .ok (.ifCond .eq off, 3)) (ht9 : (pc : Int) + off = (tgt : Int)) (hn : pc + 3 = nx) : zSnd (zConcL p l e R s m args below meth c Qf nL D cl dA A ad0 n0 bS) C R' pc (zt_ifeq tgt nx) := by
  intro ls st h n cu su ht hw hr hnn ad H locs lsA ha hP hD hS hl
  subst hn
  match st, ht, hw with
  | .int a :: st, ht, hw => exact lv_if_eq F.1 F.2.1 hd ht9 (fun k => ht.1 k ⟨hw.1, zws_tl hw.2.1, hw.2.2⟩ hr hnn ad H locs lsA ha hP hD hS hl) (fun k => ht.2 k ⟨hw.1, zws_tl hw.2.1, hw.2.2⟩ hr hnn ad H locs lsA ha hP hD hS hl)
theorem zsL_ifne (F : CallFix p m c cc nL s args Ts own) {off : Int} {tgt nx : Nat} (hd : decode cc pc = .ok (.ifCond .ne off, 3)) (ht9 : (pc : Int) + off = (tgt : Int)) (hn : pc + 3 = nx) : zSnd (zConcL p l e R s m args below meth c Qf nL D cl dA A ad0 n0 bS) C R' pc (zt_ifne tgt nx) := by
  intro ls st h n cu su ht hw hr hnn ad H locs lsA ha hP hD hS hl
  subst hn
  match st, ht, hw with
  | .int a :: st, ht, hw => exact lv_if_ne F.1 F.2.1 hd ht9 (fun k => ht.1 k ⟨hw.1, zws_tl hw.2.1, hw.2.2⟩ hr hnn ad H locs lsA ha hP hD hS hl) (fun k => ht.2 k ⟨hw.1, zws_tl hw.2.1, hw.2.2⟩ hr hnn ad H locs lsA ha hP hD hS hl)
theorem zsL_icmpeq (F : CallFix p m c cc nL s args Ts own) {off : Int} {tgt nx : Nat} (hd : decode cc pc = .ok (.if_icmp .eq off, 3)) (ht9 : (pc : Int) + off = (tgt : Int)) (hn : pc + 3 = nx) : zSnd (zConcL p l e R s m args below meth c Qf nL D cl dA A ad0 n0 bS) C R' pc (zt_icmpeq tgt nx) := by
  intro ls st h n cu su ht hw hr hnn ad H locs lsA ha hP hD hS hl
  subst hn
  match st, ht, hw with
  | .int b :: .int a :: st, ht, hw => exact lv_icmp_eq F.1 F.2.1 hd ht9 (fun k => ht.1 k ⟨hw.1, zws_tl (zws_tl hw.2.1), hw.2.2⟩ hr hnn ad H locs lsA ha hP hD hS hl) (fun k => ht.2 k ⟨hw.1, zws_tl (zws_tl hw.2.1), hw.2.2⟩ hr hnn ad H locs lsA ha hP hD hS hl)
theorem zsL_icmpne (F : CallFix p m c cc nL s args Ts own) {off : Int} {tgt nx : Nat} (hd : decode cc pc = .ok (.if_icmp .ne off, 3)) (ht9 : (pc : Int) + off = (tgt : Int)) (hn : pc + 3 = nx) : zSnd (zConcL p l e R s m args below meth c Qf nL D cl dA A ad0 n0 bS) C R' pc (zt_icmpne tgt nx) := by
  intro ls st h n cu su ht hw hr hnn ad H locs lsA ha hP hD hS hl
  subst hn
  match st, ht, hw with
  | .int b :: .int a :: st, ht, hw => exact lv_icmp_ne F.1 F.2.1 hd ht9 (fun k => ht.1 k ⟨hw.1, zws_tl (zws_tl hw.2.1), hw.2.2⟩ hr hnn ad H locs lsA ha hP hD hS hl) (fun k => ht.2 k ⟨hw.1, zws_tl (zws_tl hw.2.1), hw.2.2⟩ hr hnn ad H locs lsA ha hP hD hS hl)
theorem zsL_icmpgt (F : CallFix p m c cc nL s args Ts own) {off : Int} {tgt nx : Nat} (hd : decode cc pc = .ok (.if_icmp .gt off, 3)) (ht9 : (pc : Int) + off = (tgt : Int)) (hn : pc + 3 = nx) : zSnd (zConcL p l e R s m args below meth c Qf nL D cl dA A ad0 n0 bS) C R' pc (zt_icmpgt tgt nx) := by
  intro ls st h n cu su ht hw hr hnn ad H locs lsA ha hP hD hS hl
  subst hn
  match st, ht, hw with
  | .int b :: .int a :: st, ht, hw => exact lv_icmp_gt F.1 F.2.1 hd ht9 (fun k => ht.1 k ⟨hw.1, zws_tl (zws_tl hw.2.1), hw.2.2⟩ hr hnn ad H locs lsA ha hP hD hS hl) (fun k => ht.2 k ⟨hw.1, zws_tl (zws_tl hw.2.1), hw.2.2⟩ hr hnn ad H locs lsA ha hP hD hS hl)
theorem zsL_leq_eq (F : CallFix p m c cc nL s args Ts own) {off : Int} {tgt nx : Nat} (hd : decode cc pc = .ok (.lcmp, 1)) (hd2 : decode cc (pc + 1) = .ok (.ifCond .eq off, 3)) (ht9 : ((pc + 1 : Nat) : Int) + off = (tgt : Int)) (hn : pc + 1 + 3 = nx) : zSnd (zConcL p l e R s m args below meth c Qf nL D cl dA A ad0 n0 bS) C R' pc (zt_leq tgt nx) := by
  intro ls st h n cu su ht hw hr hnn ad H locs lsA ha hP hD hS hl
  subst hn
  match st, ht, hw with
  | .long b :: .long a :: st, ht, hw =>
    refine W.lcmp F.1 F.2.1 hd ?_
    have hq : lg_cmp a b = 0 ↔ a = b := by
      unfold lg_cmp
      by_cases h1 : b < a
      · have : ¬ a = b := fun q => by subst q; exact absurd h1 (by simp)
        simp [h1, this]
      · by_cases h2 : a = b
        · simp [h1, h2]
        · simp [h1, h2]
    exact lv_if_eq F.1 F.2.1 hd2 ht9 (fun k => ht.1 (hq.mp k) ⟨hw.1, zws_tl (zws_tl hw.2.1), hw.2.2⟩ hr hnn ad H locs lsA ha hP hD hS hl) (fun k => ht.2 (fun q => k (hq.mpr q)) ⟨hw.1, zws_tl (zws_tl hw.2.1), hw.2.2⟩ hr hnn ad H locs lsA ha hP hD hS hl)
theorem zsL_leq_ne (F : CallFix p m c cc nL s args Ts own) {off : Int} {tgt nx : Nat} (hd : decode cc pc = .ok (.lcmp, 1)) (hd2 : decode cc (pc + 1) = .ok (.ifCond .ne off, 3)) (ht9 : ((pc + 1 : Nat) : Int) + off = (tgt : Int)) (hn : pc + 1 + 3 = nx) : zSnd (zConcL p l e R s m args below meth c Qf nL D cl dA A ad0 n0 bS) C R' pc (zt_leq nx tgt) := by
  intro ls st h n cu su ht hw hr hnn ad H locs lsA ha hP hD hS hl
  subst hn
  match st, ht, hw with
  | .long b :: .long a :: st, ht, hw =>
    refine W.lcmp F.1 F.2.1 hd ?_
    have hq : lg_cmp a b = 0 ↔ a = b := by
      unfold lg_cmp
      by_cases h1 : b < a
      · have : ¬ a = b := fun q => by subst q; exact absurd h1 (by simp)
        simp [h1, this]
      · by_cases h2 : a = b
        · simp [h1, h2]
        · simp [h1, h2]
    exact lv_if_ne F.1 F.2.1 hd2 ht9 (fun k => ht.2 (fun q => k (hq.mpr q)) ⟨hw.1, zws_tl (zws_tl hw.2.1), hw.2.2⟩ hr hnn ad H locs lsA ha hP hD hS hl) (fun k => ht.1 (hq.mp k) ⟨hw.1, zws_tl (zws_tl hw.2.1), hw.2.2⟩ hr hnn ad H locs lsA ha hP hD hS hl)
theorem zsL_lald (F : CallFix p m c cc nL s args Ts own) (hK : va_K D cl (zTys dA SC) s) {nx : Nat} (hd : decode cc pc = .ok (.laload, 1)) (hn : pc + 1 = nx) : zSnd (zConcL p l e R s m args below meth c Qf nL D cl dA A ad0 n0 bS) C R' pc (zt_lald nx) := by
  intro ls st h n cu su ht hw hr hnn ad H locs lsA ha hP hD hS hl
  subst hn
  match st, ht, hw with
  | .int i :: .ref a :: st, ht, hw =>
    obtain ⟨k, f, h1, h2, h3⟩ := ht
    have hg := zW_get (dA := dA) (ad := ad) (h := h) (zws_ref (zws_tl hw.2.1))
    rw [h1] at hg
    exact va_lald F.1 F.2.1 hK hP a 2 hg rfl h2 hd (h3 ⟨hw.1, zws_cons zwv_long (zws_tl (zws_tl hw.2.1)), hw.2.2⟩ hr hnn ad H locs lsA ha hP hD hS hl)
theorem zsL_dald (F : CallFix p m c cc nL s args Ts own) (hK : va_K D cl (zTys dA SC) s) {nx : Nat} (hd : decode cc pc = .ok (.daload, 1)) (hn : pc + 1 = nx) : zSnd (zConcL p l e R s m args below meth c Qf nL D cl dA A ad0 n0 bS) C R' pc (zt_dald nx) := by
  intro ls st h n cu su ht hw hr hnn ad H locs lsA ha hP hD hS hl
  subst hn
  match st, ht, hw with
  | .int i :: .ref a :: st, ht, hw =>
    obtain ⟨k, f, h1, h2, h3⟩ := ht
    have hg := zW_get (dA := dA) (ad := ad) (h := h) (zws_ref (zws_tl hw.2.1))
    rw [h1] at hg
    exact va_dald F.1 F.2.1 hK hP a 3 hg rfl h2 hd (h3 ⟨hw.1, zws_cons zwv_double (zws_tl (zws_tl hw.2.1)), hw.2.2⟩ hr hnn ad H locs lsA ha hP hD hS hl)
theorem zsL_newl (F : CallFix p m c cc nL s args Ts own) (hK : va_K D cl (zTys dA SC) s) (hA : ∀ q, s.heap.size ≤ q → A q) {lim : Nat × Nat} (hlim : lim.1 ≤ R.cells ∧ lim.2 ≤ R.slots) {nx : Nat} (harr : Cond.arrayClass .long ∈ Ts) (hd : decode cc pc = .ok (.newarray .long, 2)) (hn : pc + 2 = nx) : zSnd (zConcL p l e R s m args below meth c Qf nL D cl dA A ad0 n0 bS) C R' pc (zt_newl lim nx) := by
  intro ls st h n cu su ht hw hr hnn ad H locs lsA ha hP hD hS hl
  subst hn
  match st, ht, hw with
  | .int k :: st, ht, hw =>
    obtain ⟨h1, h2, h3, h4⟩ := ht
    obtain ⟨f1, f2⟩ := zfit_ok h3
    refine va_newa (atype := .long) (a0 := (k.toNatClampNeg, .inr (.inl (fun _ => 0)))) F.1 F.2.1 (F.2.2.2.2 _ harr) rfl hK hP hD hS hA (fun cA => rfl) h1 rfl (Nat.le_trans (Nat.mul_le_mul_left _ (show componentBytes .long ≤ 8 by decide)) (zvp_nn h1 h2)) (Nat.le_trans f1 hlim.1) (Nat.le_trans f2 hlim.2) hd fun q cA H1 hK1 hP1 hD1 hS1 => ?_
    have hcA : cA = dA 2 := zty_name (t := 2) hK rfl (hK1.2 5 (cA, .long) rfl).2
    subst hcA
    have e9 := zW_new (dA := dA) (ad := ad) (q := q) (c := .inl (2, (k.toNatClampNeg, .inr (.inl (fun _ => 0))))) hw.2.2 trivial
    have hl' : lv_has lsA nL ((0, .ref bS) :: zlv (zadd ad n q) 0 ls) := zLag zadd_lt hw.1 hl
    have k9 := h4 ⟨zwl_up hw.1 (Nat.le_succ n), zws_cons (zwv_ref (Nat.lt_succ_self n)) (zws_up (zws_tl hw.2.1) (Nat.le_succ n)), zwh_new hw.2.2 trivial⟩ ⟨Nat.le_trans f1 hlim.1, Nat.le_trans f2 hlim.2⟩ (Nat.le_succ_of_le hnn) (zadd ad n q) H1 locs lsA (fun i hi => (zadd_lt i (Nat.lt_of_lt_of_le hi hnn)).trans (ha i hi)) (e9 ▸ hP1) (e9 ▸ hD1) hS1 hl'
    rw [List.map_cons, zvs_agree zadd_lt (zws_tl hw.2.1), show zv (zadd ad n q) (.ref n) = .ref q from congrArg Value.ref zadd_n] at k9
    exact k9
theorem zsL_newd (F : CallFix p m c cc nL s args Ts own) (hK : va_K D cl (zTys dA SC) s) (hA : ∀ q, s.heap.size ≤ q → A q) {lim : Nat × Nat} (hlim : lim.1 ≤ R.cells ∧ lim.2 ≤ R.slots) {nx : Nat} (harr : Cond.arrayClass .double ∈ Ts) (hd : decode cc pc = .ok (.newarray .double, 2)) (hn : pc + 2 = nx) : zSnd (zConcL p l e R s m args below meth c Qf nL D cl dA A ad0 n0 bS) C R' pc (zt_newd lim nx) := by
  intro ls st h n cu su ht hw hr hnn ad H locs lsA ha hP hD hS hl
  subst hn
  match st, ht, hw with
  | .int k :: st, ht, hw =>
    obtain ⟨h1, h2, h3, h4⟩ := ht
    obtain ⟨f1, f2⟩ := zfit_ok h3
    refine va_newa (atype := .double) (a0 := (k.toNatClampNeg, .inr (.inr (.inr (.inl (fun _ => 0)))))) F.1 F.2.1 (F.2.2.2.2 _ harr) rfl hK hP hD hS hA (fun cA => rfl) h1 rfl (Nat.le_trans (Nat.mul_le_mul_left _ (show componentBytes .double ≤ 8 by decide)) (zvp_nn h1 h2)) (Nat.le_trans f1 hlim.1) (Nat.le_trans f2 hlim.2) hd fun q cA H1 hK1 hP1 hD1 hS1 => ?_
    have hcA : cA = dA 3 := zty_name (t := 3) hK rfl (hK1.2 5 (cA, .double) rfl).2
    subst hcA
    have e9 := zW_new (dA := dA) (ad := ad) (q := q) (c := .inl (3, (k.toNatClampNeg, .inr (.inr (.inr (.inl (fun _ => 0))))))) hw.2.2 trivial
    have hl' : lv_has lsA nL ((0, .ref bS) :: zlv (zadd ad n q) 0 ls) := zLag zadd_lt hw.1 hl
    have k9 := h4 ⟨zwl_up hw.1 (Nat.le_succ n), zws_cons (zwv_ref (Nat.lt_succ_self n)) (zws_up (zws_tl hw.2.1) (Nat.le_succ n)), zwh_new hw.2.2 trivial⟩ ⟨Nat.le_trans f1 hlim.1, Nat.le_trans f2 hlim.2⟩ (Nat.le_succ_of_le hnn) (zadd ad n q) H1 locs lsA (fun i hi => (zadd_lt i (Nat.lt_of_lt_of_le hi hnn)).trans (ha i hi)) (e9 ▸ hP1) (e9 ▸ hD1) hS1 hl'
    rw [List.map_cons, zvs_agree zadd_lt (zws_tl hw.2.1), show zv (zadd ad n q) (.ref n) = .ref q from congrArg Value.ref zadd_n] at k9
    exact k9
theorem zsL_new (F : CallFix p m c cc nL s args Ts own) (hK : va_K D cl (zTys dA SC) s) (hA : ∀ q, s.heap.size ≤ q → A q) {lim : Nat × Nat} (hlim : lim.1 ≤ R.cells ∧ lim.2 ≤ R.slots) {ci nx index N : Nat} {Cn : String} {T : u_T} {fs : List Value} (hin : ∀ w ∈ u_ws Cn T N, w ∈ Ts) (ty : Nat → FieldType) (hty : ∀ k, k < N → parseFieldDescriptor (T k).2.2.1 = some (ty k)) (hcl : Cond.classLink own index Cn ∈ Ts) (hinst : Cond.instantiable Cn N ∈ Ts) (hini : Cond.initialized Cn ∈ Ts) (hc : cl[ci]? = some (Cn, T, N)) (hfs : ∀ j, j < N → defaultValue (ty j) = vp_V fs j) (hN : fs.length = N) (hnr : fs.all (fun v => match v with | .ref _ => false | _ => true) = true) (hd : decode cc pc = .ok (.new index, 3)) (hn : pc + 3 = nx) : zSnd (zConcL p l e R s m args below meth c Qf nL D cl dA A ad0 n0 bS) C R' pc (zt_new ci fs lim nx) := by
  intro ls st h n cu su ht hw hr hnn ad H locs lsA ha hP hD hS hl
  subst hn
  obtain ⟨h3, h4⟩ := ht
  obtain ⟨f1, f2⟩ := zfit_ok h3
  have hwf : ∀ v ∈ fs, ∀ a, v ≠ .ref a := fun v hv a e => by
    have := List.all_eq_true.mp hnr v hv
    rw [e] at this
    exact nomatch this
  have hwc : zwc n (.inr (ci, fs)) := fun v hv a e => absurd e (hwf v hv a)
  have hmap : fs.map (zv ad) = fs := by
    have : fs.map (zv ad) = fs.map id := List.map_congr_left fun v hv => by
      cases v <;> first | rfl | exact absurd rfl (hwf _ hv _)
    rw [this, List.map_id]
  refine va_new F.1 F.2.1 F.2.2.2.2 hin ty hty F.2.2.2.1 (F.2.2.2.2 _ hcl) (F.2.2.2.2 _ hinst) (F.2.2.2.2 _ hini) hK hP hD hS hA hc hfs (Nat.le_trans f1 hlim.1) (by rw [← hN]; exact Nat.le_trans f2 hlim.2) hd fun q H1 hP1 hD1 hS1 => ?_
  have e9 := zW_new (dA := dA) (ad := ad) (q := q) (c := .inr (ci, fs)) hw.2.2 hwc
  rw [show zcell ad dA (.inr (ci, fs)) = .inr (ci, fs) from congrArg (fun z => Sum.inr (ci, z)) hmap] at e9
  have hl' : lv_has lsA nL ((0, .ref bS) :: zlv (zadd ad n q) 0 ls) := zLag zadd_lt hw.1 hl
  have k9 := h4 ⟨zwl_up hw.1 (Nat.le_succ n), zws_cons (zwv_ref (Nat.lt_succ_self n)) (zws_up hw.2.1 (Nat.le_succ n)), zwh_new hw.2.2 hwc⟩ ⟨Nat.le_trans f1 hlim.1, Nat.le_trans f2 hlim.2⟩ (Nat.le_succ_of_le hnn) (zadd ad n q) H1 locs lsA (fun i hi => (zadd_lt i (Nat.lt_of_lt_of_le hi hnn)).trans (ha i hi)) (e9 ▸ hP1) (e9 ▸ hD1) hS1 hl'
  rw [List.map_cons, zvs_agree zadd_lt hw.2.1, show zv (zadd ad n q) (.ref n) = .ref q from congrArg Value.ref zadd_n, hN] at k9
  exact k9
theorem zL_back {mc ms nx : Nat} {ad : Nat → Nat} {h : zH} {n : Nat} {H : Heap} {locs : List Loc} {lsA : Array Slot} {ls : zL} {st0 : List Value} {rest : List Value} {cu su : Nat} {av : Array Value}
    (hA : ∀ q, s.heap.size ≤ q → A q) (hnx : pc + 3 = nx) (hw : zwl n ls ∧ zws n rest) (hr : cu + mc ≤ R.cells ∧ su + ms ≤ R.slots) (hnn : n0 ≤ n) (ha : ∀ i, i < n0 → ad i = ad0 i) (hD : va_D A (zW dA ad h n)) (hS : va_S A s.heap H locs) (hl : lv_has lsA nL ((0, .ref bS) :: zlv ad 0 ls))
    (hrun : va_Run p l e R s m args below meth c H locs cu su mc ms (F0 m pc lsA st0) (rest.map (zv ad)) (zQc D cl dA ad h n H.size (zback (zConcL p l e R s m args below meth c Qf nL D cl dA A ad0 n0 bS) nx ls rest (cu + mc) (su + ms)) av) (va_A (zW dA ad h n) H.size)) :
    W p l e R s m args below meth c H locs cu su Qf (F0 m pc lsA st0) := by
  subst hnx
  intro T hT X
  obtain ⟨v, st₀, t, T', L, h0, X', hL, e1, e2, ⟨r, h', n', ad', hv, hQ, hwr, hle, hag, hwh', hP', hD', hF⟩, st⟩ := hrun T hT X
  obtain ⟨-, -, hS'⟩ := vx_keep (A1 := va_A (zW dA ad h n) H.size) h0 e1 hS (fun q _ hq => zfree hA hD hS q hq) (fun q hq => zfree hA hD hS q hq) hL hF
  cases hv
  have hl' : lv_has lsA nL ((0, .ref bS) :: zlv ad' 0 ls) := zLag hag hw.1 hl
  have hD2 : va_D A (zW dA ad' h' n') := hD'.weaken (fun _ q _ hq => zfree hA hD hS q.1 hq)
  have ha' : ∀ i, i < n0 → ad' i = ad0 i := fun i hi => (hag i (Nat.lt_of_lt_of_le hi hnn)).trans (ha i hi)
  rw [← e1] at hP'
  have hrest : rest.map (zv ad') = rest.map (zv ad) := zvs_agree hag hw.2
  cases r with
  | none =>
    obtain ⟨t2, a1, b1⟩ := hQ ⟨zwl_up hw.1 hle, zws_up hw.2 hle, hwh'⟩ hr (Nat.le_trans hnn hle) ad' T'.heap (locs ++ L) lsA ha' hP' hD2 hS' hl' T' rfl X'
    rw [hrest] at a1
    exact ⟨t2, st t2 a1, b1⟩
  | some w =>
    obtain ⟨t2, a1, b1⟩ := hQ ⟨zwl_up hw.1 hle, zws_cons (hwr w rfl) (zws_up hw.2 hle), hwh'⟩ hr (Nat.le_trans hnn hle) ad' T'.heap (locs ++ L) lsA ha' hP' hD2 hS' hl' T' rfl X'
    rw [List.map_cons, hrest] at a1
    exact ⟨t2, st t2 a1, b1⟩
theorem zsL_callV (F : CallFix p m c cc nL s args Ts own) (hNw : Nw.all zst = true) (hA : ∀ q, s.heap.size ≤ q → A q) (hK : va_K D cl (zTys dA SC) s) (hE : zEnv St Nw Nc SC A s s.heap) {y np index nx : Nat} {bytes : ByteArray} {maxL : Nat} {ret : Option FieldType} (hc9 : zcal MT Ts y bytes maxL ret np) (hroom : zroom R (MT y).2.2 maxL = true) (h0 : (MT y).2.2.cells = 0 ∧ (MT y).2.2.slots = 0) (hlink : Cond.methodLink own index (MT y).1 ∈ Ts) {ci : Nat} {Cn : String} {T : u_T} {N : Nat} (hc : cl[ci]? = some (Cn, T, N)) (hin : Cond.instanceMethod (MT y).1 ∈ Ts) (hse : Cond.selects Cn (MT y).1 (MT y).1 ∈ Ts) (hd : decode cc pc = .ok (.invokevirtual index, 3)) (hn : pc + 3 = nx) : zSnd (zConcL p l e R s m args below meth c Qf nL D cl dA A ad0 n0 bS) (zMet l D cl dA SC St Nw Nc MT) R' pc (zt_callv ci y (np + 1) nx) := by
  intro ls st h n cu su ht hw hr hnn ad H locs lsA ha hP hD hS hl
  unfold zt_callv at ht
  cases hz : zpop (np + 1) [] st with
  | none => simp only [hz] at ht
  | some q =>
    obtain ⟨as, s9⟩ := q
    obtain ⟨hsp, hlen, hws⟩ := zpop_split (ad := ad) hz
    obtain ⟨hwa, hw9⟩ := hws n hw.2.1
    rcases as with _ | ⟨v9, as⟩
    · simp only [hz] at ht
    cases v9 with
    | int _ => simp only [hz] at ht
    | long _ => simp only [hz] at ht
    | float _ => simp only [hz] at ht
    | double _ => simp only [hz] at ht
    | null => simp only [hz] at ht
    | retAddr _ => simp only [hz] at ht
    | ref b =>
      simp only [hz] at ht
      cases hk : zsm s9 8 with
      | false => simp only [hk] at ht
      | true =>
        simp only [hk] at ht
        have h8 := zsm_ok s9 8 hk
        obtain ⟨fs, hb9, ht⟩ := ht
        rw [hsp]
        have hM := (ht hwa hw.2.2 ad H.size).met zback_noX
        obtain ⟨hfb, hpre⟩ := zpre_at (as := .ref b :: as) hNw hA hK hE hP hD hS
        refine zL_back (D := D) (cl := cl) (mc := 0) (ms := 0) (av := (Value.ref (ad b) :: as.map (zv ad)).toArray) hA hn ⟨hw.1, hw9⟩ hr hnn ha hD hS hl ?_
        rw [h0.1, h0.2] at hM
        exact va_runV (C := Cn) (b := ad b) (As := as.map (zv ad)) F hM ⟨callB_of (mc := 0) (ms := 0) np F.2.2.2.2 hc9.2.1 hc9.1 h0.1 h0.2 (F.2.2.2.2 _ hc9.2.2.2) (F.2.2.2.2 _ hlink) hc9.2.2.1 (zroom_ok hroom), F.2.2.2.2 _ hin, F.2.2.2.2 _ hse⟩ ⟨hfb, va_recv hK hP hc (zW_get9 hb9 (zws_ref hwa)), hpre⟩ rfl (by rw [List.length_map]; exact Nat.succ.inj hlen) hl.1 (by show ((Value.ref (ad b) :: as.map (zv ad)).reverse ++ _) = _; rw [List.reverse_cons, List.append_assoc]; rfl) (lv_room (by rw [zsm_map]; exact h8)) hd hr
theorem zsL_callIM (F : CallFix p m c cc nL s args Ts own) (hNw : Nw.all zst = true) (hA : ∀ q, s.heap.size ≤ q → A q) (hK : va_K D cl (zTys dA SC) s) (hE : zEnv St Nw Nc SC A s s.heap) {y np index nx : Nat} {bytes : ByteArray} {maxL : Nat} {ret : Option FieldType} (hc9 : zcal MT Ts y bytes maxL ret np) (hroom : zroom R (MT y).2.2 maxL = true) {mk sk : Nat} {lim : Nat × Nat} (hlim : lim.1 ≤ R.cells ∧ lim.2 ≤ R.slots) (hmk : (MT y).2.2.cells = mk ∧ (MT y).2.2.slots = sk) (hlink : Cond.methodLink own index (MT y).1 ∈ Ts) (hret : ret = none) (hni : (MT y).1.name = "<init>") (hin : Cond.instanceMethod (MT y).1 ∈ Ts) {ci : Nat} (hd : decode cc pc = .ok (.invokespecial index, 3)) (hn : pc + 3 = nx) : zSnd (zConcL p l e R s m args below meth c Qf nL D cl dA A ad0 n0 bS) (zMet l D cl dA SC St Nw Nc MT) R' pc (zt_callvm ci y (np + 1) mk sk lim nx) := by
  intro ls st h n cu su ht hw hr hnn ad H locs lsA ha hP hD hS hl
  unfold zt_callvm at ht
  cases hz : zpop (np + 1) [] st with
  | none => simp only [hz] at ht
  | some q =>
    obtain ⟨as, s9⟩ := q
    obtain ⟨hsp, hlen, hws⟩ := zpop_split (ad := ad) hz
    obtain ⟨hwa, hw9⟩ := hws n hw.2.1
    rcases as with _ | ⟨v9, as⟩
    · simp only [hz] at ht
    cases v9 with
    | int _ => simp only [hz] at ht
    | long _ => simp only [hz] at ht
    | float _ => simp only [hz] at ht
    | double _ => simp only [hz] at ht
    | null => simp only [hz] at ht
    | retAddr _ => simp only [hz] at ht
    | ref b =>
      simp only [hz] at ht
      cases hk : zsm s9 8 with
      | false => simp only [hk] at ht
      | true =>
        simp only [hk] at ht
        have h8 := zsm_ok s9 8 hk
        obtain ⟨hfit, ht⟩ := ht
        obtain ⟨f1, f2⟩ := zfit_ok hfit
        obtain ⟨fs, hb9, ht⟩ := ht
        rw [hsp]
        have hM := (ht hwa hw.2.2 ad H.size).met zback_noX
        obtain ⟨hfb, hpre⟩ := zpre_at (as := .ref b :: as) hNw hA hK hE hP hD hS
        refine zL_back (D := D) (cl := cl) (mc := mk) (ms := sk) (av := (Value.ref (ad b) :: as.map (zv ad)).toArray) hA hn ⟨hw.1, hw9⟩ ⟨Nat.le_trans f1 hlim.1, Nat.le_trans f2 hlim.2⟩ hnn ha hD hS hl ?_
        rw [hmk.1, hmk.2] at hM
        exact va_runI (b := ad b) (As := as.map (zv ad)) F (by subst hret; exact hM) ⟨by subst hret; exact callB_of (mc := mk) (ms := sk) np F.2.2.2.2 hc9.2.1 hc9.1 hmk.1 hmk.2 (F.2.2.2.2 _ hc9.2.2.2) (F.2.2.2.2 _ hlink) hc9.2.2.1 (zroom_ok hroom), hni, F.2.2.2.2 _ hin⟩ ⟨hfb, hpre⟩ rfl (by rw [List.length_map]; exact Nat.succ.inj hlen) hl.1 (by show ((Value.ref (ad b) :: as.map (zv ad)).reverse ++ _) = _; rw [List.reverse_cons, List.append_assoc]; rfl) (lv_room (by rw [zsm_map]; exact h8)) hd ⟨Nat.le_trans f1 hlim.1, Nat.le_trans f2 hlim.2⟩
theorem zsL_callI (F : CallFix p m c cc nL s args Ts own) (hNw : Nw.all zst = true) (hA : ∀ q, s.heap.size ≤ q → A q) (hK : va_K D cl (zTys dA SC) s) (hE : zEnv St Nw Nc SC A s s.heap) {y np index nx : Nat} {bytes : ByteArray} {maxL : Nat} {ret : Option FieldType} (hc9 : zcal MT Ts y bytes maxL ret np) (hroom : zroom R (MT y).2.2 maxL = true) (h0 : (MT y).2.2.cells = 0 ∧ (MT y).2.2.slots = 0) (hlink : Cond.methodLink own index (MT y).1 ∈ Ts) (hret : ret = none) (hni : (MT y).1.name = "<init>") (hin : Cond.instanceMethod (MT y).1 ∈ Ts) {ci : Nat} (hd : decode cc pc = .ok (.invokespecial index, 3)) (hn : pc + 3 = nx) : zSnd (zConcL p l e R s m args below meth c Qf nL D cl dA A ad0 n0 bS) (zMet l D cl dA SC St Nw Nc MT) R' pc (zt_callv ci y (np + 1) nx) := by
  intro ls st h n cu su ht hw hr hnn ad H locs lsA ha hP hD hS hl
  unfold zt_callv at ht
  cases hz : zpop (np + 1) [] st with
  | none => simp only [hz] at ht
  | some q =>
    obtain ⟨as, s9⟩ := q
    obtain ⟨hsp, hlen, hws⟩ := zpop_split (ad := ad) hz
    obtain ⟨hwa, hw9⟩ := hws n hw.2.1
    rcases as with _ | ⟨v9, as⟩
    · simp only [hz] at ht
    cases v9 with
    | int _ => simp only [hz] at ht
    | long _ => simp only [hz] at ht
    | float _ => simp only [hz] at ht
    | double _ => simp only [hz] at ht
    | null => simp only [hz] at ht
    | retAddr _ => simp only [hz] at ht
    | ref b =>
      simp only [hz] at ht
      cases hk : zsm s9 8 with
      | false => simp only [hk] at ht
      | true =>
        simp only [hk] at ht
        have h8 := zsm_ok s9 8 hk
        obtain ⟨fs, hb9, ht⟩ := ht
        rw [hsp]
        have hM := (ht hwa hw.2.2 ad H.size).met zback_noX
        obtain ⟨hfb, hpre⟩ := zpre_at (as := .ref b :: as) hNw hA hK hE hP hD hS
        refine zL_back (D := D) (cl := cl) (mc := 0) (ms := 0) (av := (Value.ref (ad b) :: as.map (zv ad)).toArray) hA hn ⟨hw.1, hw9⟩ hr hnn ha hD hS hl ?_
        rw [h0.1, h0.2] at hM
        exact va_runI (b := ad b) (As := as.map (zv ad)) F (by subst hret; exact hM) ⟨by subst hret; exact callB_of (mc := 0) (ms := 0) np F.2.2.2.2 hc9.2.1 hc9.1 h0.1 h0.2 (F.2.2.2.2 _ hc9.2.2.2) (F.2.2.2.2 _ hlink) hc9.2.2.1 (zroom_ok hroom), hni, F.2.2.2.2 _ hin⟩ ⟨hfb, hpre⟩ rfl (by rw [List.length_map]; exact Nat.succ.inj hlen) hl.1 (by show ((Value.ref (ad b) :: as.map (zv ad)).reverse ++ _) = _; rw [List.reverse_cons, List.append_assoc]; rfl) (lv_room (by rw [zsm_map]; exact h8)) hd hr
theorem zsL_callSW (F : CallFix p m c cc nL s args Ts own) (hNw : Nw.all zst = true) (hA : ∀ q, s.heap.size ≤ q → A q) (hK : va_K D cl (zTys dA SC) s) (hE : zEnv St Nw Nc SC A s s.heap) {y np index nx : Nat} {bytes : ByteArray} {maxL : Nat} {ret : Option FieldType} {hh : List (Nat × Nat × Nat × Nat)} (hc9 : zcalh MT Ts y bytes maxL ret hh np) (hroom : zroom R (MT y).2.2 maxL = true) {mk sk : Nat} {lim : Nat × Nat} (hlim : lim.1 ≤ R.cells ∧ lim.2 ≤ R.slots) (hmk : (MT y).2.2.cells = mk ∧ (MT y).2.2.slots = sk) (hlink : Cond.methodLink own index (MT y).1 ∈ Ts) (hst : Cond.static (MT y).1 ∈ Ts) (hd : decode cc pc = .ok (.invokestatic index, 3)) (hn : pc + 3 = nx) : zSnd (zConcL p l e R s m args below meth c Qf nL D cl dA A ad0 n0 bS) (zMet l D cl dA SC St Nw Nc MT) R' pc (zt_callm y np mk sk lim nx) := by
  intro ls st h n cu su ht hw hr hnn ad H locs lsA ha hP hD hS hl
  unfold zt_callm at ht
  cases hz : zpop np [] st with
  | none => simp only [hz] at ht
  | some q =>
    obtain ⟨as, s9⟩ := q
    obtain ⟨hsp, hlen, hws⟩ := zpop_split (ad := ad) hz
    obtain ⟨hwa, hw9⟩ := hws n hw.2.1
    simp only [hz] at ht
    cases hk : zsm s9 8 with
    | false => simp only [hk] at ht
    | true =>
      simp only [hk] at ht
      have h8 := zsm_ok s9 8 hk
      obtain ⟨hfit, ht⟩ := ht
      obtain ⟨f1, f2⟩ := zfit_ok hfit
      rw [hsp]
      have hM := (ht hwa hw.2.2 ad H.size).met zback_noX
      obtain ⟨hfb, hpre⟩ := zpre_at (as := as) hNw hA hK hE hP hD hS
      refine zL_back (D := D) (cl := cl) (mc := mk) (ms := sk) (av := (as.map (zv ad)).toArray) hA hn ⟨hw.1, hw9⟩ ⟨Nat.le_trans f1 hlim.1, Nat.le_trans f2 hlim.2⟩ hnn ha hD hS hl ?_
      rw [hmk.1, hmk.2] at hM
      have hG : GoodIn Ts (va_wsS own index (MT y).1 (MT y).2.1) := fun w hw => by
        rcases List.mem_append.mp hw with h | h
        · rcases List.mem_cons.mp h with rfl | h
          · exact ⟨hlink, good_of_word rfl⟩
          · rcases List.mem_cons.mp h with rfl | h
            · exact ⟨hst, good_of_word rfl⟩
            · rcases List.mem_cons.mp h with rfl | h
              · exact ⟨hc9.2.2.2, good_of_word rfl⟩
              · exact nomatch h
        · exact hc9.2.1 w h
      exact vx_runSW (hh := hh) (g := F0 m pc lsA ((as.map (zv ad)).reverse ++ s9.map (zv ad))) F hM (vx_cwSW np F.2.2.2.2 hG hc9.1 hmk.1 hmk.2 hc9.2.2.1 (zroom_ok hroom)) ⟨hfb, hpre⟩ rfl (by rw [List.length_map]; exact hlen) hl.1 rfl (lv_room (by rw [zsm_map]; exact h8)) hd ⟨Nat.le_trans f1 hlim.1, Nat.le_trans f2 hlim.2⟩
/-- aload_0, iload, an addition or none, iaload: the script's int -/
def zt_sld (xs : Nat → Int32) (L i k nx : Nat) : zT := fun _ _ P ls st h n cu su => match zget ls i with
  | some (.int x) => vp_in (x + nI k) L ∧ P nx ls (.int (xs (x + nI k).toNatClampNeg) :: st) h n cu su
  | _ => False
def zt_slen (L nx : Nat) : zT := fun _ _ P ls st h n cu su => P nx ls (.int (Int32.ofNat L) :: st) h n cu su
def zt_switch (ts : List Nat) (dt : Nat) : zT := fun _ _ P ls st h n cu su => match st with
  | .int a :: s => (∀ (k t : Nat), ts[k]? = some t → a = nI k → P t ls s h n cu su) ∧ ((∀ k, k < ts.length → ¬ a = nI k) → P dt ls s h n cu su)
  | _ => False
def zt_end : zT := fun _ _ _ _ st _ _ _ _ => match st with
  | [.int v] => v = 1
  | _ => False
theorem zsL_sld0 (F : CallFix p m c cc nL s args Ts own) {L : Nat} {xs : Nat → Int32} (hX : va_X bS L xs s s.heap) (hbl : bS < s.heap.size) (hbA : ¬ A bS) {i nx : Nat} (hd : decode cc pc = .ok (.aload_n 0, 1)) (hd2 : decode cc (pc + 1) = .ok (.iload i, 2)) (hd3 : decode cc (pc + 3) = .ok (.iaload, 1)) (hn : pc + 4 = nx) : zSnd (zConcL p l e R s m args below meth c Qf nL D cl dA A ad0 n0 bS) C R' pc (zt_sld xs L i 0 nx) := by
  intro ls st h n cu su ht hw hr hnn ad H locs lsA ha hP hD hS hl
  subst hn
  unfold zt_sld at ht
  cases hg : zget ls i with
  | none => rw [hg] at ht; exact ht.elim
  | some v =>
    rw [hg] at ht
    cases v with
    | int x =>
      obtain ⟨h1, h2⟩ := ht
      rw [show x + nI 0 = x from Int32.add_zero x] at h1 h2
      exact lv_aload_n F.1 F.2.1 hd rfl (zLh hl) (lv_iload F.1 F.2.1 hd2 (zl_at (zLl hl) hg) (va_sld F.1 F.2.1 hX hbl hbA hS h1 hd3 (h2 ⟨hw.1, zws_cons zwv_int hw.2.1, hw.2.2⟩ hr hnn ad H locs lsA ha hP hD hS hl)))
    | _ => exact ht.elim
theorem zsL_sldk (F : CallFix p m c cc nL s args Ts own) {L : Nat} {xs : Nat → Int32} (hX : va_X bS L xs s s.heap) (hbl : bS < s.heap.size) (hbA : ¬ A bS) {i k nx : Nat} {kv : Int} (hd : decode cc pc = .ok (.aload_n 0, 1)) (hd2 : decode cc (pc + 1) = .ok (.iload i, 2)) (hd3 : decode cc (pc + 3) = .ok (.iconst kv, 1)) (hkv : Int32.ofInt kv = nI k) (hd4 : decode cc (pc + 4) = .ok (.iadd, 1)) (hd5 : decode cc (pc + 5) = .ok (.iaload, 1)) (hn : pc + 6 = nx) : zSnd (zConcL p l e R s m args below meth c Qf nL D cl dA A ad0 n0 bS) C R' pc (zt_sld xs L i k nx) := by
  intro ls st h n cu su ht hw hr hnn ad H locs lsA ha hP hD hS hl
  subst hn
  unfold zt_sld at ht
  cases hg : zget ls i with
  | none => rw [hg] at ht; exact ht.elim
  | some v =>
    rw [hg] at ht
    cases v with
    | int x =>
      obtain ⟨h1, h2⟩ := ht
      exact lv_aload_n F.1 F.2.1 hd rfl (zLh hl) (lv_iload F.1 F.2.1 hd2 (zl_at (zLl hl) hg) (lv_iconst F.1 F.2.1 hd3 hkv (lv_iadd F.1 F.2.1 hd4 (va_sld F.1 F.2.1 hX hbl hbA hS h1 hd5 (h2 ⟨hw.1, zws_cons zwv_int hw.2.1, hw.2.2⟩ hr hnn ad H locs lsA ha hP hD hS hl)))))
    | _ => exact ht.elim
theorem zsL_slen (F : CallFix p m c cc nL s args Ts own) {L : Nat} {xs : Nat → Int32} (hX : va_X bS L xs s s.heap) (hbl : bS < s.heap.size) (hbA : ¬ A bS) {nx : Nat} (hd : decode cc pc = .ok (.aload_n 0, 1)) (hd2 : decode cc (pc + 1) = .ok (.arraylength, 1)) (hn : pc + 2 = nx) : zSnd (zConcL p l e R s m args below meth c Qf nL D cl dA A ad0 n0 bS) C R' pc (zt_slen L nx) := by
  intro ls st h n cu su ht hw hr hnn ad H locs lsA ha hP hD hS hl
  subst hn
  exact lv_aload_n F.1 F.2.1 hd rfl (zLh hl) (va_slen F.1 F.2.1 hX hbl hbA hS hd2 (ht ⟨hw.1, zws_cons zwv_int hw.2.1, hw.2.2⟩ hr hnn ad H locs lsA ha hP hD hS hl))
theorem zsL_switch (F : CallFix p m c cc nL s args Ts own) {dflt hi : Int} {offs : Array Int} {len : Nat} {ts : List Nat} {dt : Nat} (hd : decode cc pc = .ok (.tableswitch dflt 0 hi offs, len)) (hdt : (pc : Int) + dflt = (dt : Int)) (hhi : hi + 1 = (ts.length : Int)) (hlen : ts.length < 2 ^ 31) (hts : ∀ (k t : Nat), ts[k]? = some t → ∃ off, offs[k]? = some off ∧ (pc : Int) + off = (t : Int)) : zSnd (zConcL p l e R s m args below meth c Qf nL D cl dA A ad0 n0 bS) C R' pc (zt_switch ts dt) := by
  intro ls st h n cu su ht hw hr hnn ad H locs lsA ha hP hD hS hl
  match st, ht, hw with
  | .int a :: st, ht, hw =>
    rcases pk_ix a (n := ts.length) hlen with q | q | ⟨j, hj, q⟩
    · refine lv_tableOut F.1 F.2.1 hd (Or.inl ?_) hdt (ht.2 (fun k hk e => ?_) ⟨hw.1, zws_tl hw.2.1, hw.2.2⟩ hr hnn ad H locs lsA ha hP hD hS hl)
      · rw [Int32.lt_iff_toInt_lt] at q
        exact q
      · rw [e] at q
        exact nI_pos (by omega) q
    · refine lv_tableOut F.1 F.2.1 hd (Or.inr ?_) hdt (ht.2 (fun k hk e => ?_) ⟨hw.1, zws_tl hw.2.1, hw.2.2⟩ hr hnn ad H locs lsA ha hP hD hS hl)
      · rw [Int32.le_iff_toInt_le, nI_toInt hlen] at q
        omega
      · rw [e] at q
        exact nI_ge hk hlen q
    · obtain ⟨off, h1, h2⟩ := hts j _ (List.getElem?_eq_getElem hj)
      have hj2 : a.toInt = (j : Int) := by rw [q, nI_toInt (by omega)]
      refine lv_tableIn F.1 F.2.1 hd (off := off) (tgt := ts[j]) (by omega) (by omega) ?_ h2 (ht.1 j _ (List.getElem?_eq_getElem hj) q ⟨hw.1, zws_tl hw.2.1, hw.2.2⟩ hr hnn ad H locs lsA ha hP hD hS hl)
      rw [hj2, show ((j : Int) - 0).toNat = j by omega]
      exact h1
theorem zConcL_fgt : zfgt (zConcL p l e R s m args below meth c Qf nL D cl dA A ad0 n0 bS) :=
  fun pc ls ls' st h n cu su hsub hc hw hr hnn ad H locs lsA ha hP hD hS hl => hc ⟨fun i v hv => hw.1 i v (hsub i v hv), hw.2⟩ hr hnn ad H locs lsA ha hP hD hS (zLsub hl hsub)
theorem zm_sld (xs : Nat → Int32) (L i k nx : Nat) : zmono (zt_sld xs L i k nx) := by
  intro C R P P' hC hP ls st h n cu su ht
  unfold zt_sld at ht ⊢
  split at ht
  · exact ⟨ht.1, hP _ _ _ _ _ _ _ ht.2⟩
  · exact ht.elim
theorem zm_slen (L nx : Nat) : zmono (zt_slen L nx) := fun C R P P' hC hP ls st h n cu su ht => hP _ _ _ _ _ _ _ ht
theorem zm_switch (ts : List Nat) (dt : Nat) : zmono (zt_switch ts dt) := by
  intro C R P P' hC hP ls st h n cu su ht
  unfold zt_switch at ht ⊢
  split at ht
  · exact ⟨fun k t h1 h2 => hP _ _ _ _ _ _ _ (ht.1 k t h1 h2), fun h1 => hP _ _ _ _ _ _ _ (ht.2 h1)⟩
  · exact ht.elim
theorem zm_end : zmono zt_end := fun C R P P' hC hP ls st h n cu su ht => ht
end ZLaw
