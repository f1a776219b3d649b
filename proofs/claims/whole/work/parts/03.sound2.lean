/-! each instruction's transformer is sound -/
def zTys (dA : Nat → ClassId) (SC : String) : List (ClassId × FieldType) := [(dA 0, .int), (dA 1, .boolean), (dA 2, .long), (dA 3, .double), (dA 4, .object SC)]
section ZSound
variable {p : Program} {l : Launch} {e : Env} {R : Room} {s : State} {m : MethodId} {args : Array Value} {below : List Frame} {meth : Method} {c : Code} {Qf : State → Prop}
variable {cc : ByteArray} {nL : Nat} {Ts : List Cond} {own SC : String} {D : va_G} {cl : List vw_C} {dA : Nat → ClassId} {A : Nat → Prop} {ad0 : Nat → Nat} {n0 : Nat}
/-- what a state of the abstract machine says of the real one: from any state that it pictures, the walk goes on -/
def zConc (p : Program) (l : Launch) (e : Env) (R : Room) (s : State) (m : MethodId) (args : Array Value) (below : List Frame) (meth : Method) (c : Code) (Qf : State → Prop) (nL : Nat) (D : va_G) (cl : List vw_C) (dA : Nat → ClassId) (A : Nat → Prop) (ad0 : Nat → Nat) (n0 : Nat) : zP := fun pc ls st h n cu su =>
  (zwl n ls ∧ zws n st ∧ zwh n h) → (cu ≤ R.cells ∧ su ≤ R.slots) → n0 ≤ n → ∀ (ad : Nat → Nat) (H : Heap) (locs : List Loc) (lsA : Array Slot), (∀ i, i < n0 → ad i = ad0 i) →
    va_P D cl (zW dA ad h n) H → va_D A (zW dA ad h n) → va_S A s.heap H locs → lv_has lsA nL (zlv ad 0 ls) →
    W p l e R s m args below meth c H locs cu su Qf (F0 m pc lsA (st.map (zv ad)))
/-- a transformer is sound at a place, whatever the callees' contracts C and the end R' mean -/
def zSnd (Z : zP) (C : zK) (R' : zQ) (pc : Nat) (t : zT) : Prop := ∀ ls st h n cu su, t C R' Z ls st h n cu su → Z pc ls st h n cu su
variable {C : zK} {R' : zQ} {pc : Nat}
theorem zs_iload (F : CallFix p m c cc nL s args Ts own) {i nx : Nat} (hd : decode cc pc = .ok (.iload i, 2)) (hn : pc + 2 = nx) : zSnd (zConc p l e R s m args below meth c Qf nL D cl dA A ad0 n0) C R' pc (zt_iload i nx) := by
  intro ls st h n cu su ht hw hr hnn ad H locs lsA ha hP hD hS hl
  subst hn
  unfold zt_iload at ht
  cases hg : zget ls i with
  | none => rw [hg] at ht; exact ht.elim
  | some v =>
    rw [hg] at ht
    cases v <;> first | exact ht.elim | exact lv_iload F.1 F.2.1 hd (zl_at hl hg) (ht ⟨hw.1, zws_cons zwv_int hw.2.1, hw.2.2⟩ hr hnn ad H locs lsA ha hP hD hS hl)
theorem zs_iload_n (F : CallFix p m c cc nL s args Ts own) {k : Fin 4} {i nx : Nat} (hd : decode cc pc = .ok (.iload_n k, 1)) (hi : (k : Nat) = i) (hn : pc + 1 = nx) : zSnd (zConc p l e R s m args below meth c Qf nL D cl dA A ad0 n0) C R' pc (zt_iload i nx) := by
  intro ls st h n cu su ht hw hr hnn ad H locs lsA ha hP hD hS hl
  subst hn
  unfold zt_iload at ht
  cases hg : zget ls i with
  | none => rw [hg] at ht; exact ht.elim
  | some v =>
    rw [hg] at ht
    cases v <;> first | exact ht.elim | exact lv_iload_n F.1 F.2.1 hd hi (zl_at hl hg) (ht ⟨hw.1, zws_cons zwv_int hw.2.1, hw.2.2⟩ hr hnn ad H locs lsA ha hP hD hS hl)
theorem zs_aload (F : CallFix p m c cc nL s args Ts own) {i nx : Nat} (hd : decode cc pc = .ok (.aload i, 2)) (hn : pc + 2 = nx) : zSnd (zConc p l e R s m args below meth c Qf nL D cl dA A ad0 n0) C R' pc (zt_aload i nx) := by
  intro ls st h n cu su ht hw hr hnn ad H locs lsA ha hP hD hS hl
  subst hn
  unfold zt_aload at ht
  cases hg : zget ls i with
  | none => rw [hg] at ht; exact ht.elim
  | some v =>
    rw [hg] at ht
    cases v <;> first | exact ht.elim | exact lv_aload F.1 F.2.1 hd (zl_at hl hg) (ht ⟨hw.1, zws_cons (hw.1 _ _ hg) hw.2.1, hw.2.2⟩ hr hnn ad H locs lsA ha hP hD hS hl)
theorem zs_aload_n (F : CallFix p m c cc nL s args Ts own) {k : Fin 4} {i nx : Nat} (hd : decode cc pc = .ok (.aload_n k, 1)) (hi : (k : Nat) = i) (hn : pc + 1 = nx) : zSnd (zConc p l e R s m args below meth c Qf nL D cl dA A ad0 n0) C R' pc (zt_aload i nx) := by
  intro ls st h n cu su ht hw hr hnn ad H locs lsA ha hP hD hS hl
  subst hn
  unfold zt_aload at ht
  cases hg : zget ls i with
  | none => rw [hg] at ht; exact ht.elim
  | some v =>
    rw [hg] at ht
    cases v <;> first | exact ht.elim | exact lv_aload_n F.1 F.2.1 hd hi (zl_at hl hg) (ht ⟨hw.1, zws_cons (hw.1 _ _ hg) hw.2.1, hw.2.2⟩ hr hnn ad H locs lsA ha hP hD hS hl)
theorem zs_lload_n (F : CallFix p m c cc nL s args Ts own) {k : Fin 4} {i nx : Nat} (hd : decode cc pc = .ok (.lload_n k, 1)) (hi : (k : Nat) = i) (hn : pc + 1 = nx) : zSnd (zConc p l e R s m args below meth c Qf nL D cl dA A ad0 n0) C R' pc (zt_lload i nx) := by
  intro ls st h n cu su ht hw hr hnn ad H locs lsA ha hP hD hS hl
  subst hn
  unfold zt_lload at ht
  cases hg : zget ls i with
  | none => rw [hg] at ht; exact ht.elim
  | some v =>
    rw [hg] at ht
    cases v <;> first | exact ht.elim | exact lv_lload_n F.1 F.2.1 hd hi (zl_at hl hg) (ht ⟨hw.1, zws_cons zwv_long hw.2.1, hw.2.2⟩ hr hnn ad H locs lsA ha hP hD hS hl)
theorem zs_dload (F : CallFix p m c cc nL s args Ts own) {i nx : Nat} (hd : decode cc pc = .ok (.dload i, 2)) (hn : pc + 2 = nx) : zSnd (zConc p l e R s m args below meth c Qf nL D cl dA A ad0 n0) C R' pc (zt_dload i nx) := by
  intro ls st h n cu su ht hw hr hnn ad H locs lsA ha hP hD hS hl
  subst hn
  unfold zt_dload at ht
  cases hg : zget ls i with
  | none => rw [hg] at ht; exact ht.elim
  | some v =>
    rw [hg] at ht
    cases v <;> first | exact ht.elim | exact lv_dload F.1 F.2.1 hd (zl_at hl hg) (ht ⟨hw.1, zws_cons zwv_double hw.2.1, hw.2.2⟩ hr hnn ad H locs lsA ha hP hD hS hl)
-- stores
theorem zs_istore (F : CallFix p m c cc nL s args Ts own) {i nx : Nat} (hd : decode cc pc = .ok (.istore i, 2)) (hi : i < nL) (hn : pc + 2 = nx) : zSnd (zConc p l e R s m args below meth c Qf nL D cl dA A ad0 n0) C R' pc (zt_istore i nx) := by
  intro ls st h n cu su ht hw hr hnn ad H locs lsA ha hP hD hS hl
  subst hn
  match st, ht, hw with
  | .int x :: st, ht, hw =>
    unfold zt_istore at ht
    cases hk : zok ls i with
    | false => simp only [hk] at ht
    | true =>
      simp only [hk] at ht
      exact lv_istore F.1 F.2.1 hd hl hi rfl fun ls' hl' => ht ⟨zwl_set hw.1 zwv_int, zws_tl hw.2.1, hw.2.2⟩ hr hnn ad H locs ls' ha hP hD hS (zl_store1 (v := .int x) hk hl')
theorem zs_istore_n (F : CallFix p m c cc nL s args Ts own) {k : Fin 4} {i nx : Nat} (hd : decode cc pc = .ok (.istore_n k, 1)) (he : (k : Nat) = i) (hi : i < nL) (hn : pc + 1 = nx) : zSnd (zConc p l e R s m args below meth c Qf nL D cl dA A ad0 n0) C R' pc (zt_istore i nx) := by
  intro ls st h n cu su ht hw hr hnn ad H locs lsA ha hP hD hS hl
  subst hn
  match st, ht, hw with
  | .int x :: st, ht, hw =>
    unfold zt_istore at ht
    cases hk : zok ls i with
    | false => simp only [hk] at ht
    | true =>
      simp only [hk] at ht
      exact lv_istore_n F.1 F.2.1 hd he hl hi rfl fun ls' hl' => ht ⟨zwl_set hw.1 zwv_int, zws_tl hw.2.1, hw.2.2⟩ hr hnn ad H locs ls' ha hP hD hS (zl_store1 (v := .int x) hk hl')
theorem zs_astore (F : CallFix p m c cc nL s args Ts own) {i nx : Nat} (hd : decode cc pc = .ok (.astore i, 2)) (hi : i < nL) (hn : pc + 2 = nx) : zSnd (zConc p l e R s m args below meth c Qf nL D cl dA A ad0 n0) C R' pc (zt_astore i nx) := by
  intro ls st h n cu su ht hw hr hnn ad H locs lsA ha hP hD hS hl
  subst hn
  match st, ht, hw with
  | .ref x :: st, ht, hw =>
    unfold zt_astore at ht
    cases hk : zok ls i with
    | false => simp only [hk] at ht
    | true =>
      simp only [hk] at ht
      exact lv_astore F.1 F.2.1 hd hl hi rfl fun ls' hl' => ht ⟨zwl_set hw.1 (zws_hd hw.2.1), zws_tl hw.2.1, hw.2.2⟩ hr hnn ad H locs ls' ha hP hD hS (zl_store1 (v := .ref x) hk hl')
theorem zs_astore_n (F : CallFix p m c cc nL s args Ts own) {k : Fin 4} {i nx : Nat} (hd : decode cc pc = .ok (.astore_n k, 1)) (he : (k : Nat) = i) (hi : i < nL) (hn : pc + 1 = nx) : zSnd (zConc p l e R s m args below meth c Qf nL D cl dA A ad0 n0) C R' pc (zt_astore i nx) := by
  intro ls st h n cu su ht hw hr hnn ad H locs lsA ha hP hD hS hl
  subst hn
  match st, ht, hw with
  | .ref x :: st, ht, hw =>
    unfold zt_astore at ht
    cases hk : zok ls i with
    | false => simp only [hk] at ht
    | true =>
      simp only [hk] at ht
      exact lv_astore_n F.1 F.2.1 hd he hl hi rfl fun ls' hl' => ht ⟨zwl_set hw.1 (zws_hd hw.2.1), zws_tl hw.2.1, hw.2.2⟩ hr hnn ad H locs ls' ha hP hD hS (zl_store1 (v := .ref x) hk hl')
theorem zs_lstore_n (F : CallFix p m c cc nL s args Ts own) {k : Fin 4} {i nx : Nat} (hd : decode cc pc = .ok (.lstore_n k, 1)) (he : (k : Nat) = i) (hi : i + 1 < nL) (hn : pc + 1 = nx) : zSnd (zConc p l e R s m args below meth c Qf nL D cl dA A ad0 n0) C R' pc (zt_lstore i nx) := by
  intro ls st h n cu su ht hw hr hnn ad H locs lsA ha hP hD hS hl
  subst hn
  match st, ht, hw with
  | .long x :: st, ht, hw =>
    unfold zt_lstore at ht
    cases hk : zok ls i with
    | false => simp only [hk] at ht
    | true =>
      simp only [hk] at ht
      exact lv_lstore_n F.1 F.2.1 hd he hl hi rfl fun ls' hl' => ht ⟨zwl_clr (zwl_set hw.1 zwv_long), zws_tl hw.2.1, hw.2.2⟩ hr hnn ad H locs ls' ha hP hD hS (zl_store2 (v := .long x) hk hl')
theorem zs_dstore (F : CallFix p m c cc nL s args Ts own) {i nx : Nat} (hd : decode cc pc = .ok (.dstore i, 2)) (hi : i + 1 < nL) (hn : pc + 2 = nx) : zSnd (zConc p l e R s m args below meth c Qf nL D cl dA A ad0 n0) C R' pc (zt_dstore i nx) := by
  intro ls st h n cu su ht hw hr hnn ad H locs lsA ha hP hD hS hl
  subst hn
  match st, ht, hw with
  | .double x :: st, ht, hw =>
    unfold zt_dstore at ht
    cases hk : zok ls i with
    | false => simp only [hk] at ht
    | true =>
      simp only [hk] at ht
      exact lv_dstore F.1 F.2.1 hd hl hi rfl fun ls' hl' => ht ⟨zwl_clr (zwl_set hw.1 zwv_double), zws_tl hw.2.1, hw.2.2⟩ hr hnn ad H locs ls' ha hP hD hS (zl_store2 (v := .double x) hk hl')
theorem zs_iinc (F : CallFix p m c cc nL s args Ts own) {i nx : Nat} {k : Int} (hd : decode cc pc = .ok (.iinc i k, 3)) (hi : i < nL) (hn : pc + 3 = nx) : zSnd (zConc p l e R s m args below meth c Qf nL D cl dA A ad0 n0) C R' pc (zt_iinc i k nx) := by
  intro ls st h n cu su ht hw hr hnn ad H locs lsA ha hP hD hS hl
  subst hn
  unfold zt_iinc at ht
  cases hg : zget ls i with
  | none => rw [hg] at ht; exact ht.elim
  | some v =>
    rw [hg] at ht
    cases v with
    | int x =>
      cases hk : zok ls i with
      | false => simp only [hk] at ht
      | true =>
        simp only [hk] at ht
        obtain ⟨k9, hk9⟩ := List.getElem?_of_mem ((zlv_mem 0 (0 + i, zv ad (.int x))).mpr ⟨i, .int x, hg, rfl⟩)
        rw [Nat.zero_add] at hk9
        exact lv_iinc F.1 F.2.1 hd hl hk9 rfl hi rfl fun ls' hl' => ht ⟨zwl_set hw.1 zwv_int, hw.2.1, hw.2.2⟩ hr hnn ad H locs ls' ha hP hD hS (zl_store1 (v := .int (x + Int32.ofInt k)) hk hl')
    | _ => exact ht.elim
-- constants
theorem zs_iconst (F : CallFix p m c cc nL s args Ts own) {k : Int} {v : Int32} {nx : Nat} (hd : decode cc pc = .ok (.iconst k, 1)) (hv : Int32.ofInt k = v) (hn : pc + 1 = nx) : zSnd (zConc p l e R s m args below meth c Qf nL D cl dA A ad0 n0) C R' pc (zt_iconst v nx) := by
  intro ls st h n cu su ht hw hr hnn ad H locs lsA ha hP hD hS hl
  subst hn
  exact lv_iconst F.1 F.2.1 hd hv (ht ⟨hw.1, zws_cons zwv_int hw.2.1, hw.2.2⟩ hr hnn ad H locs lsA ha hP hD hS hl)
theorem zs_bipush (F : CallFix p m c cc nL s args Ts own) {k : Int} {v : Int32} {nx : Nat} (hd : decode cc pc = .ok (.bipush k, 2)) (hv : (Int8.ofInt k).toInt32 = v) (hn : pc + 2 = nx) : zSnd (zConc p l e R s m args below meth c Qf nL D cl dA A ad0 n0) C R' pc (zt_iconst v nx) := by
  intro ls st h n cu su ht hw hr hnn ad H locs lsA ha hP hD hS hl
  subst hn
  exact lv_bipush F.1 F.2.1 hd hv (ht ⟨hw.1, zws_cons zwv_int hw.2.1, hw.2.2⟩ hr hnn ad H locs lsA ha hP hD hS hl)
theorem zs_sipush (F : CallFix p m c cc nL s args Ts own) {k : Int} {v : Int32} {nx : Nat} (hd : decode cc pc = .ok (.sipush k, 3)) (hv : (Int16.ofInt k).toInt32 = v) (hn : pc + 3 = nx) : zSnd (zConc p l e R s m args below meth c Qf nL D cl dA A ad0 n0) C R' pc (zt_iconst v nx) := by
  intro ls st h n cu su ht hw hr hnn ad H locs lsA ha hP hD hS hl
  subst hn
  exact lv_sipush F.1 F.2.1 hd hv (ht ⟨hw.1, zws_cons zwv_int hw.2.1, hw.2.2⟩ hr hnn ad H locs lsA ha hP hD hS hl)
theorem zs_ldc2 (F : CallFix p m c cc nL s args Ts own) {index nx : Nat} {v : Int64} (hc : Jvm.Cond.constantLong own index v ∈ Ts) (hd : decode cc pc = .ok (.ldc2_w index, 3)) (hn : pc + 3 = nx) : zSnd (zConc p l e R s m args below meth c Qf nL D cl dA A ad0 n0) C R' pc (zt_lconst v nx) := by
  intro ls st h n cu su ht hw hr hnn ad H locs lsA ha hP hD hS hl
  subst hn
  exact lv_ldc2 F.1 F.2.1 F.2.2.2.1 (F.2.2.2.2 _ hc) hd (ht ⟨hw.1, zws_cons zwv_long hw.2.1, hw.2.2⟩ hr hnn ad H locs lsA ha hP hD hS hl)
theorem zs_dconst0 (F : CallFix p m c cc nL s args Ts own) {nx : Nat} (hd : decode cc pc = .ok (.dconst 0, 1)) (hn : pc + 1 = nx) : zSnd (zConc p l e R s m args below meth c Qf nL D cl dA A ad0 n0) C R' pc (zt_dconst FP.dconst0 nx) := by
  intro ls st h n cu su ht hw hr hnn ad H locs lsA ha hP hD hS hl
  subst hn
  exact lv_dconst0 F.1 F.2.1 hd (ht ⟨hw.1, zws_cons zwv_double hw.2.1, hw.2.2⟩ hr hnn ad H locs lsA ha hP hD hS hl)
theorem zs_dconst1 (F : CallFix p m c cc nL s args Ts own) {nx : Nat} (hd : decode cc pc = .ok (.dconst 1, 1)) (hn : pc + 1 = nx) : zSnd (zConc p l e R s m args below meth c Qf nL D cl dA A ad0 n0) C R' pc (zt_dconst FP.dconst1 nx) := by
  intro ls st h n cu su ht hw hr hnn ad H locs lsA ha hP hD hS hl
  subst hn
  exact lv_dconst1 F.1 F.2.1 hd (ht ⟨hw.1, zws_cons zwv_double hw.2.1, hw.2.2⟩ hr hnn ad H locs lsA ha hP hD hS hl)
theorem zs_null (F : CallFix p m c cc nL s args Ts own) {nx : Nat} (hd : decode cc pc = .ok (.aconst_null, 1)) (hn : pc + 1 = nx) : zSnd (zConc p l e R s m args below meth c Qf nL D cl dA A ad0 n0) C R' pc (zt_null nx) := by
  intro ls st h n cu su ht hw hr hnn ad H locs lsA ha hP hD hS hl
  subst hn
  exact lv_null F.1 F.2.1 hd (ht ⟨hw.1, zws_cons zwv_null hw.2.1, hw.2.2⟩ hr hnn ad H locs lsA ha hP hD hS hl)
end ZSound
