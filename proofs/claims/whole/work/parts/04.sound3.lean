/-! arithmetic, branches, cells -/
section ZSound
variable {p : Program} {l : Launch} {e : Env} {R : Room} {s : State} {m : MethodId} {args : Array Value} {below : List Frame} {meth : Method} {c : Code} {Qf : State → Prop}
variable {cc : ByteArray} {nL : Nat} {Ts : List Cond} {own SC : String} {D : va_G} {cl : List vw_C} {dA : Nat → ClassId} {A : Nat → Prop} {ad0 : Nat → Nat} {n0 : Nat}
variable {C : zK} {R' : zQ} {pc : Nat}

theorem zs_iadd (F : CallFix p m c cc nL s args Ts own) {nx : Nat} (hd : decode cc pc = .ok (.iadd, 1)) (hn : pc + 1 = nx) : zSnd (zConc p l e R s m args below meth c Qf nL D cl dA A ad0 n0) C R' pc (zt_iadd nx) := by
  intro ls st h n cu su ht hw hr hnn ad H locs lsA ha hP hD hS hl
  subst hn
  match st, ht, hw with
  | .int b :: .int a :: st, ht, hw => exact lv_iadd F.1 F.2.1 hd (ht ⟨hw.1, zws_cons zwv_int (zws_tl (zws_tl hw.2.1)), hw.2.2⟩ hr hnn ad H locs lsA ha hP hD hS hl)
theorem zs_isub (F : CallFix p m c cc nL s args Ts own) {nx : Nat} (hd : decode cc pc = .ok (.isub, 1)) (hn : pc + 1 = nx) : zSnd (zConc p l e R s m args below meth c Qf nL D cl dA A ad0 n0) C R' pc (zt_isub nx) := by
  intro ls st h n cu su ht hw hr hnn ad H locs lsA ha hP hD hS hl
  subst hn
  match st, ht, hw with
  | .int b :: .int a :: st, ht, hw => exact lv_isub F.1 F.2.1 hd (ht ⟨hw.1, zws_cons zwv_int (zws_tl (zws_tl hw.2.1)), hw.2.2⟩ hr hnn ad H locs lsA ha hP hD hS hl)
theorem zs_imul (F : CallFix p m c cc nL s args Ts own) {nx : Nat} (hd : decode cc pc = .ok (.imul, 1)) (hn : pc + 1 = nx) : zSnd (zConc p l e R s m args below meth c Qf nL D cl dA A ad0 n0) C R' pc (zt_imul nx) := by
  intro ls st h n cu su ht hw hr hnn ad H locs lsA ha hP hD hS hl
  subst hn
  match st, ht, hw with
  | .int b :: .int a :: st, ht, hw => exact lv_imul F.1 F.2.1 hd (ht ⟨hw.1, zws_cons zwv_int (zws_tl (zws_tl hw.2.1)), hw.2.2⟩ hr hnn ad H locs lsA ha hP hD hS hl)
theorem zs_iand (F : CallFix p m c cc nL s args Ts own) {nx : Nat} (hd : decode cc pc = .ok (.iand, 1)) (hn : pc + 1 = nx) : zSnd (zConc p l e R s m args below meth c Qf nL D cl dA A ad0 n0) C R' pc (zt_iand nx) := by
  intro ls st h n cu su ht hw hr hnn ad H locs lsA ha hP hD hS hl
  subst hn
  match st, ht, hw with
  | .int b :: .int a :: st, ht, hw => exact lv_iand F.1 F.2.1 hd (ht ⟨hw.1, zws_cons zwv_int (zws_tl (zws_tl hw.2.1)), hw.2.2⟩ hr hnn ad H locs lsA ha hP hD hS hl)
theorem zs_ladd (F : CallFix p m c cc nL s args Ts own) {nx : Nat} (hd : decode cc pc = .ok (.ladd, 1)) (hn : pc + 1 = nx) : zSnd (zConc p l e R s m args below meth c Qf nL D cl dA A ad0 n0) C R' pc (zt_ladd nx) := by
  intro ls st h n cu su ht hw hr hnn ad H locs lsA ha hP hD hS hl
  subst hn
  match st, ht, hw with
  | .long b :: .long a :: st, ht, hw => exact lv_ladd F.1 F.2.1 hd (ht ⟨hw.1, zws_cons zwv_long (zws_tl (zws_tl hw.2.1)), hw.2.2⟩ hr hnn ad H locs lsA ha hP hD hS hl)
theorem zs_lmul (F : CallFix p m c cc nL s args Ts own) {nx : Nat} (hd : decode cc pc = .ok (.lmul, 1)) (hn : pc + 1 = nx) : zSnd (zConc p l e R s m args below meth c Qf nL D cl dA A ad0 n0) C R' pc (zt_lmul nx) := by
  intro ls st h n cu su ht hw hr hnn ad H locs lsA ha hP hD hS hl
  subst hn
  match st, ht, hw with
  | .long b :: .long a :: st, ht, hw => exact lv_lmul F.1 F.2.1 hd (ht ⟨hw.1, zws_cons zwv_long (zws_tl (zws_tl hw.2.1)), hw.2.2⟩ hr hnn ad H locs lsA ha hP hD hS hl)
theorem zs_i2l (F : CallFix p m c cc nL s args Ts own) {nx : Nat} (hd : decode cc pc = .ok (.i2l, 1)) (hn : pc + 1 = nx) : zSnd (zConc p l e R s m args below meth c Qf nL D cl dA A ad0 n0) C R' pc (zt_i2l nx) := by
  intro ls st h n cu su ht hw hr hnn ad H locs lsA ha hP hD hS hl
  subst hn
  match st, ht, hw with
  | .int a :: st, ht, hw => exact lv_i2l F.1 F.2.1 hd rfl (ht ⟨hw.1, zws_cons zwv_long (zws_tl hw.2.1), hw.2.2⟩ hr hnn ad H locs lsA ha hP hD hS hl)
theorem zs_i2d (F : CallFix p m c cc nL s args Ts own) {nx : Nat} (hd : decode cc pc = .ok (.i2d, 1)) (hn : pc + 1 = nx) : zSnd (zConc p l e R s m args below meth c Qf nL D cl dA A ad0 n0) C R' pc (zt_i2d nx) := by
  intro ls st h n cu su ht hw hr hnn ad H locs lsA ha hP hD hS hl
  subst hn
  match st, ht, hw with
  | .int a :: st, ht, hw => exact lv_i2d F.1 F.2.1 hd (ht ⟨hw.1, zws_cons zwv_double (zws_tl hw.2.1), hw.2.2⟩ hr hnn ad H locs lsA ha hP hD hS hl)
theorem zs_ddiv (F : CallFix p m c cc nL s args Ts own) {nx : Nat} (hd : decode cc pc = .ok (.ddiv, 1)) (hn : pc + 1 = nx) : zSnd (zConc p l e R s m args below meth c Qf nL D cl dA A ad0 n0) C R' pc (zt_ddiv nx) := by
  intro ls st h n cu su ht hw hr hnn ad H locs lsA ha hP hD hS hl
  subst hn
  match st, ht, hw with
  | .double b :: .double a :: st, ht, hw => exact lv_ddiv F.1 F.2.1 hd ht.1 (ht.2 ⟨hw.1, zws_cons zwv_double (zws_tl (zws_tl hw.2.1)), hw.2.2⟩ hr hnn ad H locs lsA ha hP hD hS hl)
theorem zs_dcmp (F : CallFix p m c cc nL s args Ts own) {op : CmpOp} {nx : Nat} (hd : decode cc pc = .ok (.dcmp op, 1)) (hn : pc + 1 = nx) : zSnd (zConc p l e R s m args below meth c Qf nL D cl dA A ad0 n0) C R' pc (zt_dcmp op nx) := by
  intro ls st h n cu su ht hw hr hnn ad H locs lsA ha hP hD hS hl
  subst hn
  match st, ht, hw with
  | .double b :: .double a :: st, ht, hw => exact lv_dcmp F.1 F.2.1 hd (ht ⟨hw.1, zws_cons zwv_int (zws_tl (zws_tl hw.2.1)), hw.2.2⟩ hr hnn ad H locs lsA ha hP hD hS hl)
theorem zs_pop (F : CallFix p m c cc nL s args Ts own) {nx : Nat} (hd : decode cc pc = .ok (.pop, 1)) (hn : pc + 1 = nx) : zSnd (zConc p l e R s m args below meth c Qf nL D cl dA A ad0 n0) C R' pc (zt_pop nx) := by
  intro ls st h n cu su ht hw hr hnn ad H locs lsA ha hP hD hS hl
  subst hn
  match st, ht, hw with
  | .int a :: st, ht, hw => exact lv_pop F.1 F.2.1 hd rfl (ht ⟨hw.1, zws_tl hw.2.1, hw.2.2⟩ hr hnn ad H locs lsA ha hP hD hS hl)
  | .ref a :: st, ht, hw => exact lv_pop F.1 F.2.1 hd rfl (ht ⟨hw.1, zws_tl hw.2.1, hw.2.2⟩ hr hnn ad H locs lsA ha hP hD hS hl)
theorem zs_dup (F : CallFix p m c cc nL s args Ts own) {nx : Nat} (hd : decode cc pc = .ok (.dup, 1)) (hn : pc + 1 = nx) : zSnd (zConc p l e R s m args below meth c Qf nL D cl dA A ad0 n0) C R' pc (zt_dup nx) := by
  intro ls st h n cu su ht hw hr hnn ad H locs lsA ha hP hD hS hl
  subst hn
  match st, ht, hw with
  | .int a :: st, ht, hw => exact lv_dup F.1 F.2.1 hd rfl (ht ⟨hw.1, zws_cons (zws_hd hw.2.1) hw.2.1, hw.2.2⟩ hr hnn ad H locs lsA ha hP hD hS hl)
  | .ref a :: st, ht, hw => exact lv_dup F.1 F.2.1 hd rfl (ht ⟨hw.1, zws_cons (zws_hd hw.2.1) hw.2.1, hw.2.2⟩ hr hnn ad H locs lsA ha hP hD hS hl)
theorem zs_dup2 (F : CallFix p m c cc nL s args Ts own) {nx : Nat} (hd : decode cc pc = .ok (.dup2, 1)) (hn : pc + 1 = nx) : zSnd (zConc p l e R s m args below meth c Qf nL D cl dA A ad0 n0) C R' pc (zt_dup2 nx) := by
  intro ls st h n cu su ht hw hr hnn ad H locs lsA ha hP hD hS hl
  subst hn
  match st, ht, hw with
  | .int b :: .ref a :: st, ht, hw => exact lv_dup2_11 F.1 F.2.1 hd rfl rfl (ht ⟨hw.1, zws_cons zwv_int (zws_cons (zws_hd (zws_tl hw.2.1)) hw.2.1), hw.2.2⟩ hr hnn ad H locs lsA ha hP hD hS hl)
theorem zs_goto (F : CallFix p m c cc nL s args Ts own) {off : Int} {tgt : Nat} {is : List Nat} (hd : decode cc pc = .ok (.goto off, 3)) (hn : (pc : Int) + off = (tgt : Int)) : zSnd (zConc p l e R s m args below meth c Qf nL D cl dA A ad0 n0) C R' pc (zt_goto tgt is) := by
  intro ls st h n cu su ht hw hr hnn ad H locs lsA ha hP hD hS hl
  exact lv_goto F.1 F.2.1 hd hn (ht ⟨fun i v e => hw.1 i v (zget_clrs e), hw.2.1, hw.2.2⟩ hr hnn ad H locs lsA ha hP hD hS (zl_sub hl fun i v e => zget_clrs e))
theorem zs_ifnull (F : CallFix p m c cc nL s args Ts own) {off : Int} {nx : Nat} (hd : decode cc pc = .ok (.ifnull off, 3)) (hn : pc + 3 = nx) : zSnd (zConc p l e R s m args below meth c Qf nL D cl dA A ad0 n0) C R' pc (zt_ifnull nx) := by
  intro ls st h n cu su ht hw hr hnn ad H locs lsA ha hP hD hS hl
  subst hn
  match st, ht, hw with
  | .ref a :: st, ht, hw => exact lv_ifnull F.1 F.2.1 hd (ht ⟨hw.1, zws_tl hw.2.1, hw.2.2⟩ hr hnn ad H locs lsA ha hP hD hS hl)
theorem zs_ifeq (F : CallFix p m c cc nL s args Ts own) {off : Int} {tgt nx : Nat} (hd : decode cc pc = .ok (.ifCond .eq off, 3)) (ht9 : (pc : Int) + off = (tgt : Int)) (hn : pc + 3 = nx) : zSnd (zConc p l e R s m args below meth c Qf nL D cl dA A ad0 n0) C R' pc (zt_ifeq tgt nx) := by
  intro ls st h n cu su ht hw hr hnn ad H locs lsA ha hP hD hS hl
  subst hn
  match st, ht, hw with
  | .int a :: st, ht, hw => exact lv_if_eq F.1 F.2.1 hd ht9 (fun k => ht.1 k ⟨hw.1, zws_tl hw.2.1, hw.2.2⟩ hr hnn ad H locs lsA ha hP hD hS hl) (fun k => ht.2 k ⟨hw.1, zws_tl hw.2.1, hw.2.2⟩ hr hnn ad H locs lsA ha hP hD hS hl)
theorem zs_icmpeq (F : CallFix p m c cc nL s args Ts own) {off : Int} {tgt nx : Nat} (hd : decode cc pc = .ok (.if_icmp .eq off, 3)) (ht9 : (pc : Int) + off = (tgt : Int)) (hn : pc + 3 = nx) : zSnd (zConc p l e R s m args below meth c Qf nL D cl dA A ad0 n0) C R' pc (zt_icmpeq tgt nx) := by
  intro ls st h n cu su ht hw hr hnn ad H locs lsA ha hP hD hS hl
  subst hn
  match st, ht, hw with
  | .int b :: .int a :: st, ht, hw => exact lv_icmp_eq F.1 F.2.1 hd ht9 (fun k => ht.1 k ⟨hw.1, zws_tl (zws_tl hw.2.1), hw.2.2⟩ hr hnn ad H locs lsA ha hP hD hS hl) (fun k => ht.2 k ⟨hw.1, zws_tl (zws_tl hw.2.1), hw.2.2⟩ hr hnn ad H locs lsA ha hP hD hS hl)
theorem zs_ifne (F : CallFix p m c cc nL s args Ts own) {off : Int} {tgt nx : Nat} (hd : decode cc pc = .ok (.ifCond .ne off, 3)) (ht9 : (pc : Int) + off = (tgt : Int)) (hn : pc + 3 = nx) : zSnd (zConc p l e R s m args below meth c Qf nL D cl dA A ad0 n0) C R' pc (zt_ifne tgt nx) := by
  intro ls st h n cu su ht hw hr hnn ad H locs lsA ha hP hD hS hl
  subst hn
  match st, ht, hw with
  | .int a :: st, ht, hw => exact lv_if_ne F.1 F.2.1 hd ht9 (fun k => ht.1 k ⟨hw.1, zws_tl hw.2.1, hw.2.2⟩ hr hnn ad H locs lsA ha hP hD hS hl) (fun k => ht.2 k ⟨hw.1, zws_tl hw.2.1, hw.2.2⟩ hr hnn ad H locs lsA ha hP hD hS hl)
theorem zs_icmpne (F : CallFix p m c cc nL s args Ts own) {off : Int} {tgt nx : Nat} (hd : decode cc pc = .ok (.if_icmp .ne off, 3)) (ht9 : (pc : Int) + off = (tgt : Int)) (hn : pc + 3 = nx) : zSnd (zConc p l e R s m args below meth c Qf nL D cl dA A ad0 n0) C R' pc (zt_icmpne tgt nx) := by
  intro ls st h n cu su ht hw hr hnn ad H locs lsA ha hP hD hS hl
  subst hn
  match st, ht, hw with
  | .int b :: .int a :: st, ht, hw => exact lv_icmp_ne F.1 F.2.1 hd ht9 (fun k => ht.1 k ⟨hw.1, zws_tl (zws_tl hw.2.1), hw.2.2⟩ hr hnn ad H locs lsA ha hP hD hS hl) (fun k => ht.2 k ⟨hw.1, zws_tl (zws_tl hw.2.1), hw.2.2⟩ hr hnn ad H locs lsA ha hP hD hS hl)
theorem zs_iflt (F : CallFix p m c cc nL s args Ts own) {off : Int} {tgt nx : Nat} (hd : decode cc pc = .ok (.ifCond .lt off, 3)) (ht9 : (pc : Int) + off = (tgt : Int)) (hn : pc + 3 = nx) : zSnd (zConc p l e R s m args below meth c Qf nL D cl dA A ad0 n0) C R' pc (zt_iflt tgt nx) := by
  intro ls st h n cu su ht hw hr hnn ad H locs lsA ha hP hD hS hl
  subst hn
  match st, ht, hw with
  | .int a :: st, ht, hw => exact lv_if_lt F.1 F.2.1 hd ht9 (fun k => ht.1 k ⟨hw.1, zws_tl hw.2.1, hw.2.2⟩ hr hnn ad H locs lsA ha hP hD hS hl) (fun k => ht.2 k ⟨hw.1, zws_tl hw.2.1, hw.2.2⟩ hr hnn ad H locs lsA ha hP hD hS hl)
theorem zs_icmplt (F : CallFix p m c cc nL s args Ts own) {off : Int} {tgt nx : Nat} (hd : decode cc pc = .ok (.if_icmp .lt off, 3)) (ht9 : (pc : Int) + off = (tgt : Int)) (hn : pc + 3 = nx) : zSnd (zConc p l e R s m args below meth c Qf nL D cl dA A ad0 n0) C R' pc (zt_icmplt tgt nx) := by
  intro ls st h n cu su ht hw hr hnn ad H locs lsA ha hP hD hS hl
  subst hn
  match st, ht, hw with
  | .int b :: .int a :: st, ht, hw => exact lv_icmp_lt F.1 F.2.1 hd ht9 (fun k => ht.1 k ⟨hw.1, zws_tl (zws_tl hw.2.1), hw.2.2⟩ hr hnn ad H locs lsA ha hP hD hS hl) (fun k => ht.2 k ⟨hw.1, zws_tl (zws_tl hw.2.1), hw.2.2⟩ hr hnn ad H locs lsA ha hP hD hS hl)
theorem zs_ifle (F : CallFix p m c cc nL s args Ts own) {off : Int} {tgt nx : Nat} (hd : decode cc pc = .ok (.ifCond .le off, 3)) (ht9 : (pc : Int) + off = (tgt : Int)) (hn : pc + 3 = nx) : zSnd (zConc p l e R s m args below meth c Qf nL D cl dA A ad0 n0) C R' pc (zt_ifle tgt nx) := by
  intro ls st h n cu su ht hw hr hnn ad H locs lsA ha hP hD hS hl
  subst hn
  match st, ht, hw with
  | .int a :: st, ht, hw => exact lv_if_le F.1 F.2.1 hd ht9 (fun k => ht.1 k ⟨hw.1, zws_tl hw.2.1, hw.2.2⟩ hr hnn ad H locs lsA ha hP hD hS hl) (fun k => ht.2 k ⟨hw.1, zws_tl hw.2.1, hw.2.2⟩ hr hnn ad H locs lsA ha hP hD hS hl)
theorem zs_icmple (F : CallFix p m c cc nL s args Ts own) {off : Int} {tgt nx : Nat} (hd : decode cc pc = .ok (.if_icmp .le off, 3)) (ht9 : (pc : Int) + off = (tgt : Int)) (hn : pc + 3 = nx) : zSnd (zConc p l e R s m args below meth c Qf nL D cl dA A ad0 n0) C R' pc (zt_icmple tgt nx) := by
  intro ls st h n cu su ht hw hr hnn ad H locs lsA ha hP hD hS hl
  subst hn
  match st, ht, hw with
  | .int b :: .int a :: st, ht, hw => exact lv_icmp_le F.1 F.2.1 hd ht9 (fun k => ht.1 k ⟨hw.1, zws_tl (zws_tl hw.2.1), hw.2.2⟩ hr hnn ad H locs lsA ha hP hD hS hl) (fun k => ht.2 k ⟨hw.1, zws_tl (zws_tl hw.2.1), hw.2.2⟩ hr hnn ad H locs lsA ha hP hD hS hl)
theorem zs_ifgt (F : CallFix p m c cc nL s args Ts own) {off : Int} {tgt nx : Nat} (hd : decode cc pc = .ok (.ifCond .gt off, 3)) (ht9 : (pc : Int) + off = (tgt : Int)) (hn : pc + 3 = nx) : zSnd (zConc p l e R s m args below meth c Qf nL D cl dA A ad0 n0) C R' pc (zt_ifgt tgt nx) := by
  intro ls st h n cu su ht hw hr hnn ad H locs lsA ha hP hD hS hl
  subst hn
  match st, ht, hw with
  | .int a :: st, ht, hw => exact lv_if_gt F.1 F.2.1 hd ht9 (fun k => ht.1 k ⟨hw.1, zws_tl hw.2.1, hw.2.2⟩ hr hnn ad H locs lsA ha hP hD hS hl) (fun k => ht.2 k ⟨hw.1, zws_tl hw.2.1, hw.2.2⟩ hr hnn ad H locs lsA ha hP hD hS hl)
theorem zs_icmpgt (F : CallFix p m c cc nL s args Ts own) {off : Int} {tgt nx : Nat} (hd : decode cc pc = .ok (.if_icmp .gt off, 3)) (ht9 : (pc : Int) + off = (tgt : Int)) (hn : pc + 3 = nx) : zSnd (zConc p l e R s m args below meth c Qf nL D cl dA A ad0 n0) C R' pc (zt_icmpgt tgt nx) := by
  intro ls st h n cu su ht hw hr hnn ad H locs lsA ha hP hD hS hl
  subst hn
  match st, ht, hw with
  | .int b :: .int a :: st, ht, hw => exact lv_icmp_gt F.1 F.2.1 hd ht9 (fun k => ht.1 k ⟨hw.1, zws_tl (zws_tl hw.2.1), hw.2.2⟩ hr hnn ad H locs lsA ha hP hD hS hl) (fun k => ht.2 k ⟨hw.1, zws_tl (zws_tl hw.2.1), hw.2.2⟩ hr hnn ad H locs lsA ha hP hD hS hl)
theorem zs_ifge (F : CallFix p m c cc nL s args Ts own) {off : Int} {tgt nx : Nat} (hd : decode cc pc = .ok (.ifCond .ge off, 3)) (ht9 : (pc : Int) + off = (tgt : Int)) (hn : pc + 3 = nx) : zSnd (zConc p l e R s m args below meth c Qf nL D cl dA A ad0 n0) C R' pc (zt_ifge tgt nx) := by
  intro ls st h n cu su ht hw hr hnn ad H locs lsA ha hP hD hS hl
  subst hn
  match st, ht, hw with
  | .int a :: st, ht, hw => exact lv_if_ge F.1 F.2.1 hd ht9 (fun k => ht.1 k ⟨hw.1, zws_tl hw.2.1, hw.2.2⟩ hr hnn ad H locs lsA ha hP hD hS hl) (fun k => ht.2 k ⟨hw.1, zws_tl hw.2.1, hw.2.2⟩ hr hnn ad H locs lsA ha hP hD hS hl)
theorem zs_icmpge (F : CallFix p m c cc nL s args Ts own) {off : Int} {tgt nx : Nat} (hd : decode cc pc = .ok (.if_icmp .ge off, 3)) (ht9 : (pc : Int) + off = (tgt : Int)) (hn : pc + 3 = nx) : zSnd (zConc p l e R s m args below meth c Qf nL D cl dA A ad0 n0) C R' pc (zt_icmpge tgt nx) := by
  intro ls st h n cu su ht hw hr hnn ad H locs lsA ha hP hD hS hl
  subst hn
  match st, ht, hw with
  | .int b :: .int a :: st, ht, hw => exact lv_icmp_ge F.1 F.2.1 hd ht9 (fun k => ht.1 k ⟨hw.1, zws_tl (zws_tl hw.2.1), hw.2.2⟩ hr hnn ad H locs lsA ha hP hD hS hl) (fun k => ht.2 k ⟨hw.1, zws_tl (zws_tl hw.2.1), hw.2.2⟩ hr hnn ad H locs lsA ha hP hD hS hl)
theorem zs_leq_eq (F : CallFix p m c cc nL s args Ts own) {off : Int} {tgt nx : Nat} (hd : decode cc pc = .ok (.lcmp, 1)) (hd2 : decode cc (pc + 1) = .ok (.ifCond .eq off, 3)) (ht9 : ((pc + 1 : Nat) : Int) + off = (tgt : Int)) (hn : pc + 1 + 3 = nx) : zSnd (zConc p l e R s m args below meth c Qf nL D cl dA A ad0 n0) C R' pc (zt_leq tgt nx) := by
  intro ls st h n cu su ht hw hr hnn ad H locs lsA ha hP hD hS hl
  subst hn
  match st, ht, hw with
  | .long b :: .long a :: st, ht, hw =>
    refine W.lcmp F.1 F.2.1 hd ?_
    have hq : lg_cmp a b = 0 ↔ a = b := by
      unfold lg_cmp
      by_cases h1 : b < a
      · have : ¬ a = b := fun q => by subst q; exact absurd h1 (by simp)
        simp [h1, this]
      · by_cases h2 : a = b
        · simp [h1, h2]
        · simp [h1, h2]
    exact lv_if_eq F.1 F.2.1 hd2 ht9 (fun k => ht.1 (hq.mp k) ⟨hw.1, zws_tl (zws_tl hw.2.1), hw.2.2⟩ hr hnn ad H locs lsA ha hP hD hS hl) (fun k => ht.2 (fun q => k (hq.mpr q)) ⟨hw.1, zws_tl (zws_tl hw.2.1), hw.2.2⟩ hr hnn ad H locs lsA ha hP hD hS hl)
theorem zs_leq_ne (F : CallFix p m c cc nL s args Ts own) {off : Int} {tgt nx : Nat} (hd : decode cc pc = .ok (.lcmp, 1)) (hd2 : decode cc (pc + 1) = .ok (.ifCond .ne off, 3)) (ht9 : ((pc + 1 : Nat) : Int) + off = (tgt : Int)) (hn : pc + 1 + 3 = nx) : zSnd (zConc p l e R s m args below meth c Qf nL D cl dA A ad0 n0) C R' pc (zt_leq nx tgt) := by
  intro ls st h n cu su ht hw hr hnn ad H locs lsA ha hP hD hS hl
  subst hn
  match st, ht, hw with
  | .long b :: .long a :: st, ht, hw =>
    refine W.lcmp F.1 F.2.1 hd ?_
    have hq : lg_cmp a b = 0 ↔ a = b := by
      unfold lg_cmp
      by_cases h1 : b < a
      · have : ¬ a = b := fun q => by subst q; exact absurd h1 (by simp)
        simp [h1, this]
      · by_cases h2 : a = b
        · simp [h1, h2]
        · simp [h1, h2]
    exact lv_if_ne F.1 F.2.1 hd2 ht9 (fun k => ht.2 (fun q => k (hq.mpr q)) ⟨hw.1, zws_tl (zws_tl hw.2.1), hw.2.2⟩ hr hnn ad H locs lsA ha hP hD hS hl) (fun k => ht.1 (hq.mp k) ⟨hw.1, zws_tl (zws_tl hw.2.1), hw.2.2⟩ hr hnn ad H locs lsA ha hP hD hS hl)
theorem zs_iald (F : CallFix p m c cc nL s args Ts own) (hK : va_K D cl (zTys dA SC) s) {nx : Nat} (hd : decode cc pc = .ok (.iaload, 1)) (hn : pc + 1 = nx) : zSnd (zConc p l e R s m args below meth c Qf nL D cl dA A ad0 n0) C R' pc (zt_iald nx) := by
  intro ls st h n cu su ht hw hr hnn ad H locs lsA ha hP hD hS hl
  subst hn
  match st, ht, hw with
  | .int i :: .ref a :: st, ht, hw =>
    obtain ⟨k, f, h1, h2, h3⟩ := ht
    have hg := zW_get (dA := dA) (ad := ad) (h := h) (zws_ref (zws_tl hw.2.1))
    rw [h1] at hg
    exact va_iald F.1 F.2.1 hK hP a 0 hg rfl h2 hd (h3 ⟨hw.1, zws_cons zwv_int (zws_tl (zws_tl hw.2.1)), hw.2.2⟩ hr hnn ad H locs lsA ha hP hD hS hl)
theorem zs_zald (F : CallFix p m c cc nL s args Ts own) (hK : va_K D cl (zTys dA SC) s) {nx : Nat} (hd : decode cc pc = .ok (.baload, 1)) (hn : pc + 1 = nx) : zSnd (zConc p l e R s m args below meth c Qf nL D cl dA A ad0 n0) C R' pc (zt_zald nx) := by
  intro ls st h n cu su ht hw hr hnn ad H locs lsA ha hP hD hS hl
  subst hn
  match st, ht, hw with
  | .int i :: .ref a :: st, ht, hw =>
    obtain ⟨k, f, h1, h2, h3⟩ := ht
    have hg := zW_get (dA := dA) (ad := ad) (h := h) (zws_ref (zws_tl hw.2.1))
    rw [h1] at hg
    exact va_zald F.1 F.2.1 hK hP a 1 hg rfl h2 hd (h3 ⟨hw.1, zws_cons zwv_int (zws_tl (zws_tl hw.2.1)), hw.2.2⟩ hr hnn ad H locs lsA ha hP hD hS hl)
theorem zs_lald (F : CallFix p m c cc nL s args Ts own) (hK : va_K D cl (zTys dA SC) s) {nx : Nat} (hd : decode cc pc = .ok (.laload, 1)) (hn : pc + 1 = nx) : zSnd (zConc p l e R s m args below meth c Qf nL D cl dA A ad0 n0) C R' pc (zt_lald nx) := by
  intro ls st h n cu su ht hw hr hnn ad H locs lsA ha hP hD hS hl
  subst hn
  match st, ht, hw with
  | .int i :: .ref a :: st, ht, hw =>
    obtain ⟨k, f, h1, h2, h3⟩ := ht
    have hg := zW_get (dA := dA) (ad := ad) (h := h) (zws_ref (zws_tl hw.2.1))
    rw [h1] at hg
    exact va_lald F.1 F.2.1 hK hP a 2 hg rfl h2 hd (h3 ⟨hw.1, zws_cons zwv_long (zws_tl (zws_tl hw.2.1)), hw.2.2⟩ hr hnn ad H locs lsA ha hP hD hS hl)
theorem zs_dald (F : CallFix p m c cc nL s args Ts own) (hK : va_K D cl (zTys dA SC) s) {nx : Nat} (hd : decode cc pc = .ok (.daload, 1)) (hn : pc + 1 = nx) : zSnd (zConc p l e R s m args below meth c Qf nL D cl dA A ad0 n0) C R' pc (zt_dald nx) := by
  intro ls st h n cu su ht hw hr hnn ad H locs lsA ha hP hD hS hl
  subst hn
  match st, ht, hw with
  | .int i :: .ref a :: st, ht, hw =>
    obtain ⟨k, f, h1, h2, h3⟩ := ht
    have hg := zW_get (dA := dA) (ad := ad) (h := h) (zws_ref (zws_tl hw.2.1))
    rw [h1] at hg
    exact va_dald F.1 F.2.1 hK hP a 3 hg rfl h2 hd (h3 ⟨hw.1, zws_cons zwv_double (zws_tl (zws_tl hw.2.1)), hw.2.2⟩ hr hnn ad H locs lsA ha hP hD hS hl)
theorem zs_aald (F : CallFix p m c cc nL s args Ts own) (hK : va_K D cl (zTys dA SC) s) {nx : Nat} (hd : decode cc pc = .ok (.aaload, 1)) (hn : pc + 1 = nx) : zSnd (zConc p l e R s m args below meth c Qf nL D cl dA A ad0 n0) C R' pc (zt_aald nx) := by
  intro ls st h n cu su ht hw hr hnn ad H locs lsA ha hP hD hS hl
  subst hn
  match st, ht, hw with
  | .int i :: .ref a :: st, ht, hw =>
    obtain ⟨k, f, h1, h2, h3⟩ := ht
    have hal := zws_ref (zws_tl hw.2.1)
    have hg := zW_get (dA := dA) (ad := ad) (h := h) hal
    rw [h1] at hg
    have hwa := hw.2.2 a hal
    rw [h1] at hwa
    have hwv : zwv n (va_rf (f i.toNatClampNeg)) := by
      cases hf : f i.toNatClampNeg with
      | none => exact zwv_null
      | some b => exact zwv_ref (hwa _ b hf)
    have e9 : zv ad (va_rf (f i.toNatClampNeg)) = va_rf ((f i.toNatClampNeg).map ad) := by cases f i.toNatClampNeg <;> rfl
    have k9 := h3 ⟨hw.1, zws_cons hwv (zws_tl (zws_tl hw.2.1)), hw.2.2⟩ hr hnn ad H locs lsA ha hP hD hS hl
    rw [List.map_cons, e9] at k9
    exact va_aldq F.1 F.2.1 hK hP a 4 hg rfl h2 hd k9
theorem zs_iast (F : CallFix p m c cc nL s args Ts own) (hK : va_K D cl (zTys dA SC) s) {nx : Nat} (hd : decode cc pc = .ok (.iastore, 1)) (hn : pc + 1 = nx) : zSnd (zConc p l e R s m args below meth c Qf nL D cl dA A ad0 n0) C R' pc (zt_iast nx) := by
  intro ls st h n cu su ht hw hr hnn ad H locs lsA ha hP hD hS hl
  subst hn
  match st, ht, hw with
  | .int x :: .int i :: .ref a :: st, ht, hw =>
    obtain ⟨k, f, h1, h2, h3⟩ := ht
    have hg := zW_get (dA := dA) (ad := ad) (h := h) (zws_ref (zws_tl (zws_tl hw.2.1)))
    rw [h1] at hg
    refine va_iast F.1 F.2.1 hK hP hD hS a 0 hg rfl h2 hd fun H1 locs1 hP1 hD1 hS1 => ?_
    have e9 := zW_set (dA := dA) (ad := ad) (h := h) (n := n) (a := a) (c := .inl (0, k, .inl (upd f i.toNatClampNeg x)))
    exact h3 ⟨hw.1, zws_tl (zws_tl (zws_tl hw.2.1)), zwh_set hw.2.2 trivial⟩ hr hnn ad H1 locs1 lsA ha (e9 ▸ hP1) (e9 ▸ hD1) hS1 hl
theorem zs_zast (F : CallFix p m c cc nL s args Ts own) (hK : va_K D cl (zTys dA SC) s) {nx : Nat} (hd : decode cc pc = .ok (.bastore, 1)) (hn : pc + 1 = nx) : zSnd (zConc p l e R s m args below meth c Qf nL D cl dA A ad0 n0) C R' pc (zt_zast nx) := by
  intro ls st h n cu su ht hw hr hnn ad H locs lsA ha hP hD hS hl
  subst hn
  match st, ht, hw with
  | .int x :: .int i :: .ref a :: st, ht, hw =>
    obtain ⟨k, f, h1, h2, h3⟩ := ht
    have hg := zW_get (dA := dA) (ad := ad) (h := h) (zws_ref (zws_tl (zws_tl hw.2.1)))
    rw [h1] at hg
    refine va_zast F.1 F.2.1 hK hP hD hS a 1 hg rfl h2 hd fun H1 locs1 hP1 hD1 hS1 => ?_
    have e9 := zW_set (dA := dA) (ad := ad) (h := h) (n := n) (a := a) (c := .inl (1, k, .inl (upd f i.toNatClampNeg (vp_nar .boolean x))))
    exact h3 ⟨hw.1, zws_tl (zws_tl (zws_tl hw.2.1)), zwh_set hw.2.2 trivial⟩ hr hnn ad H1 locs1 lsA ha (e9 ▸ hP1) (e9 ▸ hD1) hS1 hl
theorem zs_last (F : CallFix p m c cc nL s args Ts own) (hK : va_K D cl (zTys dA SC) s) {nx : Nat} (hd : decode cc pc = .ok (.lastore, 1)) (hn : pc + 1 = nx) : zSnd (zConc p l e R s m args below meth c Qf nL D cl dA A ad0 n0) C R' pc (zt_last nx) := by
  intro ls st h n cu su ht hw hr hnn ad H locs lsA ha hP hD hS hl
  subst hn
  match st, ht, hw with
  | .long x :: .int i :: .ref a :: st, ht, hw =>
    obtain ⟨k, f, h1, h2, h3⟩ := ht
    have hg := zW_get (dA := dA) (ad := ad) (h := h) (zws_ref (zws_tl (zws_tl hw.2.1)))
    rw [h1] at hg
    refine va_last F.1 F.2.1 hK hP hD hS a 2 hg rfl h2 hd fun H1 locs1 hP1 hD1 hS1 => ?_
    have e9 := zW_set (dA := dA) (ad := ad) (h := h) (n := n) (a := a) (c := .inl (2, k, .inr (.inl (vp_updL f i.toNatClampNeg x))))
    exact h3 ⟨hw.1, zws_tl (zws_tl (zws_tl hw.2.1)), zwh_set hw.2.2 trivial⟩ hr hnn ad H1 locs1 lsA ha (e9 ▸ hP1) (e9 ▸ hD1) hS1 hl
theorem zs_dast (F : CallFix p m c cc nL s args Ts own) (hK : va_K D cl (zTys dA SC) s) {nx : Nat} (hd : decode cc pc = .ok (.dastore, 1)) (hn : pc + 1 = nx) : zSnd (zConc p l e R s m args below meth c Qf nL D cl dA A ad0 n0) C R' pc (zt_dast nx) := by
  intro ls st h n cu su ht hw hr hnn ad H locs lsA ha hP hD hS hl
  subst hn
  match st, ht, hw with
  | .double x :: .int i :: .ref a :: st, ht, hw =>
    obtain ⟨k, f, h1, h2, h3⟩ := ht
    have hg := zW_get (dA := dA) (ad := ad) (h := h) (zws_ref (zws_tl (zws_tl hw.2.1)))
    rw [h1] at hg
    refine va_dast F.1 F.2.1 hK hP hD hS a 3 hg rfl h2 hd fun H1 locs1 hP1 hD1 hS1 => ?_
    have e9 := zW_set (dA := dA) (ad := ad) (h := h) (n := n) (a := a) (c := .inl (3, k, .inr (.inr (.inr (.inl (vf_upd f i.toNatClampNeg x))))))
    exact h3 ⟨hw.1, zws_tl (zws_tl (zws_tl hw.2.1)), zwh_set hw.2.2 trivial⟩ hr hnn ad H1 locs1 lsA ha (e9 ▸ hP1) (e9 ▸ hD1) hS1 hl
theorem zs_aast (F : CallFix p m c cc nL s args Ts own) (hK : va_K D cl (zTys dA SC) s) {ci nx : Nat} {T : u_T} {N : Nat} (hc : cl[ci]? = some (SC, T, N)) (hd : decode cc pc = .ok (.aastore, 1)) (hn : pc + 1 = nx) : zSnd (zConc p l e R s m args below meth c Qf nL D cl dA A ad0 n0) C R' pc (zt_aast ci nx) := by
  intro ls st h n cu su ht hw hr hnn ad H locs lsA ha hP hD hS hl
  subst hn
  match st, ht, hw with
  | .ref v :: .int i :: .ref a :: st, ht, hw =>
    obtain ⟨k, f, h1, ⟨fs, hv⟩, h2, h3⟩ := ht
    have hal := zws_ref (zws_tl (zws_tl hw.2.1))
    have hg := zW_get (dA := dA) (ad := ad) (h := h) hal
    rw [h1] at hg
    have hgv := zW_get (dA := dA) (ad := ad) (h := h) (zws_ref hw.2.1)
    rw [hv] at hgv
    have hwa := hw.2.2 a hal
    rw [h1] at hwa
    refine va_astq F.1 F.2.1 hK hP hD hS a 4 v ci hg rfl hgv hc h2 hd fun H1 locs1 hP1 hD1 hS1 => ?_
    have e9 := zW_set (dA := dA) (ad := ad) (h := h) (n := n) (a := a) (c := .inl (4, k, .inr (.inr (.inr (.inr (va_up f i.toNatClampNeg (some v)))))))
    have e8 : (fun j => (va_up f i.toNatClampNeg (some v) j).map ad) = va_up (fun j => (f j).map ad) i.toNatClampNeg (some (ad v)) := by
      funext j
      unfold va_up
      split <;> rfl
    have e7 : zcell ad dA (.inl (4, k, .inr (.inr (.inr (.inr (va_up f i.toNatClampNeg (some v))))))) = .inl (dA 4, k, .inr (.inr (.inr (.inr (va_up (fun j => (f j).map ad) i.toNatClampNeg (some (ad v))))))) := by
      show Sum.inl (dA 4, k, Sum.inr (Sum.inr (Sum.inr (Sum.inr (fun j => (va_up f i.toNatClampNeg (some v) j).map ad))))) = _
      rw [e8]
    rw [e7] at e9
    refine h3 ⟨hw.1, zws_tl (zws_tl (zws_tl hw.2.1)), zwh_set hw.2.2 fun j b hb => ?_⟩ hr hnn ad H1 locs1 lsA ha (e9 ▸ hP1) (e9 ▸ hD1) hS1 hl
    unfold va_up at hb
    split at hb
    · cases hb; exact zws_ref hw.2.1
    · exact hwa j b hb
theorem zs_alen (F : CallFix p m c cc nL s args Ts own) (hK : va_K D cl (zTys dA SC) s) {nx : Nat} (hd : decode cc pc = .ok (.arraylength, 1)) (hn : pc + 1 = nx) : zSnd (zConc p l e R s m args below meth c Qf nL D cl dA A ad0 n0) C R' pc (zt_alen nx) := by
  intro ls st h n cu su ht hw hr hnn ad H locs lsA ha hP hD hS hl
  subst hn
  match st, ht, hw with
  | .ref a :: st, ht, hw =>
    obtain ⟨t, x, h1, h2, h3⟩ := ht
    have hg := zW_get (dA := dA) (ad := ad) (h := h) (zws_ref hw.2.1)
    rw [h1] at hg
    have e9 : (zarr ad x).1 = x.1 := by
      obtain ⟨z, f | f | f | f | f⟩ := x <;> rfl
    have k9 := h3 ⟨hw.1, zws_cons zwv_int (zws_tl hw.2.1), hw.2.2⟩ hr hnn ad H locs lsA ha hP hD hS hl
    match t, h2, hg with
    | 0, _, hg => exact va_alen F.1 F.2.1 hK hP a 0 hg rfl (by rw [e9]) hd k9
    | 1, _, hg => exact va_alen F.1 F.2.1 hK hP a 1 hg rfl (by rw [e9]) hd k9
    | 2, _, hg => exact va_alen F.1 F.2.1 hK hP a 2 hg rfl (by rw [e9]) hd k9
    | 3, _, hg => exact va_alen F.1 F.2.1 hK hP a 3 hg rfl (by rw [e9]) hd k9
    | 4, _, hg => exact va_alen F.1 F.2.1 hK hP a 4 hg rfl (by rw [e9]) hd k9
theorem zs_getf (F : CallFix p m c cc nL s args Ts own) (hK : va_K D cl (zTys dA SC) s) {ci k nx index N : Nat} {Cn ref : String} {T : u_T} (hin : ∀ w ∈ u_ws Cn T N, w ∈ Ts) (hc : cl[ci]? = some (Cn, T, N)) (hk : k < N) (hlink : Cond.fieldLink own index ref (T k).2.1 (T k).2.2.1 ∈ Ts) (href : (T k).1 = ref) (hd : decode cc pc = .ok (.getfield index, 3)) (hn : pc + 3 = nx) : zSnd (zConc p l e R s m args below meth c Qf nL D cl dA A ad0 n0) C R' pc (zt_getf ci k nx) := by
  intro ls st h n cu su ht hw hr hnn ad H locs lsA ha hP hD hS hl
  subst hn
  match st, ht, hw with
  | .ref b :: st, ht, hw =>
    obtain ⟨fs, h1, v, h2, h3⟩ := ht
    have hbl := zws_ref hw.2.1
    have hg := zW_get (dA := dA) (ad := ad) (h := h) hbl
    rw [h1] at hg
    have hwa := hw.2.2 b hbl
    rw [h1] at hwa
    exact va_get F.1 F.2.1 F.2.2.2.2 hin F.2.2.2.1 hK hP b hg hc k hk (F.2.2.2.2 _ hlink) (fun x h9 => by rw [← href]; exact h9) (by show (fs.map (zv ad))[k]? = _; rw [List.getElem?_map, h2]; rfl) hd (h3 ⟨hw.1, zws_cons (hwa v (List.mem_of_getElem? h2)) (zws_tl hw.2.1), hw.2.2⟩ hr hnn ad H locs lsA ha hP hD hS hl)
theorem zs_fits {ad : Nat → Nat} {ty : FieldType} {v : Value} (h : narrow ty v = v ∧ fits ty v = true) : narrow ty (zv ad v) = zv ad v ∧ fits ty (zv ad v) = true := by
  cases v with
  | ref a =>
    refine ⟨by cases ty <;> rfl, ?_⟩
    cases ty <;> first | rfl | exact h.2
  | _ => exact h
theorem zs_put9 {ad : Nat → Nat} {dA : Nat → ClassId} {h : zH} {n b ci k : Nat} {fs : List Value} {v : Value} : (zW dA ad h n).set b (ad b, .inr (ci, (fs.map (zv ad)).set k (zv ad v))) = zW dA ad (zupd h b (.inr (ci, fs.set k v))) n := by
  rw [← List.map_set]
  exact zW_set (c := .inr (ci, fs.set k v))
theorem zwc_put {n ci k : Nat} {fs : List Value} {v : Value} (h : zwc n (.inr (ci, fs))) (hv : zwv n v) : zwc n (.inr (ci, fs.set k v)) := fun w hw => by
  rcases List.mem_or_eq_of_mem_set hw with h1 | h1
  · exact h w h1
  · rw [h1]; exact hv
theorem zs_putf (F : CallFix p m c cc nL s args Ts own) (hK : va_K D cl (zTys dA SC) s) {ci k nx index N : Nat} {Cn ref : String} {T : u_T} {ty : FieldType} (hin : ∀ w ∈ u_ws Cn T N, w ∈ Ts) (ty0 : Nat → FieldType) (hty : ∀ k, k < N → parseFieldDescriptor (T k).2.2.1 = some (ty0 k)) (hnm : ∀ a, a < N → ∀ b, b < N → a ≠ b → (T a).2.1 ≠ (T b).2.1) (hc : cl[ci]? = some (Cn, T, N)) (hk : k < N) (hlink : Cond.fieldLink own index ref (T k).2.1 (T k).2.2.1 ∈ Ts) (href : (T k).1 = ref) (hfin : (T k).2.2.2 = false) (hd9 : parseFieldDescriptor (T k).2.2.1 = some ty) (hd : decode cc pc = .ok (.putfield index, 3)) (hn : pc + 3 = nx) : zSnd (zConc p l e R s m args below meth c Qf nL D cl dA A ad0 n0) C R' pc (zt_putf ci k ty nx) := by
  intro ls st h n cu su ht hw hr hnn ad H locs lsA ha hP hD hS hl
  subst hn
  match st, ht, hw with
  | v :: .ref b :: st, ht, hw =>
    obtain ⟨fs, h1, h2, h4, h3⟩ := ht
    have hbl := zws_ref (zws_tl hw.2.1)
    have hg := zW_get (dA := dA) (ad := ad) (h := h) hbl
    rw [h1] at hg
    have hwa := hw.2.2 b hbl
    rw [h1] at hwa
    refine va_put F.1 F.2.1 F.2.2.2.2 hin ty0 hty hnm F.2.2.2.1 hK hP hD hS b hg hc k hk (F.2.2.2.2 _ hlink) (fun x h9 => by rw [← href]; exact h9) hfin hd9 (zs_fits h4).1 (zs_fits h4).2 (by rw [List.length_map]; exact h2) hd fun H1 locs1 hP1 hD1 hS1 => ?_
    rw [zs_put9] at hP1 hD1
    exact h3 ⟨hw.1, zws_tl (zws_tl hw.2.1), zwh_set hw.2.2 (zwc_put hwa (zws_hd hw.2.1))⟩ hr hnn ad H1 locs1 lsA ha hP1 hD1 hS1 hl
theorem zs_putfF (F : CallFix p m c cc nL s args Ts own) (hK : va_K D cl (zTys dA SC) s) {ci k nx index N : Nat} {Cn ref : String} {T : u_T} {ty : FieldType} (hin : ∀ w ∈ u_ws Cn T N, w ∈ Ts) (ty0 : Nat → FieldType) (hty : ∀ k, k < N → parseFieldDescriptor (T k).2.2.1 = some (ty0 k)) (hnm : ∀ a, a < N → ∀ b, b < N → a ≠ b → (T a).2.1 ≠ (T b).2.1) (hc : cl[ci]? = some (Cn, T, N)) (hk : k < N) (hlink : Cond.fieldLink own index ref (T k).2.1 (T k).2.2.1 ∈ Ts) (href : (T k).1 = ref) (hfin : (T k).2.2.2 = true) (hin2 : meth.name = "<init>") (hdecl : (T k).1 = own) (hd9 : parseFieldDescriptor (T k).2.2.1 = some ty) (hd : decode cc pc = .ok (.putfield index, 3)) (hn : pc + 3 = nx) : zSnd (zConc p l e R s m args below meth c Qf nL D cl dA A ad0 n0) C R' pc (zt_putf ci k ty nx) := by
  intro ls st h n cu su ht hw hr hnn ad H locs lsA ha hP hD hS hl
  subst hn
  match st, ht, hw with
  | v :: .ref b :: st, ht, hw =>
    obtain ⟨fs, h1, h2, h4, h3⟩ := ht
    have hbl := zws_ref (zws_tl hw.2.1)
    have hg := zW_get (dA := dA) (ad := ad) (h := h) hbl
    rw [h1] at hg
    have hwa := hw.2.2 b hbl
    rw [h1] at hwa
    refine va_putF F.1 F.2.1 F.2.2.2.2 hin ty0 hty hnm F.2.2.2.1 hK hP hD hS b hg hc k hk (F.2.2.2.2 _ hlink) (fun x h9 => by rw [← href]; exact h9) hfin hin2 hdecl hd9 (zs_fits h4).1 (zs_fits h4).2 (by rw [List.length_map]; exact h2) hd fun H1 locs1 hP1 hD1 hS1 => ?_
    rw [zs_put9] at hP1 hD1
    exact h3 ⟨hw.1, zws_tl (zws_tl hw.2.1), zwh_set hw.2.2 (zwc_put hwa (zws_hd hw.2.1))⟩ hr hnn ad H1 locs1 lsA ha hP1 hD1 hS1 hl
end ZSound
