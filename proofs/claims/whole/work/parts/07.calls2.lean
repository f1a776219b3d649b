/-! each kind of call -/
section ZCall
variable {p : Program} {l : Launch} {e : Env} {R : Room} {s : State} {m : MethodId} {args : Array Value} {below : List Frame} {meth : Method} {c : Code} {Qf : State → Prop}
variable {cc : ByteArray} {nL : Nat} {Ts : List Cond} {own SC : String} {D : va_G} {cl : List vw_C} {dA : Nat → ClassId} {A : Nat → Prop} {ad0 : Nat → Nat} {n0 : Nat}
variable {St : List (String × Nat × String)} {Nw : List Cond} {Nc : List (String × String)} {MT : zMT}
variable {R' : zQ} {pc : Nat}

theorem zW_get9 {dA : Nat → ClassId} {ad : Nat → Nat} {h : zH} {n b ci : Nat} {fs : List Value} (hb : h b = .inr (ci, fs)) (hl : b < n) : (zW dA ad h n)[b]? = some (ad b, .inr (ci, fs.map (zv ad))) := by
  have := zW_get (dA := dA) (ad := ad) (h := h) hl
  rwa [hb] at this
theorem zs_callS (F : CallFix p m c cc nL s args Ts own) (hNw : Nw.all zst = true) (hA : ∀ q, s.heap.size ≤ q → A q) (hK : va_K D cl (zTys dA SC) s) (hE : zEnv St Nw Nc SC A s s.heap) {y np index nx : Nat} {bytes : ByteArray} {maxL : Nat} {ret : Option FieldType} (hc9 : zcal MT Ts y bytes maxL ret np) (hroom : zroom R (MT y).2.2 maxL = true) (h0 : (MT y).2.2.cells = 0 ∧ (MT y).2.2.slots = 0) (hlink : Cond.methodLink own index (MT y).1 ∈ Ts) (hst : Cond.static (MT y).1 ∈ Ts) (hd : decode cc pc = .ok (.invokestatic index, 3)) (hn : pc + 3 = nx) : zSnd (zConc p l e R s m args below meth c Qf nL D cl dA A ad0 n0) (zMet l D cl dA SC St Nw Nc MT) R' pc (zt_call y np nx) := by
  intro ls st h n cu su ht hw hr hnn ad H locs lsA ha hP hD hS hl
  unfold zt_call at ht
  cases hz : zpop np [] st with
  | none => simp only [hz] at ht
  | some q =>
    obtain ⟨as, s9⟩ := q
    obtain ⟨hsp, hlen, hws⟩ := zpop_split (ad := ad) hz
    obtain ⟨hwa, hw9⟩ := hws n hw.2.1
    simp only [hz] at ht
    cases hk : zsm s9 8 with
    | false => simp only [hk] at ht
    | true =>
      simp only [hk] at ht
      have h8 := zsm_ok s9 8 hk
      rw [hsp]
      have hM := (ht hwa hw.2.2 ad H.size).met zback_noX
      obtain ⟨hfb, hpre⟩ := zpre_at (as := as) hNw hA hK hE hP hD hS
      refine z_back (D := D) (cl := cl) (mc := 0) (ms := 0) (av := (as.map (zv ad)).toArray) hA hn ⟨hw.1, hw9⟩ hr hnn ha hD hS hl ?_
      rw [h0.1, h0.2] at hM
      exact va_runS (g := F0 m pc lsA ((as.map (zv ad)).reverse ++ s9.map (zv ad))) F hM ⟨callB_of (mc := 0) (ms := 0) np F.2.2.2.2 hc9.2.1 hc9.1 h0.1 h0.2 (F.2.2.2.2 _ hc9.2.2.2) (F.2.2.2.2 _ hlink) hc9.2.2.1 (zroom_ok hroom), F.2.2.2.2 _ hst⟩ ⟨hfb, hpre⟩ rfl (by rw [List.length_map]; exact hlen) hl.1 rfl (lv_room (by rw [zsm_map]; exact h8)) hd hr
theorem zs_callV (F : CallFix p m c cc nL s args Ts own) (hNw : Nw.all zst = true) (hA : ∀ q, s.heap.size ≤ q → A q) (hK : va_K D cl (zTys dA SC) s) (hE : zEnv St Nw Nc SC A s s.heap) {y np index nx : Nat} {bytes : ByteArray} {maxL : Nat} {ret : Option FieldType} (hc9 : zcal MT Ts y bytes maxL ret np) (hroom : zroom R (MT y).2.2 maxL = true) (h0 : (MT y).2.2.cells = 0 ∧ (MT y).2.2.slots = 0) (hlink : Cond.methodLink own index (MT y).1 ∈ Ts) {ci : Nat} {Cn : String} {T : u_T} {N : Nat} (hc : cl[ci]? = some (Cn, T, N)) (hin : Cond.instanceMethod (MT y).1 ∈ Ts) (hse : Cond.selects Cn (MT y).1 (MT y).1 ∈ Ts) (hd : decode cc pc = .ok (.invokevirtual index, 3)) (hn : pc + 3 = nx) : zSnd (zConc p l e R s m args below meth c Qf nL D cl dA A ad0 n0) (zMet l D cl dA SC St Nw Nc MT) R' pc (zt_callv ci y (np + 1) nx) := by
  intro ls st h n cu su ht hw hr hnn ad H locs lsA ha hP hD hS hl
  unfold zt_callv at ht
  cases hz : zpop (np + 1) [] st with
  | none => simp only [hz] at ht
  | some q =>
    obtain ⟨as, s9⟩ := q
    obtain ⟨hsp, hlen, hws⟩ := zpop_split (ad := ad) hz
    obtain ⟨hwa, hw9⟩ := hws n hw.2.1
    rcases as with _ | ⟨v9, as⟩
    · simp only [hz] at ht
    cases v9 with
    | int _ => simp only [hz] at ht
    | long _ => simp only [hz] at ht
    | float _ => simp only [hz] at ht
    | double _ => simp only [hz] at ht
    | null => simp only [hz] at ht
    | retAddr _ => simp only [hz] at ht
    | ref b =>
      simp only [hz] at ht
      cases hk : zsm s9 8 with
      | false => simp only [hk] at ht
      | true =>
        simp only [hk] at ht
        have h8 := zsm_ok s9 8 hk
        obtain ⟨fs, hb9, ht⟩ := ht
        rw [hsp]
        have hM := (ht hwa hw.2.2 ad H.size).met zback_noX
        obtain ⟨hfb, hpre⟩ := zpre_at (as := .ref b :: as) hNw hA hK hE hP hD hS
        refine z_back (D := D) (cl := cl) (mc := 0) (ms := 0) (av := (Value.ref (ad b) :: as.map (zv ad)).toArray) hA hn ⟨hw.1, hw9⟩ hr hnn ha hD hS hl ?_
        rw [h0.1, h0.2] at hM
        exact va_runV (C := Cn) (b := ad b) (As := as.map (zv ad)) F hM ⟨callB_of (mc := 0) (ms := 0) np F.2.2.2.2 hc9.2.1 hc9.1 h0.1 h0.2 (F.2.2.2.2 _ hc9.2.2.2) (F.2.2.2.2 _ hlink) hc9.2.2.1 (zroom_ok hroom), F.2.2.2.2 _ hin, F.2.2.2.2 _ hse⟩ ⟨hfb, va_recv hK hP hc (zW_get9 hb9 (zws_ref hwa)), hpre⟩ rfl (by rw [List.length_map]; exact Nat.succ.inj hlen) hl.1 (by show ((Value.ref (ad b) :: as.map (zv ad)).reverse ++ _) = _; rw [List.reverse_cons, List.append_assoc]; rfl) (lv_room (by rw [zsm_map]; exact h8)) hd hr
theorem zs_callVM (F : CallFix p m c cc nL s args Ts own) (hNw : Nw.all zst = true) (hA : ∀ q, s.heap.size ≤ q → A q) (hK : va_K D cl (zTys dA SC) s) (hE : zEnv St Nw Nc SC A s s.heap) {y np index nx : Nat} {bytes : ByteArray} {maxL : Nat} {ret : Option FieldType} (hc9 : zcal MT Ts y bytes maxL ret np) (hroom : zroom R (MT y).2.2 maxL = true) {mk sk : Nat} {lim : Nat × Nat} (hlim : lim.1 ≤ R.cells ∧ lim.2 ≤ R.slots) (hmk : (MT y).2.2.cells = mk ∧ (MT y).2.2.slots = sk) (hlink : Cond.methodLink own index (MT y).1 ∈ Ts) {ci : Nat} {Cn : String} {T : u_T} {N : Nat} (hc : cl[ci]? = some (Cn, T, N)) (hin : Cond.instanceMethod (MT y).1 ∈ Ts) (hse : Cond.selects Cn (MT y).1 (MT y).1 ∈ Ts) (hd : decode cc pc = .ok (.invokevirtual index, 3)) (hn : pc + 3 = nx) : zSnd (zConc p l e R s m args below meth c Qf nL D cl dA A ad0 n0) (zMet l D cl dA SC St Nw Nc MT) R' pc (zt_callvm ci y (np + 1) mk sk lim nx) := by
  intro ls st h n cu su ht hw hr hnn ad H locs lsA ha hP hD hS hl
  unfold zt_callvm at ht
  cases hz : zpop (np + 1) [] st with
  | none => simp only [hz] at ht
  | some q =>
    obtain ⟨as, s9⟩ := q
    obtain ⟨hsp, hlen, hws⟩ := zpop_split (ad := ad) hz
    obtain ⟨hwa, hw9⟩ := hws n hw.2.1
    rcases as with _ | ⟨v9, as⟩
    · simp only [hz] at ht
    cases v9 with
    | int _ => simp only [hz] at ht
    | long _ => simp only [hz] at ht
    | float _ => simp only [hz] at ht
    | double _ => simp only [hz] at ht
    | null => simp only [hz] at ht
    | retAddr _ => simp only [hz] at ht
    | ref b =>
      simp only [hz] at ht
      cases hk : zsm s9 8 with
      | false => simp only [hk] at ht
      | true =>
        simp only [hk] at ht
        have h8 := zsm_ok s9 8 hk
        obtain ⟨hfit, ht⟩ := ht
        obtain ⟨f1, f2⟩ := zfit_ok hfit
        obtain ⟨fs, hb9, ht⟩ := ht
        rw [hsp]
        have hM := (ht hwa hw.2.2 ad H.size).met zback_noX
        obtain ⟨hfb, hpre⟩ := zpre_at (as := .ref b :: as) hNw hA hK hE hP hD hS
        refine z_back (D := D) (cl := cl) (mc := mk) (ms := sk) (av := (Value.ref (ad b) :: as.map (zv ad)).toArray) hA hn ⟨hw.1, hw9⟩ ⟨Nat.le_trans f1 hlim.1, Nat.le_trans f2 hlim.2⟩ hnn ha hD hS hl ?_
        rw [hmk.1, hmk.2] at hM
        exact va_runV (C := Cn) (b := ad b) (As := as.map (zv ad)) F hM ⟨callB_of (mc := mk) (ms := sk) np F.2.2.2.2 hc9.2.1 hc9.1 hmk.1 hmk.2 (F.2.2.2.2 _ hc9.2.2.2) (F.2.2.2.2 _ hlink) hc9.2.2.1 (zroom_ok hroom), F.2.2.2.2 _ hin, F.2.2.2.2 _ hse⟩ ⟨hfb, va_recv hK hP hc (zW_get9 hb9 (zws_ref hwa)), hpre⟩ rfl (by rw [List.length_map]; exact Nat.succ.inj hlen) hl.1 (by show ((Value.ref (ad b) :: as.map (zv ad)).reverse ++ _) = _; rw [List.reverse_cons, List.append_assoc]; rfl) (lv_room (by rw [zsm_map]; exact h8)) hd ⟨Nat.le_trans f1 hlim.1, Nat.le_trans f2 hlim.2⟩
theorem zs_callI (F : CallFix p m c cc nL s args Ts own) (hNw : Nw.all zst = true) (hA : ∀ q, s.heap.size ≤ q → A q) (hK : va_K D cl (zTys dA SC) s) (hE : zEnv St Nw Nc SC A s s.heap) {y np index nx : Nat} {bytes : ByteArray} {maxL : Nat} {ret : Option FieldType} (hc9 : zcal MT Ts y bytes maxL ret np) (hroom : zroom R (MT y).2.2 maxL = true) (h0 : (MT y).2.2.cells = 0 ∧ (MT y).2.2.slots = 0) (hlink : Cond.methodLink own index (MT y).1 ∈ Ts) (hret : ret = none) (hni : (MT y).1.name = "<init>") (hin : Cond.instanceMethod (MT y).1 ∈ Ts) {ci : Nat} (hd : decode cc pc = .ok (.invokespecial index, 3)) (hn : pc + 3 = nx) : zSnd (zConc p l e R s m args below meth c Qf nL D cl dA A ad0 n0) (zMet l D cl dA SC St Nw Nc MT) R' pc (zt_callv ci y (np + 1) nx) := by
  intro ls st h n cu su ht hw hr hnn ad H locs lsA ha hP hD hS hl
  unfold zt_callv at ht
  cases hz : zpop (np + 1) [] st with
  | none => simp only [hz] at ht
  | some q =>
    obtain ⟨as, s9⟩ := q
    obtain ⟨hsp, hlen, hws⟩ := zpop_split (ad := ad) hz
    obtain ⟨hwa, hw9⟩ := hws n hw.2.1
    rcases as with _ | ⟨v9, as⟩
    · simp only [hz] at ht
    cases v9 with
    | int _ => simp only [hz] at ht
    | long _ => simp only [hz] at ht
    | float _ => simp only [hz] at ht
    | double _ => simp only [hz] at ht
    | null => simp only [hz] at ht
    | retAddr _ => simp only [hz] at ht
    | ref b =>
      simp only [hz] at ht
      cases hk : zsm s9 8 with
      | false => simp only [hk] at ht
      | true =>
        simp only [hk] at ht
        have h8 := zsm_ok s9 8 hk
        obtain ⟨fs, hb9, ht⟩ := ht
        rw [hsp]
        have hM := (ht hwa hw.2.2 ad H.size).met zback_noX
        obtain ⟨hfb, hpre⟩ := zpre_at (as := .ref b :: as) hNw hA hK hE hP hD hS
        refine z_back (D := D) (cl := cl) (mc := 0) (ms := 0) (av := (Value.ref (ad b) :: as.map (zv ad)).toArray) hA hn ⟨hw.1, hw9⟩ hr hnn ha hD hS hl ?_
        rw [h0.1, h0.2] at hM
        exact va_runI (b := ad b) (As := as.map (zv ad)) F (by subst hret; exact hM) ⟨by subst hret; exact callB_of (mc := 0) (ms := 0) np F.2.2.2.2 hc9.2.1 hc9.1 h0.1 h0.2 (F.2.2.2.2 _ hc9.2.2.2) (F.2.2.2.2 _ hlink) hc9.2.2.1 (zroom_ok hroom), hni, F.2.2.2.2 _ hin⟩ ⟨hfb, hpre⟩ rfl (by rw [List.length_map]; exact Nat.succ.inj hlen) hl.1 (by show ((Value.ref (ad b) :: as.map (zv ad)).reverse ++ _) = _; rw [List.reverse_cons, List.append_assoc]; rfl) (lv_room (by rw [zsm_map]; exact h8)) hd hr
theorem zs_callIM (F : CallFix p m c cc nL s args Ts own) (hNw : Nw.all zst = true) (hA : ∀ q, s.heap.size ≤ q → A q) (hK : va_K D cl (zTys dA SC) s) (hE : zEnv St Nw Nc SC A s s.heap) {y np index nx : Nat} {bytes : ByteArray} {maxL : Nat} {ret : Option FieldType} (hc9 : zcal MT Ts y bytes maxL ret np) (hroom : zroom R (MT y).2.2 maxL = true) {mk sk : Nat} {lim : Nat × Nat} (hlim : lim.1 ≤ R.cells ∧ lim.2 ≤ R.slots) (hmk : (MT y).2.2.cells = mk ∧ (MT y).2.2.slots = sk) (hlink : Cond.methodLink own index (MT y).1 ∈ Ts) (hret : ret = none) (hni : (MT y).1.name = "<init>") (hin : Cond.instanceMethod (MT y).1 ∈ Ts) {ci : Nat} (hd : decode cc pc = .ok (.invokespecial index, 3)) (hn : pc + 3 = nx) : zSnd (zConc p l e R s m args below meth c Qf nL D cl dA A ad0 n0) (zMet l D cl dA SC St Nw Nc MT) R' pc (zt_callvm ci y (np + 1) mk sk lim nx) := by
  intro ls st h n cu su ht hw hr hnn ad H locs lsA ha hP hD hS hl
  unfold zt_callvm at ht
  cases hz : zpop (np + 1) [] st with
  | none => simp only [hz] at ht
  | some q =>
    obtain ⟨as, s9⟩ := q
    obtain ⟨hsp, hlen, hws⟩ := zpop_split (ad := ad) hz
    obtain ⟨hwa, hw9⟩ := hws n hw.2.1
    rcases as with _ | ⟨v9, as⟩
    · simp only [hz] at ht
    cases v9 with
    | int _ => simp only [hz] at ht
    | long _ => simp only [hz] at ht
    | float _ => simp only [hz] at ht
    | double _ => simp only [hz] at ht
    | null => simp only [hz] at ht
    | retAddr _ => simp only [hz] at ht
    | ref b =>
      simp only [hz] at ht
      cases hk : zsm s9 8 with
      | false => simp only [hk] at ht
      | true =>
        simp only [hk] at ht
        have h8 := zsm_ok s9 8 hk
        obtain ⟨hfit, ht⟩ := ht
        obtain ⟨f1, f2⟩ := zfit_ok hfit
        obtain ⟨fs, hb9, ht⟩ := ht
        rw [hsp]
        have hM := (ht hwa hw.2.2 ad H.size).met zback_noX
        obtain ⟨hfb, hpre⟩ := zpre_at (as := .ref b :: as) hNw hA hK hE hP hD hS
        refine z_back (D := D) (cl := cl) (mc := mk) (ms := sk) (av := (Value.ref (ad b) :: as.map (zv ad)).toArray) hA hn ⟨hw.1, hw9⟩ ⟨Nat.le_trans f1 hlim.1, Nat.le_trans f2 hlim.2⟩ hnn ha hD hS hl ?_
        rw [hmk.1, hmk.2] at hM
        exact va_runI (b := ad b) (As := as.map (zv ad)) F (by subst hret; exact hM) ⟨by subst hret; exact callB_of (mc := mk) (ms := sk) np F.2.2.2.2 hc9.2.1 hc9.1 hmk.1 hmk.2 (F.2.2.2.2 _ hc9.2.2.2) (F.2.2.2.2 _ hlink) hc9.2.2.1 (zroom_ok hroom), hni, F.2.2.2.2 _ hin⟩ ⟨hfb, hpre⟩ rfl (by rw [List.length_map]; exact Nat.succ.inj hlen) hl.1 (by show ((Value.ref (ad b) :: as.map (zv ad)).reverse ++ _) = _; rw [List.reverse_cons, List.append_assoc]; rfl) (lv_room (by rw [zsm_map]; exact h8)) hd ⟨Nat.le_trans f1 hlim.1, Nat.le_trans f2 hlim.2⟩
theorem zs_callSN (F : CallFix p m c cc nL s args Ts own) (hNw : Nw.all zst = true) (hA : ∀ q, s.heap.size ≤ q → A q) (hK : va_K D cl (zTys dA SC) s) (hE : zEnv St Nw Nc SC A s s.heap) {y np index nx : Nat} {bytes : ByteArray} {maxL : Nat} {ret : Option FieldType} (hc9 : zcal MT Ts y bytes maxL ret np) (hroom : zroom R (MT y).2.2 maxL = true) (h0 : (MT y).2.2.cells = 0 ∧ (MT y).2.2.slots = 0) {host : String} (hlink : Cond.methodLinkNest own index (MT y).1 host ∈ Nw) (hst : Cond.static (MT y).1 ∈ Ts) (hd : decode cc pc = .ok (.invokestatic index, 3)) (hn : pc + 3 = nx) : zSnd (zConc p l e R s m args below meth c Qf nL D cl dA A ad0 n0) (zMet l D cl dA SC St Nw Nc MT) R' pc (zt_call y np nx) := by
  intro ls st h n cu su ht hw hr hnn ad H locs lsA ha hP hD hS hl
  unfold zt_call at ht
  cases hz : zpop np [] st with
  | none => simp only [hz] at ht
  | some q =>
    obtain ⟨as, s9⟩ := q
    obtain ⟨hsp, hlen, hws⟩ := zpop_split (ad := ad) hz
    obtain ⟨hwa, hw9⟩ := hws n hw.2.1
    simp only [hz] at ht
    cases hk : zsm s9 8 with
    | false => simp only [hk] at ht
    | true =>
      simp only [hk] at ht
      have h8 := zsm_ok s9 8 hk
      rw [hsp]
      have hM := (ht hwa hw.2.2 ad H.size).met zback_noX
      obtain ⟨hfb, hpre⟩ := zpre_at (as := as) hNw hA hK hE hP hD hS
      refine z_back (D := D) (cl := cl) (mc := 0) (ms := 0) (av := (as.map (zv ad)).toArray) hA hn ⟨hw.1, hw9⟩ hr hnn ha hD hS hl ?_
      rw [h0.1, h0.2] at hM
      exact va_runSN (g := F0 m pc lsA ((as.map (zv ad)).reverse ++ s9.map (zv ad))) F hM ⟨va_cnB (mc := 0) (ms := 0) np F.2.2.2.2 hc9.2.1 hc9.1 h0.1 h0.2 (hE.2.2.2.1 _ hlink) (F.2.2.2.2 _ hc9.2.2.2) hc9.2.2.1 (zroom_ok hroom), F.2.2.2.2 _ hst, trivial⟩ ⟨hfb, hpre⟩ rfl (by rw [List.length_map]; exact hlen) hl.1 rfl (lv_room (by rw [zsm_map]; exact h8)) hd hr
theorem zs_callIN (F : CallFix p m c cc nL s args Ts own) (hNw : Nw.all zst = true) (hA : ∀ q, s.heap.size ≤ q → A q) (hK : va_K D cl (zTys dA SC) s) (hE : zEnv St Nw Nc SC A s s.heap) {y np index nx : Nat} {bytes : ByteArray} {maxL : Nat} {ret : Option FieldType} (hc9 : zcal MT Ts y bytes maxL ret np) (hroom : zroom R (MT y).2.2 maxL = true) (h0 : (MT y).2.2.cells = 0 ∧ (MT y).2.2.slots = 0) {host : String} (hlink : Cond.methodLinkNest own index (MT y).1 host ∈ Nw) (hret : ret = none) (hni : (MT y).1.name = "<init>") (hin : Cond.instanceMethod (MT y).1 ∈ Ts) {ci : Nat} (hd : decode cc pc = .ok (.invokespecial index, 3)) (hn : pc + 3 = nx) : zSnd (zConc p l e R s m args below meth c Qf nL D cl dA A ad0 n0) (zMet l D cl dA SC St Nw Nc MT) R' pc (zt_callv ci y (np + 1) nx) := by
  intro ls st h n cu su ht hw hr hnn ad H locs lsA ha hP hD hS hl
  unfold zt_callv at ht
  cases hz : zpop (np + 1) [] st with
  | none => simp only [hz] at ht
  | some q =>
    obtain ⟨as, s9⟩ := q
    obtain ⟨hsp, hlen, hws⟩ := zpop_split (ad := ad) hz
    obtain ⟨hwa, hw9⟩ := hws n hw.2.1
    rcases as with _ | ⟨v9, as⟩
    · simp only [hz] at ht
    cases v9 with
    | int _ => simp only [hz] at ht
    | long _ => simp only [hz] at ht
    | float _ => simp only [hz] at ht
    | double _ => simp only [hz] at ht
    | null => simp only [hz] at ht
    | retAddr _ => simp only [hz] at ht
    | ref b =>
      simp only [hz] at ht
      cases hk : zsm s9 8 with
      | false => simp only [hk] at ht
      | true =>
        simp only [hk] at ht
        have h8 := zsm_ok s9 8 hk
        obtain ⟨fs, hb9, ht⟩ := ht
        rw [hsp]
        have hM := (ht hwa hw.2.2 ad H.size).met zback_noX
        obtain ⟨hfb, hpre⟩ := zpre_at (as := .ref b :: as) hNw hA hK hE hP hD hS
        refine z_back (D := D) (cl := cl) (mc := 0) (ms := 0) (av := (Value.ref (ad b) :: as.map (zv ad)).toArray) hA hn ⟨hw.1, hw9⟩ hr hnn ha hD hS hl ?_
        rw [h0.1, h0.2] at hM
        exact va_runIN (b := ad b) (As := as.map (zv ad)) F (by subst hret; exact hM) ⟨by subst hret; exact va_cnB (mc := 0) (ms := 0) np F.2.2.2.2 hc9.2.1 hc9.1 h0.1 h0.2 (hE.2.2.2.1 _ hlink) (F.2.2.2.2 _ hc9.2.2.2) hc9.2.2.1 (zroom_ok hroom), hni, F.2.2.2.2 _ hin⟩ ⟨hfb, hpre⟩ rfl (by rw [List.length_map]; exact Nat.succ.inj hlen) hl.1 (by show ((Value.ref (ad b) :: as.map (zv ad)).reverse ++ _) = _; rw [List.reverse_cons, List.append_assoc]; rfl) (lv_room (by rw [zsm_map]; exact h8)) hd hr
theorem zs_callINM (F : CallFix p m c cc nL s args Ts own) (hNw : Nw.all zst = true) (hA : ∀ q, s.heap.size ≤ q → A q) (hK : va_K D cl (zTys dA SC) s) (hE : zEnv St Nw Nc SC A s s.heap) {y np index nx : Nat} {bytes : ByteArray} {maxL : Nat} {ret : Option FieldType} (hc9 : zcal MT Ts y bytes maxL ret np) (hroom : zroom R (MT y).2.2 maxL = true) {mk sk : Nat} {lim : Nat × Nat} (hlim : lim.1 ≤ R.cells ∧ lim.2 ≤ R.slots) (hmk : (MT y).2.2.cells = mk ∧ (MT y).2.2.slots = sk) {host : String} (hlink : Cond.methodLinkNest own index (MT y).1 host ∈ Nw) (hret : ret = none) (hni : (MT y).1.name = "<init>") (hin : Cond.instanceMethod (MT y).1 ∈ Ts) {ci : Nat} (hd : decode cc pc = .ok (.invokespecial index, 3)) (hn : pc + 3 = nx) : zSnd (zConc p l e R s m args below meth c Qf nL D cl dA A ad0 n0) (zMet l D cl dA SC St Nw Nc MT) R' pc (zt_callvm ci y (np + 1) mk sk lim nx) := by
  intro ls st h n cu su ht hw hr hnn ad H locs lsA ha hP hD hS hl
  unfold zt_callvm at ht
  cases hz : zpop (np + 1) [] st with
  | none => simp only [hz] at ht
  | some q =>
    obtain ⟨as, s9⟩ := q
    obtain ⟨hsp, hlen, hws⟩ := zpop_split (ad := ad) hz
    obtain ⟨hwa, hw9⟩ := hws n hw.2.1
    rcases as with _ | ⟨v9, as⟩
    · simp only [hz] at ht
    cases v9 with
    | int _ => simp only [hz] at ht
    | long _ => simp only [hz] at ht
    | float _ => simp only [hz] at ht
    | double _ => simp only [hz] at ht
    | null => simp only [hz] at ht
    | retAddr _ => simp only [hz] at ht
    | ref b =>
      simp only [hz] at ht
      cases hk : zsm s9 8 with
      | false => simp only [hk] at ht
      | true =>
        simp only [hk] at ht
        have h8 := zsm_ok s9 8 hk
        obtain ⟨hfit, ht⟩ := ht
        obtain ⟨f1, f2⟩ := zfit_ok hfit
        obtain ⟨fs, hb9, ht⟩ := ht
        rw [hsp]
        have hM := (ht hwa hw.2.2 ad H.size).met zback_noX
        obtain ⟨hfb, hpre⟩ := zpre_at (as := .ref b :: as) hNw hA hK hE hP hD hS
        refine z_back (D := D) (cl := cl) (mc := mk) (ms := sk) (av := (Value.ref (ad b) :: as.map (zv ad)).toArray) hA hn ⟨hw.1, hw9⟩ ⟨Nat.le_trans f1 hlim.1, Nat.le_trans f2 hlim.2⟩ hnn ha hD hS hl ?_
        rw [hmk.1, hmk.2] at hM
        exact va_runIN (b := ad b) (As := as.map (zv ad)) F (by subst hret; exact hM) ⟨by subst hret; exact va_cnB (mc := mk) (ms := sk) np F.2.2.2.2 hc9.2.1 hc9.1 hmk.1 hmk.2 (hE.2.2.2.1 _ hlink) (F.2.2.2.2 _ hc9.2.2.2) hc9.2.2.1 (zroom_ok hroom), hni, F.2.2.2.2 _ hin⟩ ⟨hfb, hpre⟩ rfl (by rw [List.length_map]; exact Nat.succ.inj hlen) hl.1 (by show ((Value.ref (ad b) :: as.map (zv ad)).reverse ++ _) = _; rw [List.reverse_cons, List.append_assoc]; rfl) (lv_room (by rw [zsm_map]; exact h8)) hd ⟨Nat.le_trans f1 hlim.1, Nat.le_trans f2 hlim.2⟩
end ZCall
