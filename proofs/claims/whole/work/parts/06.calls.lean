/-! CONTRACTS of the abstract machine, said of the real one; calls; ends -/
/-- what the tables and the statics say, and every method hands on: the two statics that a throw reads, texts, words that no change of the tables takes back -/
def zEnv (St : List (String × Nat × String)) (Nw : List Cond) (Nc : List (String × String)) (SC : String) (A : Nat → Prop) (U : State) (H : Heap) : Prop :=
  vx_Zq Bundle.tN "UNASSIGNED_STACK" Bundle.steD A U H ∧ vx_Zq Bundle.tN "SUPPRESSED_SENTINEL" Bundle.listD A U H ∧ (∀ q ∈ St, ∃ sa, vk_R q.1 q.2.1 q.2.2 sa U) ∧ (∀ w ∈ Nw, va_Nw w U) ∧ (∀ q ∈ Nc, va_Nc q.1 q.2 U) ∧ va_AO SC U
/-- a word of this kind stays as the tables warm -/
def zst : Cond → Bool
  | .methodLinkNest .. => true
  | .fieldLinkNest .. => true
  | .castable .. => true
  | .declares .. => true
  | _ => false
theorem zst_warm {w : Cond} (hw : zst w = true) {s U : State} (hW : s.WarmedH U.vm) (h : va_Nw w s) : va_Nw w U := by
  cases w <;> first | exact va_Nw.warmM hW h | exact va_Nw.warmF hW h | exact va_Nw.warmC hW h | exact va_Nw.warmD hW h | exact absurd hw Bool.false_ne_true
section ZEnv
variable {St : List (String × Nat × String)} {Nw : List Cond} {Nc : List (String × String)} {SC : String}
theorem zEnv.moved (hNw : Nw.all zst = true) {A : Nat → Prop} {s U : State} {H : Heap} (hW : s.WarmedH U.vm) (h : zEnv St Nw Nc SC A s H) : zEnv St Nw Nc SC A U H := by
  obtain ⟨h1, h2, h3, h4, h5, h6⟩ := h
  refine ⟨h1.moved hW.alike, h2.moved hW.alike, fun q hq => ?_, fun w hw => zst_warm (List.all_eq_true.mp hNw w hw) hW (h4 w hw), fun q hq => va_Nc.moved hW.alike (h5 q hq), va_AO.moved hW.alike h6⟩
  obtain ⟨sa, h⟩ := h3 q hq
  exact ⟨sa, vk_R.warm hW h⟩
theorem zEnv.kept {A : Nat → Prop} {U : State} {H H1 : Heap} (h : zEnv St Nw Nc SC A U H) (hq : ∀ a : Nat, a < H.size → ¬ A a → H1[a]? = H[a]?) : zEnv St Nw Nc SC A U H1 := ⟨h.1.kept hq, h.2.1.kept hq, h.2.2⟩
theorem zEnv.narrow {A B : Nat → Prop} {U : State} {H : Heap} (h : zEnv St Nw Nc SC A U H) (hAB : ∀ q, B q → A q) : zEnv St Nw Nc SC B U H := ⟨h.1.narrow hAB, h.2.1.narrow hAB, h.2.2⟩
end ZEnv
section ZCon
variable (l : Launch) (D : va_G) (cl : List vw_C) (dA : Nat → ClassId) (SC : String) (St : List (String × Nat × String)) (Nw : List Cond) (Nc : List (String × String))
def zPre (ad : Nat → Nat) (as : List Value) (h : zH) (n sz : Nat) : Array Value → State → Prop :=
  va_Pc (as.map (zv ad)) fun U => U.heap.size = sz ∧ va_P D cl (zW dA ad h n) U.heap ∧ va_K D cl (zTys dA SC) U ∧ va_D (fun _ => True) (zW dA ad h n) ∧ zEnv St Nw Nc SC (va_A (zW dA ad h n) sz) U U.heap
/-- the world behind a call -/
def zEnd (ad : Nat → Nat) (h : zH) (n sz : Nat) (ad' : Nat → Nat) (h' : zH) (n' : Nat) (st t : State) : Prop :=
  n ≤ n' ∧ (∀ i, i < n → ad' i = ad i) ∧ zwh n' h' ∧ va_P D cl (zW dA ad' h' n') t.heap ∧ va_D (va_A (zW dA ad h n) sz) (zW dA ad' h' n') ∧ va_F (va_A (zW dA ad h n) sz) st t
def zQc (ad : Nat → Nat) (h : zH) (n sz : Nat) (Q : zQ) : Array Value → State → Outcome → State → Prop := fun _ st o t =>
  ∃ (r : Option Value) (h' : zH) (n' : Nat) (ad' : Nat → Nat), o = .returned (r.map (zv ad')) ∧ Q 0 r h' n' ∧ (∀ v, r = some v → zwv n' v) ∧ zEnd D cl dA ad h n sz ad' h' n' st t
/-- the kinds of exceptions by number -/
def zxn : Nat → String
  | 0 => "java/lang/IllegalArgumentException"
  | 1 => "java/lang/IllegalStateException"
  | _ => "java/lang/IndexOutOfBoundsException"
def zXC (ad : Nat → Nat) (h : zH) (n sz : Nat) (Q : zQ) : String → State → State → Prop := fun E st t =>
  ∃ (x : Nat) (h' : zH) (n' : Nat) (ad' : Nat → Nat), zxn x = E ∧ x < 3 ∧ Q (x + 1) none h' n' ∧ zEnd D cl dA ad h n sz ad' h' n' st t
/-- a method's name, its words, its room -/
abbrev zMT : Type := Nat → MethodName × List Cond × Room
def zMet (MT : zMT) : zK := fun k as h n Q => zws n as → zwh n h → ∀ (ad : Nat → Nat) (sz : Nat),
  vx_Met l (MT k).1 (MT k).2.1 (MT k).2.2 (zPre D cl dA SC St Nw Nc ad as h n sz) (zQc D cl dA ad h n sz Q) (zXC D cl dA ad h n sz Q) (MT k).2.2.cells (MT k).2.2.slots (va_A (zW dA ad h n) sz)
end ZCon
theorem vx_Met.mono {l : Launch} {y : MethodName} {ws : List Cond} {rm : Room} {Pc : Array Value → State → Prop} {Qc Qc' : Array Value → State → Outcome → State → Prop} {XC XC' : String → State → State → Prop} {mc ms : Nat} {free : Addr → Prop} (h : vx_Met l y ws rm Pc Qc XC mc ms free) (h1 : ∀ a st o t, Qc a st o t → Qc' a st o t) (h2 : ∀ E st t, XC E st t → XC' E st t) : vx_Met l y ws rm Pc Qc' XC' mc ms free := by
  intro p e ha hc hk s m args below hf happ hP hK
  obtain ⟨n, o, a1, a2, a3, a4⟩ := h p e ha hc hk s m args below hf happ hP hK
  refine ⟨n, o, a1, a2, a3, ?_⟩
  rcases a4 with ⟨q1, q2⟩ | ⟨q, rfl, E, ce, L, q1, q2⟩
  · exact Or.inl ⟨h1 _ _ _ _ q1, q2⟩
  · exact Or.inr ⟨q, rfl, E, ce, L, h2 _ _ _ q1, q2⟩
theorem vx_Met.met {l : Launch} {y : MethodName} {ws : List Cond} {rm : Room} {Pc : Array Value → State → Prop} {Qc : Array Value → State → Outcome → State → Prop} {XC : String → State → State → Prop} {mc ms : Nat} {free : Addr → Prop} (h : vx_Met l y ws rm Pc Qc XC mc ms free) (h2 : ∀ E st t, ¬ XC E st t) : Met l y ws rm Pc Qc mc ms free := by
  intro p e ha hc hk s m args below hf happ hP hK
  obtain ⟨n, o, a1, a2, a3, a4⟩ := h p e ha hc hk s m args below hf happ hP hK
  refine ⟨n, o, a1, a2, a3, ?_⟩
  rcases a4 with q | ⟨q, rfl, E, ce, L, q1, q2⟩
  · exact q
  · exact absurd q1 (h2 _ _ _)
section ZCall
variable {p : Program} {l : Launch} {e : Env} {R : Room} {s : State} {m : MethodId} {args : Array Value} {below : List Frame} {meth : Method} {c : Code} {Qf : State → Prop}
variable {cc : ByteArray} {nL : Nat} {Ts : List Cond} {own SC : String} {D : va_G} {cl : List vw_C} {dA : Nat → ClassId} {A : Nat → Prop} {ad0 : Nat → Nat} {n0 : Nat}
variable {St : List (String × Nat × String)} {Nw : List Cond} {Nc : List (String × String)} {MT : zMT}
variable {R' : zQ} {pc : Nat}
theorem zMet.mono {k : Nat} {as : List Value} {h : zH} {n : Nat} {Q Q' : zQ} (hQ : ∀ x r h n, Q x r h n → Q' x r h n) (hm : zMet l D cl dA SC St Nw Nc MT k as h n Q) : zMet l D cl dA SC St Nw Nc MT k as h n Q' := fun h1 h2 ad sz => (hm h1 h2 ad sz).mono
  (fun _ _ _ _ ⟨r, h', n', ad', q1, q2, q3⟩ => ⟨r, h', n', ad', q1, hQ _ _ _ _ q2, q3⟩)
  (fun _ _ _ ⟨x, h', n', ad', q1, q0, q2, q3⟩ => ⟨x, h', n', ad', q1, q0, hQ _ _ _ _ q2, q3⟩)
theorem zfree {ad : Nat → Nat} {h : zH} {n : Nat} {H0 H : Heap} {locs : List Loc} (hA : ∀ q, H0.size ≤ q → A q) (hD : va_D A (zW dA ad h n)) (hS : va_S A H0 H locs) : ∀ q, va_A (zW dA ad h n) H.size q → A q := by
  intro q hq
  rcases hq with ⟨k, e, h1⟩ | h1
  · exact hD.2 k _ h1
  · exact hA q (Nat.le_trans hS.1 h1)
/-- what holds at a callee's start, out of what holds here -/
theorem zpre_at (hNw : Nw.all zst = true) (hA : ∀ q, s.heap.size ≤ q → A q) (hK : va_K D cl (zTys dA SC) s) (hE : zEnv St Nw Nc SC A s s.heap) {ad : Nat → Nat} {h : zH} {n : Nat} {H : Heap} {locs : List Loc} {as : List Value} (hP : va_P D cl (zW dA ad h n) H) (hD : va_D A (zW dA ad h n)) (hS : va_S A s.heap H locs) :
    FrameBlind (zPre D cl dA SC St Nw Nc ad as h n H.size) ∧ ∀ U : State, U.heap = H → s.WarmedH U.vm → zPre D cl dA SC St Nw Nc ad as h n H.size (as.map (zv ad)).toArray U := by
  refine ⟨fun a U g mk q => ?_, fun U hU hW => ?_⟩
  · obtain ⟨q0, q1, q2, q3, q4, q5⟩ := q
    exact ⟨q0, q1, q2, va_K.moved (u := U) (U := U.calling g mk a) (Vm.Alike.refl U.vm) q3, q4, zEnv.moved hNw (s := U) (U := U.calling g mk a) (State.WarmedH.refl U) q5⟩
  · subst hU
    exact ⟨rfl, rfl, hP, va_K.moved hW.alike hK, hD.weaken (fun _ _ _ _ => trivial), zEnv.moved hNw hW ((hE.kept hS.2.1).narrow (zfree hA hD hS))⟩
/-- behind a call that came back -/
theorem z_back {mc ms nx : Nat} {ad : Nat → Nat} {h : zH} {n : Nat} {H : Heap} {locs : List Loc} {lsA : Array Slot} {ls : zL} {st0 : List Value} {rest : List Value} {cu su : Nat} {av : Array Value}
    (hA : ∀ q, s.heap.size ≤ q → A q) (hnx : pc + 3 = nx) (hw : zwl n ls ∧ zws n rest) (hr : cu + mc ≤ R.cells ∧ su + ms ≤ R.slots) (hnn : n0 ≤ n) (ha : ∀ i, i < n0 → ad i = ad0 i) (hD : va_D A (zW dA ad h n)) (hS : va_S A s.heap H locs) (hl : lv_has lsA nL (zlv ad 0 ls))
    (hrun : va_Run p l e R s m args below meth c H locs cu su mc ms (F0 m pc lsA st0) (rest.map (zv ad)) (zQc D cl dA ad h n H.size (zback (zConc p l e R s m args below meth c Qf nL D cl dA A ad0 n0) nx ls rest (cu + mc) (su + ms)) av) (va_A (zW dA ad h n) H.size)) :
    W p l e R s m args below meth c H locs cu su Qf (F0 m pc lsA st0) := by
  subst hnx
  intro T hT X
  obtain ⟨v, st₀, t, T', L, h0, X', hL, e1, e2, ⟨r, h', n', ad', hv, hQ, hwr, hle, hag, hwh', hP', hD', hF⟩, st⟩ := hrun T hT X
  obtain ⟨-, -, hS'⟩ := vx_keep (A1 := va_A (zW dA ad h n) H.size) h0 e1 hS (fun q _ hq => zfree hA hD hS q hq) (fun q hq => zfree hA hD hS q hq) hL hF
  cases hv
  have hl' : lv_has lsA nL (zlv ad' 0 ls) := zlv_agree hag hw.1 hl
  have hD2 : va_D A (zW dA ad' h' n') := hD'.weaken (fun _ q _ hq => zfree hA hD hS q.1 hq)
  have ha' : ∀ i, i < n0 → ad' i = ad0 i := fun i hi => (hag i (Nat.lt_of_lt_of_le hi hnn)).trans (ha i hi)
  rw [← e1] at hP'
  have hrest : rest.map (zv ad') = rest.map (zv ad) := zvs_agree hag hw.2
  cases r with
  | none =>
    obtain ⟨t2, a1, b1⟩ := hQ ⟨zwl_up hw.1 hle, zws_up hw.2 hle, hwh'⟩ hr (Nat.le_trans hnn hle) ad' T'.heap (locs ++ L) lsA ha' hP' hD2 hS' hl' T' rfl X'
    rw [hrest] at a1
    exact ⟨t2, st t2 a1, b1⟩
  | some w =>
    obtain ⟨t2, a1, b1⟩ := hQ ⟨zwl_up hw.1 hle, zws_cons (hwr w rfl) (zws_up hw.2 hle), hwh'⟩ hr (Nat.le_trans hnn hle) ad' T'.heap (locs ++ L) lsA ha' hP' hD2 hS' hl' T' rfl X'
    rw [List.map_cons, hrest] at a1
    exact ⟨t2, st t2 a1, b1⟩
theorem zback_noX {D : va_G} {cl : List vw_C} {dA : Nat → ClassId} {ad : Nat → Nat} {h : zH} {n sz : Nat} {P : zP} {nx : Nat} {ls : zL} {s9 : List Value} {cu su : Nat} : ∀ E st t, ¬ zXC D cl dA ad h n sz (zback P nx ls s9 cu su) E st t := fun _ _ _ ⟨_, _, _, _, _, _, q, _⟩ => q
/-- what a place that calls owes: the callee's words among ours, its room within ours -/
def zroom (R rm : Room) (maxL : Nat) : Bool := Nat.ble (rm.frames + 1) R.frames && Nat.ble (8 + (maxL + 11) + rm.locals) R.locals
theorem zroom_ok {R rm : Room} {maxL : Nat} (h : zroom R rm maxL = true) : rm.frames + 1 ≤ R.frames ∧ 8 + (maxL + 11) + rm.locals ≤ R.locals := by
  simp only [zroom, Bool.and_eq_true] at h
  exact ⟨Nat.le_of_ble_eq_true h.1, Nat.le_of_ble_eq_true h.2⟩
/-- a method as a callee: its words begin with its code; how many parameters it has -/
def zcal (MT : zMT) (Ts : List Cond) (k : Nat) (bytes : ByteArray) (maxL : Nat) (ret : Option FieldType) (np : Nat) : Prop :=
  (MT k).2.1 = Cond.code (MT k).1 bytes maxL ret :: Ts ∧ GoodIn Ts (MT k).2.1 ∧ ((MT k).1.cls ≠ "java/lang/invoke/MethodHandle" ∧ (MT k).1.cls ≠ "java/lang/invoke/VarHandle" ∧ (parseMethodDescriptor (MT k).1.desc).map (fun d => d.parameters.length) = some np) ∧ Cond.initialized (MT k).1.cls ∈ Ts
/-- .. one with handlers -/
def zcalh (MT : zMT) (Ts : List Cond) (k : Nat) (bytes : ByteArray) (maxL : Nat) (ret : Option FieldType) (hh : List (Nat × Nat × Nat × Nat)) (np : Nat) : Prop :=
  (MT k).2.1 = Cond.codeWith (MT k).1 bytes maxL ret hh :: Ts ∧ GoodIn Ts (MT k).2.1 ∧ ((MT k).1.cls ≠ "java/lang/invoke/MethodHandle" ∧ (MT k).1.cls ≠ "java/lang/invoke/VarHandle" ∧ (parseMethodDescriptor (MT k).1.desc).map (fun d => d.parameters.length) = some np) ∧ Cond.initialized (MT k).1.cls ∈ Ts
theorem zpop_split {ad : Nat → Nat} {k : Nat} {st as s9 : List Value} (h : zpop k [] st = some (as, s9)) : st.map (zv ad) = (as.map (zv ad)).reverse ++ s9.map (zv ad) ∧ as.length = k ∧ ∀ n, zws n st → zws n as ∧ zws n s9 := by
  obtain ⟨h1, h2⟩ := zpop_spec k [] st as s9 h
  have h1' : as.reverse ++ s9 = st := h1
  refine ⟨?_, h2, fun n hw => ⟨fun v hv => hw v ?_, fun v hv => hw v ?_⟩⟩
  · rw [← h1', List.map_append, List.map_reverse]
  · rw [← h1']; exact List.mem_append_left _ (List.mem_reverse.mpr hv)
  · rw [← h1']; exact List.mem_append_right _ hv
end ZCall
