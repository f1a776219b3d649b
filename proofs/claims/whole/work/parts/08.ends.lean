/-! a call that may throw; throws; returns; a method out of its table -/
theorem zhs_mem : ∀ (hs : List (Nat × Nat × Nat)) (e : Nat) (q : Nat × Nat), zhs hs e = some q → (e, q.1, q.2) ∈ hs := by
  intro hs
  induction hs with
  | nil => intro e q h; exact nomatch h
  | cons a hs ih =>
    intro e q h
    obtain ⟨x, i, tgt⟩ := a
    unfold zhs at h
    cases hb : Nat.beq x e with
    | true =>
      simp only [hb] at h
      cases h
      rw [Nat.eq_of_beq_eq_true hb]
      exact List.mem_cons_self
    | false =>
      simp only [hb] at h
      exact List.mem_cons_of_mem _ (ih e q h)
theorem zl_drop {ad : Nat → Nat} {ls : zL} {lsA : Array Slot} {nL i : Nat} {w : Value} (hk : zok ls i = true) (hl : lv_has lsA nL ((i, w) :: (zlv ad 0 ls).filter (fun q => !(q.1 == i) && !(q.1 + 1 == i && q.2.category == 2)))) : lv_has lsA nL (zlv ad 0 (zclr ls i)) := by
  refine ⟨hl.1, hl.2.1, fun q hq => ?_⟩
  obtain ⟨j, w, h1, rfl⟩ := (zlv_mem 0 q).mp hq
  rw [Nat.zero_add]
  obtain ⟨hne, h2⟩ := zget_clr h1
  refine hl.2.2 _ (List.mem_cons_of_mem _ (List.mem_filter.mpr ⟨(zlv_mem 0 _).mpr ⟨j, w, h2, by rw [Nat.zero_add]⟩, ?_⟩))
  by_cases hc : w.category = 2
  · have h3 := zok_at hk h2 hc
    simp [hne, h3]
  · simp [hne, zcat, hc]
/-- a row of the handlers' table takes the kind e at this place, and its handler drops it into the local i -/
def zhand (own : String) (Ts Nw : List Cond) (Nc : List (String × String)) (tb : List ExceptionTableEntry) (cc : ByteArray) (nL pc e i tgt : Nat) : Prop :=
  ∃ (pre : List ExceptionTableEntry) (x : ExceptionTableEntry) (suf : List ExceptionTableEntry), tb = pre ++ x :: suf ∧ (∀ z ∈ pre, covers z pc = false ∨ (z.catchType ≠ 0 ∧ ∃ nm : String, Cond.classLink own z.catchType nm ∈ Ts ∧ (zxn e, nm) ∈ Nc)) ∧ covers x pc = true ∧ x.catchType ≠ 0 ∧ Cond.classLink own x.catchType (zxn e) ∈ Ts ∧ Cond.castable (zxn e) (zxn e) ∈ Nw ∧ i < nL ∧
    ((∃ k : Fin 4, (k : Nat) = i ∧ decode cc x.handlerPc = .ok (.astore_n k, 1) ∧ x.handlerPc + 1 = tgt) ∨ (decode cc x.handlerPc = .ok (.astore i, 2) ∧ x.handlerPc + 2 = tgt))
section ZCall
variable {p : Program} {l : Launch} {e : Env} {R : Room} {s : State} {m : MethodId} {args : Array Value} {below : List Frame} {meth : Method} {c : Code} {Qf : State → Prop}
variable {cc : ByteArray} {nL : Nat} {Ts : List Cond} {own SC : String} {D : va_G} {cl : List vw_C} {dA : Nat → ClassId} {A : Nat → Prop} {ad0 : Nat → Nat} {n0 : Nat}
variable {St : List (String × Nat × String)} {Nw : List Cond} {Nc : List (String × String)} {MT : zMT}
variable {R' : zQ} {pc : Nat}
theorem zs_callX (F : CallFix p m c cc nL s args Ts own) (hNw : Nw.all zst = true) (hA : ∀ q, s.heap.size ≤ q → A q) (hK : va_K D cl (zTys dA SC) s) (hE : zEnv St Nw Nc SC A s s.heap) {y np index nx : Nat} {bytes : ByteArray} {maxL : Nat} {ret : Option FieldType} (hc9 : zcal MT Ts y bytes maxL ret np) (hroom : zroom R (MT y).2.2 maxL = true) {mk sk : Nat} {lim : Nat × Nat} (hlim : lim.1 ≤ R.cells ∧ lim.2 ≤ R.slots) (hmk : (MT y).2.2.cells = mk ∧ (MT y).2.2.slots = sk) (hlink : Cond.methodLink own index (MT y).1 ∈ Ts) {ci : Nat} {Cn : String} {T : u_T} {N : Nat} (hc : cl[ci]? = some (Cn, T, N)) (hin : Cond.instanceMethod (MT y).1 ∈ Ts) (hse : Cond.selects Cn (MT y).1 (MT y).1 ∈ Ts)
    {hs : List (Nat × Nat × Nat)} (hh : ∀ q ∈ hs, zhand own Ts Nw Nc c.exceptionTable.toList cc nL pc q.1 q.2.1 q.2.2) (hd : decode cc pc = .ok (.invokevirtual index, 3)) (hn : pc + 3 = nx) : zSnd (zConc p l e R s m args below meth c Qf nL D cl dA A ad0 n0) (zMet l D cl dA SC St Nw Nc MT) R' pc (zt_callx ci y (np + 1) mk sk lim hs nx) := by
  intro ls st h n cu su ht hw hr hnn ad H locs lsA ha hP hD hS hl
  subst hn
  unfold zt_callx at ht
  cases hz : zpop (np + 1) [] st with
  | none => simp only [hz] at ht
  | some q =>
    obtain ⟨as, s9⟩ := q
    obtain ⟨hsp, hlen, hws⟩ := zpop_split (ad := ad) hz
    obtain ⟨hwa, hw9⟩ := hws n hw.2.1
    rcases as with _ | ⟨v9, as⟩
    · simp only [hz] at ht
    cases v9 with
    | int _ => simp only [hz] at ht
    | long _ => simp only [hz] at ht
    | float _ => simp only [hz] at ht
    | double _ => simp only [hz] at ht
    | null => simp only [hz] at ht
    | retAddr _ => simp only [hz] at ht
    | ref b =>
      simp only [hz] at ht
      cases hk : zsm s9 8 with
      | false => simp only [hk] at ht
      | true =>
        simp only [hk] at ht
        have h8 := zsm_ok s9 8 hk
        obtain ⟨hfit, ht⟩ := ht
        obtain ⟨f1, f2⟩ := zfit_ok hfit
        obtain ⟨fs, hb9, ht⟩ := ht
        rw [hsp]
        have hM := ht hwa hw.2.2 ad H.size
        rw [hmk.1, hmk.2] at hM
        obtain ⟨hfb, hpre⟩ := zpre_at (as := .ref b :: as) hNw hA hK hE hP hD hS
        have hrun := vx_runV (e := e) (below := below) (meth := meth) (p := p) (C := Cn) (b := ad b) (As := as.map (zv ad)) (rest := s9.map (zv ad)) (g := F0 m pc lsA (((Value.ref b :: as).map (zv ad)).reverse ++ s9.map (zv ad))) (locs := locs) (cells := cu) (slots := su) F hM ⟨callB_of (mc := mk) (ms := sk) np F.2.2.2.2 hc9.2.1 hc9.1 hmk.1 hmk.2 (F.2.2.2.2 _ hc9.2.2.2) (F.2.2.2.2 _ hlink) hc9.2.2.1 (zroom_ok hroom), F.2.2.2.2 _ hin, F.2.2.2.2 _ hse⟩ ⟨hfb, va_recv hK hP hc (zW_get9 hb9 (zws_ref hwa)), hpre⟩ rfl (by rw [List.length_map]; exact Nat.succ.inj hlen) hl.1 (by show ((Value.ref (ad b) :: as.map (zv ad)).reverse ++ _) = _; rw [List.reverse_cons, List.append_assoc]; rfl) (lv_room (by rw [zsm_map]; exact h8)) hd ⟨Nat.le_trans f1 hlim.1, Nat.le_trans f2 hlim.2⟩
        intro T hT X
        rcases hrun T hT X with ⟨v, st₀, t, T', L, h0, X', hL, e1, e2, ⟨r, h', n', ad', hv, hQ, hwr, hle, hag, hwh', hP', hD', hF⟩, stp⟩ | ⟨q, st₀, t, T', L, E, ce, h0, X', hL, e1, e2, ⟨x, h', n', ad', hxE, hx3, hQ, hle, hag, hwh', hP', hD', hF⟩, hce, hcv, hcl, stp⟩
        · obtain ⟨-, -, hS'⟩ := vx_keep (A1 := va_A (zW dA ad h n) H.size) h0 e1 hS (fun q _ hq => zfree hA hD hS q hq) (fun q hq => zfree hA hD hS q hq) hL hF
          cases hv
          have hl' : lv_has lsA nL (zlv ad' 0 ls) := zlv_agree hag hw.1 hl
          have hD2 : va_D A (zW dA ad' h' n') := hD'.weaken (fun _ q _ hq => zfree hA hD hS q.1 hq)
          have ha' : ∀ i, i < n0 → ad' i = ad0 i := fun i hi => (hag i (Nat.lt_of_lt_of_le hi hnn)).trans (ha i hi)
          rw [← e1] at hP'
          have hrest : s9.map (zv ad') = s9.map (zv ad) := zvs_agree hag hw9
          cases r with
          | none =>
            obtain ⟨t2, a1, b1⟩ := hQ ⟨zwl_up hw.1 hle, zws_up hw9 hle, hwh'⟩ ⟨Nat.le_trans f1 hlim.1, Nat.le_trans f2 hlim.2⟩ (Nat.le_trans hnn hle) ad' T'.heap (locs ++ L) lsA ha' hP' hD2 hS' hl' T' rfl X'
            rw [hrest] at a1
            exact ⟨t2, stp t2 a1, b1⟩
          | some w =>
            obtain ⟨t2, a1, b1⟩ := hQ ⟨zwl_up hw.1 hle, zws_cons (hwr w rfl) (zws_up hw9 hle), hwh'⟩ ⟨Nat.le_trans f1 hlim.1, Nat.le_trans f2 hlim.2⟩ (Nat.le_trans hnn hle) ad' T'.heap (locs ++ L) lsA ha' hP' hD2 hS' hl' T' rfl X'
            rw [List.map_cons, hrest] at a1
            exact ⟨t2, stp t2 a1, b1⟩
        · obtain ⟨hz9, -, hS'⟩ := vx_keep (A1 := va_A (zW dA ad h n) H.size) h0 e1 hS (fun q _ hq => zfree hA hD hS q hq) (fun q hq => zfree hA hD hS q hq) hL hF
          have hl' : lv_has lsA nL (zlv ad' 0 ls) := zlv_agree hag hw.1 hl
          have hD2 : va_D A (zW dA ad' h' n') := hD'.weaken (fun _ q _ hq => zfree hA hD hS q.1 hq)
          have ha' : ∀ i, i < n0 → ad' i = ad0 i := fun i hi => (hag i (Nat.lt_of_lt_of_le hi hnn)).trans (ha i hi)
          rw [← e1] at hP' hce
          subst hxE
          unfold zbackx at hQ
          simp only at hQ
          cases hq9 : zhs hs x with
          | none => simp only [hq9] at hQ
          | some it =>
            obtain ⟨i, tgt⟩ := it
            simp only [hq9] at hQ
            cases hko : zok ls i with
            | false => simp only [hko] at hQ
            | true =>
              simp only [hko] at hQ
              obtain ⟨pre, x9, suf, hsplit, hpass, hcov, hct, hcl9, hca, hi, hdec⟩ := hh _ (zhs_mem hs x (i, tgt) hq9)
              have hcast : (Cond.castable (zxn x) (zxn x)).before args s = true := va_Nw.use rfl (hE.2.2.2.1 _ hca)
              have hkk : W p l e R s m args below meth c T'.heap (locs ++ L) (cu + mk) (su + sk) Qf (F0 m x9.handlerPc lsA [.ref q]) := by
                rcases hdec with ⟨k, hki, hda, htg⟩ | ⟨hda, htg⟩
                · subst htg
                  exact lv_astore_n F.1 F.2.1 hda hki hl' hi rfl fun ls' hl9 => hQ ⟨zwl_clr (zwl_up hw.1 hle), zws_nil, hwh'⟩ ⟨Nat.le_trans f1 hlim.1, Nat.le_trans f2 hlim.2⟩ (Nat.le_trans hnn hle) ad' T'.heap (locs ++ L) ls' ha' hP' hD2 hS' (zl_drop hko hl9)
                · subst htg
                  exact lv_astore F.1 F.2.1 hda hl' hi rfl fun ls' hl9 => hQ ⟨zwl_clr (zwl_up hw.1 hle), zws_nil, hwh'⟩ ⟨Nat.le_trans f1 hlim.1, Nat.le_trans f2 hlim.2⟩ (Nat.le_trans hnn hle) ad' T'.heap (locs ++ L) ls' ha' hP' hD2 hS' (zl_drop hko hl9)
              obtain ⟨t2, a1, b1⟩ := vx_catch (rest := s9.map (zv ad)) (ls := lsA) F.2.2.2.1 pre x9 suf hsplit (fun z hz => (hpass z hz).imp id fun ⟨g1, nm, g2, g3⟩ => ⟨g1, nm, F.2.2.2.2 _ g2, hE.2.2.2.2.1 _ g3⟩) hcov hct (F.2.2.2.2 _ hcl9) hcast hce hcv hcl hkk T' rfl X'
              exact ⟨t2, stp.trans a1, b1⟩
end ZCall
