/-! methods with handlers: as callees, and out of their tables; the words of the tables in one list -/
section ZCall
variable {p : Program} {l : Launch} {e : Env} {R : Room} {s : State} {m : MethodId} {args : Array Value} {below : List Frame} {meth : Method} {c : Code} {Qf : State → Prop}
variable {cc : ByteArray} {nL : Nat} {Ts : List Cond} {own SC : String} {D : va_G} {cl : List vw_C} {dA : Nat → ClassId} {A : Nat → Prop} {ad0 : Nat → Nat} {n0 : Nat}
variable {St : List (String × Nat × String)} {Nw : List Cond} {Nc : List (String × String)} {MT : zMT}
variable {R' : zQ} {pc : Nat}
theorem zs_callSW (F : CallFix p m c cc nL s args Ts own) (hNw : Nw.all zst = true) (hA : ∀ q, s.heap.size ≤ q → A q) (hK : va_K D cl (zTys dA SC) s) (hE : zEnv St Nw Nc SC A s s.heap) {y np index nx : Nat} {bytes : ByteArray} {maxL : Nat} {ret : Option FieldType} {hh : List (Nat × Nat × Nat × Nat)} (hc9 : zcalh MT Ts y bytes maxL ret hh np) (hroom : zroom R (MT y).2.2 maxL = true) {mk sk : Nat} {lim : Nat × Nat} (hlim : lim.1 ≤ R.cells ∧ lim.2 ≤ R.slots) (hmk : (MT y).2.2.cells = mk ∧ (MT y).2.2.slots = sk) (hlink : Cond.methodLink own index (MT y).1 ∈ Ts) (hst : Cond.static (MT y).1 ∈ Ts) (hd : decode cc pc = .ok (.invokestatic index, 3)) (hn : pc + 3 = nx) : zSnd (zConc p l e R s m args below meth c Qf nL D cl dA A ad0 n0) (zMet l D cl dA SC St Nw Nc MT) R' pc (zt_callm y np mk sk lim nx) := by
  intro ls st h n cu su ht hw hr hnn ad H locs lsA ha hP hD hS hl
  unfold zt_callm at ht
  cases hz : zpop np [] st with
  | none => simp only [hz] at ht
  | some q =>
    obtain ⟨as, s9⟩ := q
    obtain ⟨hsp, hlen, hws⟩ := zpop_split (ad := ad) hz
    obtain ⟨hwa, hw9⟩ := hws n hw.2.1
    simp only [hz] at ht
    cases hk : zsm s9 8 with
    | false => simp only [hk] at ht
    | true =>
      simp only [hk] at ht
      have h8 := zsm_ok s9 8 hk
      obtain ⟨hfit, ht⟩ := ht
      obtain ⟨f1, f2⟩ := zfit_ok hfit
      rw [hsp]
      have hM := (ht hwa hw.2.2 ad H.size).met zback_noX
      obtain ⟨hfb, hpre⟩ := zpre_at (as := as) hNw hA hK hE hP hD hS
      refine z_back (D := D) (cl := cl) (mc := mk) (ms := sk) (av := (as.map (zv ad)).toArray) hA hn ⟨hw.1, hw9⟩ ⟨Nat.le_trans f1 hlim.1, Nat.le_trans f2 hlim.2⟩ hnn ha hD hS hl ?_
      rw [hmk.1, hmk.2] at hM
      have hG : GoodIn Ts (va_wsS own index (MT y).1 (MT y).2.1) := fun w hw => by
        rcases List.mem_append.mp hw with h | h
        · rcases List.mem_cons.mp h with rfl | h
          · exact ⟨hlink, good_of_word rfl⟩
          · rcases List.mem_cons.mp h with rfl | h
            · exact ⟨hst, good_of_word rfl⟩
            · rcases List.mem_cons.mp h with rfl | h
              · exact ⟨hc9.2.2.2, good_of_word rfl⟩
              · exact nomatch h
        · exact hc9.2.1 w h
      exact vx_runSW (hh := hh) (g := F0 m pc lsA ((as.map (zv ad)).reverse ++ s9.map (zv ad))) F hM (vx_cwSW np F.2.2.2.2 hG hc9.1 hmk.1 hmk.2 hc9.2.2.1 (zroom_ok hroom)) ⟨hfb, hpre⟩ rfl (by rw [List.length_map]; exact hlen) hl.1 rfl (lv_room (by rw [zsm_map]; exact h8)) hd ⟨Nat.le_trans f1 hlim.1, Nat.le_trans f2 hlim.2⟩
end ZCall
theorem z_methH {l : Launch} {D : va_G} {cl : List vw_C} {dA : Nat → ClassId} {SC : String} {St : List (String × Nat × String)} {Nw : List Cond} {Nc : List (String × String)} {MT : zMT} {Ts : List Cond} {k nL np : Nat} {cc : ByteArray} {ret : Option FieldType} {hh : List (Nat × Nat × Nat × Nat)} {T : List (List (Nat × zT))}
    (hcal : zcalh MT Ts k cc nL ret hh np) (hy : plainName (MT k).1.cls = true) {as : List Value} {h0 : zH} {n0 : Nat} {Q : zQ} (hlen : (lg_sl (as.map (zv (fun i => i)))).length ≤ nL)
    (hS : ∀ (ad0 : Nat → Nat) (p : Program) (e : Env) (s : State) (m : MethodId) (args : Array Value) (below : List Frame) (meth : Method) (c : Code),
      CallFix p m c cc nL s args Ts (MT k).1.cls → meth.sig.returnType = ret → meth.locks = false → meth.name = (MT k).1.name → c.exceptionTable.toList = tableOf hh → va_K D cl (zTys dA SC) s → zEnv St Nw Nc SC (va_A (zW dA ad0 h0 n0) s.heap.size) s s.heap →
      ∀ L ∈ T, ∀ q ∈ L, zSnd (zConc p l e (MT k).2.2 s m args below meth c (zQf (MT k).2.2 s args below D cl dA ad0 h0 n0 Q) nL D cl dA (va_A (zW dA ad0 h0 n0) s.heap.size) ad0 n0) (zMet l D cl dA SC St Nw Nc MT) Q q.1 q.2)
    (hP : ∀ P : zP, (∀ pc ls st h n cu su, zstep T (zMet l D cl dA SC St Nw Nc MT) Q P pc ls st h n cu su → P pc ls st h n cu su) → zfgt P → P 0 (zent nL as) [] h0 n0 0 0) : zMet l D cl dA SC St Nw Nc MT k as h0 n0 Q := by
  intro hwa hwh ad sz
  refine vx_ofWH (cc := cc) (maxL := nL) (ret := ret) (hh := hh) hy hcal.1 ?_
  intro p e s m args below meth c s₁ B hml hv
  obtain ⟨rfl, hsz, hP0, hK, hD0, hE⟩ := hv
  subst hsz
  have hts := atoms_spec (ws := (MT k).2.1) B.pre
  have hts' : ∀ w ∈ Ts, w.before _ s = true := fun w hw => hts w (by rw [hcal.1]; exact List.mem_cons_of_mem _ hw)
  have F : CallFix p m c cc nL s (as.map (zv ad)).toArray Ts (MT k).1.cls := ⟨B.exec, B.bytes, hml, findClass_of_methodNamed B.named, hts'⟩
  have htab' : c.exceptionTable.toList = tableOf hh := vx_table (x := (MT k).1) B (hts _ (by rw [hcal.1]; exact List.mem_cons_self))
  have hSn := hS ad p e s m _ below meth c F B.returns B.notSynchronized (name_of_methodNamed B.named B.method).1 htab' hK hE
  have key := hP _ (fun pc ls st h n cu su hst => by
    unfold zstep at hst
    cases hf : zfet T pc with
    | none => simp only [hf] at hst
    | some t =>
      simp only [hf] at hst
      obtain ⟨L, hL, hm⟩ := zfet_mem hf
      exact hSn L hL _ hm ls st h n cu su hst) zConc_fgt
  have hlen' : (lg_sl (as.map (zv ad))).length ≤ nL := by
    have e1 : ∀ (f g : Nat → Nat) (vs : List Value), (lg_sl (vs.map (zv f))).length = (lg_sl (vs.map (zv g))).length := by
      intro f g vs
      induction vs with
      | nil => rfl
      | cons v vs ih =>
        unfold lg_sl at ih ⊢
        simp only [List.map_cons, List.flatMap_cons, List.length_append, ih]
        cases v <;> rfl
    rw [e1 ad (fun i => i)]
    exact hlen
  have hl := lv_entry (as.map (zv ad)) hlen'
  rw [lg_entry_eq]
  refine key ⟨zent_wl hwa, zws_nil, hwh⟩ ⟨Nat.zero_le _, Nat.zero_le _⟩ (Nat.le_refl _) ad s.heap [] _ (fun _ _ => rfl) hP0 hD0.self va_S.rf (zent_has hl)
/-- the good words of the tables -/
def lw_all : List Cond := lw_tbl.filter goodWord
theorem lw_in {i : Nat} {w : Cond} (h : lw_tbl[i]? = some w) (hg : goodWord w = true) : w ∈ lw_all := List.mem_filter.mpr ⟨List.mem_of_getElem? h, hg⟩
theorem lw_good {w : Cond} (h : w ∈ lw_all) : GoodIn lw_all (w :: lw_all) := fun v hv => by
  have hv' : v ∈ lw_all := (List.mem_cons.mp hv).elim (fun e => by rw [e]; exact h) id
  exact ⟨hv', good_of_word (List.mem_filter.mp hv').2⟩
theorem lw_sub {v : Cond} (h : v ∈ lw_all) : v ∈ lw_tbl := (List.mem_filter.mp h).1
