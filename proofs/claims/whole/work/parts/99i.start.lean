/-! THE LAW'S START: the classes, the arrays, what lies outside, and the walk out of the table -/
theorem lw_cls {s : State} {b : Nat} (hts : ∀ w ∈ lw_all, w.before #[Value.ref b] s = true) : ∃ D : va_G, ∀ (c : Nat) (q : vw_C), vwCl[c]? = some q → u_Kn s q.1 q.2.1 q.2.2 (D.1 c) (D.2 c) := by
  have h : ∀ q ∈ vwCl, ∃ (cC : ClassId) (iS : Nat → Nat), u_Kn s q.1 q.2.1 q.2.2 cC iS :=
    List.forall_mem_cons.mpr ⟨u_known hts uX0_in (hts _ wm_120), List.forall_mem_cons.mpr ⟨u_known hts uX1_in (hts _ wm_251), List.forall_mem_cons.mpr ⟨u_known hts uX2_in (hts _ wm_126), List.forall_mem_cons.mpr ⟨u_known hts uX3_in (hts _ wm_240), List.forall_mem_cons.mpr ⟨u_known hts uX4_in (hts _ wm_246), List.forall_mem_cons.mpr ⟨u_known hts uX5_in (hts _ wm_106), List.forall_mem_cons.mpr ⟨u_known hts uX6_in (hts _ wm_812), List.forall_mem_cons.mpr ⟨u_known hts uX7_in (hts _ wm_816), fun _ h9 => nomatch h9⟩⟩⟩⟩⟩⟩⟩⟩
  have g : ∀ c : Nat, ∃ x : ClassId × (Nat → Nat), ∀ q : vw_C, vwCl[c]? = some q → u_Kn s q.1 q.2.1 q.2.2 x.1 x.2 := by
    intro c
    cases e : vwCl[c]? with
    | none => exact ⟨((0 : Nat), fun _ => 0), fun q hq => nomatch hq⟩
    | some q0 =>
      obtain ⟨cC, iS, h1⟩ := h q0 (List.mem_of_getElem? e)
      exact ⟨(cC, iS), fun q hq => by cases hq; exact h1⟩
  obtain ⟨f, hf⟩ := Classical.axiomOfChoice g
  exact ⟨(fun c => (f c).1, fun c => (f c).2), hf⟩
def lw_dA (a0 a1 a2 a3 a4 : ClassId) : Nat → ClassId
  | 0 => a0
  | 1 => a1
  | 2 => a2
  | 3 => a3
  | _ => a4
theorem lw_over : Cond.arrayOver (.object RX5) ∈ lw_tbl := List.mem_of_getElem? (i := 141) (by decide +kernel)
theorem lw_tys {s : State} {b : Nat} (hts : ∀ w ∈ lw_tbl, w.before #[Value.ref b] s = true) : ∃ dA : Nat → ClassId, ∀ (k : Nat) (q : ClassId × FieldType), (zTys dA RX5)[k]? = some q → ArrOfT s q.1 q.2 ∧ va_RA s q.1 q.2 := by
  obtain ⟨c0, k0, m0, f0, g0, h0⟩ := Cond.arrayClass_spec (hts _ (lw_sub wm_34))
  obtain ⟨c1, k1, m1, f1, g1, h1⟩ := Cond.arrayClass_spec (hts _ (lw_sub wm_372))
  obtain ⟨c2, k2, m2, f2, g2, h2⟩ := Cond.arrayClass_spec (hts _ (lw_sub wm_819))
  obtain ⟨c3, k3, m3, f3, g3, h3⟩ := Cond.arrayClass_spec (hts _ (lw_sub wm_820))
  obtain ⟨m4, c4, k4, e4, -, g4, h4, f4⟩ := Cond.arrayOver_spec (hts _ lw_over)
  refine ⟨lw_dA c0 c1 c2 c3 c4, fun k q hq => ?_⟩
  match k, hq with
  | 0, hq => cases hq; exact ⟨fun N z => ⟨(fun k h => by cases h), k0, g0, m0, h0⟩, f0⟩
  | 1, hq => cases hq; exact ⟨fun N z => ⟨(fun k h => by cases h), k1, g1, m1, h1⟩, f1⟩
  | 2, hq => cases hq; exact ⟨fun N z => ⟨(fun k h => by cases h), k2, g2, m2, h2⟩, f2⟩
  | 3, hq => cases hq; exact ⟨fun N z => ⟨(fun k h => by cases h), k3, g3, m3, h3⟩, f3⟩
  | 4, hq => cases hq; exact ⟨fun N z => ⟨(fun k h => by cases h), k4, g4, m4, h4⟩, k4, m4, g4, h4, e4, f4⟩
  | k + 5, hq => exact nomatch hq
theorem lw_nw : ∀ w ∈ zNw, w ∈ lw_tbl := by decide +kernel
theorem lw_nwt : ∀ w ∈ zNw, w.onTables = true := List.all_eq_true.mp (by decide +kernel : zNw.all (fun w => w.onTables) = true)
theorem lw_st1 : ∀ q ∈ zSt, Cond.stringRef q.1 q.2.1 q.2.2 ∈ lw_tbl := by decide +kernel
theorem lw_st2 : ∀ q ∈ zSt, Cond.exactly (Term.string q.1 q.2.1) "java/lang/String" ∈ flatC (Jvm.Cond.and given_1 narrow_1) := by decide +kernel
theorem lw_nc : ∀ q ∈ zNc, Cond.not (Cond.castable q.1 q.2) ∈ flatC (Jvm.Cond.and given_1 narrow_1) := by decide +kernel
theorem lw_th1 : Cond.laysStatic Bundle.tN "UNASSIGNED_STACK" Bundle.steD ∈ lw_tbl ∧ Cond.laysStatic Bundle.tN "SUPPRESSED_SENTINEL" Bundle.listD ∈ lw_tbl ∧ Cond.initialized Bundle.tN ∈ lw_tbl := by decide +kernel
theorem lw_th2 : Cond.isRef (.static Bundle.tN "UNASSIGNED_STACK" Bundle.steD) ∈ flatC (Jvm.Cond.and given_1 narrow_1) ∧ Cond.isRef (.static Bundle.tN "SUPPRESSED_SENTINEL" Bundle.listD) ∈ flatC (Jvm.Cond.and given_1 narrow_1) := by decide +kernel
theorem lw_env {s : State} {b : Nat} {A : Nat → Prop} (hts : ∀ w ∈ lw_tbl, w.before #[Value.ref b] s = true) (hgv : (Jvm.Cond.and given_1 narrow_1).before #[Value.ref b] s = true) (hA : ∀ a : Nat, a < s.heap.size → ¬ A a) : zEnv zSt zNw zNc RX5 A s s.heap := by
  have hs := flat_of_before _ hgv
  refine ⟨vx_Zqof (hts _ lw_th1.1) (hts _ lw_th1.2.2) (hs _ lw_th2.1) hA, vx_Zqof (hts _ lw_th1.2.1) (hts _ lw_th1.2.2) (hs _ lw_th2.2) hA, fun q hq => ?_, fun w hw => va_Nw.of (lw_nwt w hw) (hts w (lw_nw w hw)), fun q hq => va_Nc.of (hs _ (lw_nc q hq)), va_AO.of (hts _ lw_over)⟩
  obtain ⟨a, c, cA, kA, q1, -⟩ := Cond.exactly_spec (args := #[Value.ref b]) (first := s) (o := none) (s := s) (idx := []) (hs _ (lw_st2 q hq))
  exact ⟨a, vk_R.of (hts _ (lw_st1 q hq)) q1⟩
theorem lw_flags {l : Launch} (h : l.flags = flags0) : l.stackTraces = false := by
  show (!l.flags.contains noTraceFlag) = false
  rw [h]
  decide +kernel
theorem zwl9 {n : Nat} : zwl n [none, none, none, none, none, none, none, none, none] := by
  intro i v h
  match i, h with
  | 0, h => exact nomatch h
  | 1, h => exact nomatch h
  | 2, h => exact nomatch h
  | 3, h => exact nomatch h
  | 4, h => exact nomatch h
  | 5, h => exact nomatch h
  | 6, h => exact nomatch h
  | 7, h => exact nomatch h
  | 8, h => exact nomatch h
  | k + 9, h => exact nomatch h
/-- YOUR PART: from the entry, for every script of at most 2048 ints, the law comes to its end with true ('hflags': the launch's flags, for a law that throws: no stack traces) -/
theorem whole_start {p : Program} {e : Env} {s : State} {m : MethodId} {below : List Frame} {meth : Method} {c : Code} (l : Launch) (hflags : l.flags = flags0) {b L : Nat} {xs : Nat → Int32} (hL : L ≤ 2048) (C0 : lw_At p s m meth c b L xs) : W p l e room_1 s m #[Value.ref b] below meth c s.heap [] 0 0 (lw_Z below #[Value.ref b] s) (entryFrame m ([Value.ref b] : List Value).toArray 9) := by
  obtain ⟨hx, hb, hr, hml, hown, hts, hX, hbl, hlocks, hgv⟩ := id C0
  have htsA : ∀ w ∈ lw_all, w.before #[Value.ref b] s = true := fun w hw => hts w (lw_sub hw)
  obtain ⟨D, hD1⟩ := lw_cls htsA
  obtain ⟨dA, hD2⟩ := lw_tys hts
  have hnA : ∀ a : Nat, a < s.heap.size → ¬ zLA dA s a := fun a ha h => by
    rcases h with ⟨k, x, hk⟩ | h
    · exact nomatch hk
    · exact Nat.lt_irrefl _ (Nat.lt_of_lt_of_le ha h)
  have X : zCtxL b L xs D dA p s m meth c := ⟨⟨hx, hb, hml, hown, htsA⟩, hr, hlocks, trivial, trivial, ⟨hD1, hD2⟩, lw_env hts hgv hnA, hX, hbl, hnA b hbl⟩
  have hC := zCld_met (D := D) (dA := dA) (lw_flags hflags)
  have key := law_pure hC (xs := xs) (L := L) (K := fun _ _ _ _ => True) (h := fun _ => .inr (0, []))
    (P := zConcL p l e room_1 s m #[Value.ref b] below meth c (lw_Z below #[Value.ref b] s) 9 D vwCl dA (zLA dA s) (fun i => i) 0 b)
    (fun cut k _ _ _ _ _ _ _ hr => zgo zG_law hC.1 (fun pc ls st h n cu su hst => by
      unfold zstep at hst
      cases hf : zfet (zT_law xs L) pc with
      | none => simp only [hf] at hst
      | some t =>
        simp only [hf] at hst
        obtain ⟨T, hT, hm⟩ := zfet_mem hf
        exact zE_law T hT _ hm X ls st h n cu su hst) cut k hr) zConcL_fgt hL
  have hl := lv_entry ([.ref b]) (n := 9) (Nat.le_of_ble_eq_true rfl)
  rw [lg_entry_eq]
  exact key ⟨zwl9, zws_nil, fun i hi => absurd hi (Nat.not_lt_zero _)⟩ ⟨Nat.zero_le _, Nat.zero_le _⟩ (Nat.le_refl _) (fun i => i) s.heap [] _ (fun _ _ => rfl) (fun k q hq => nomatch hq) ⟨(fun i j q1 q2 hq => nomatch hq), (fun k q hq => nomatch hq)⟩ va_S.rf hl

