/-! THE LAW: one call of it, each kind -/
/-- what holds of the two objects and the two answers' cells -/
def zLw (h : zH) (A : zA) : Prop := zX h A ∧ (∃ th, zY h 96 A th) ∧ (∃ of : Nat → Int64, h 108 = .inl (2, 1, .inr (.inl of))) ∧ ∃ of : Nat → UInt64, h 109 = .inl (3, 1, .inr (.inr (.inr (.inl of))))
theorem zRr.eqA {h h' : zH} {r : Nat} {c : Nat → Int32} {σ : zS} (H : zRr h r c σ) (o : ∀ a, r ≤ a → a < r + 12 → h' a = h a) : zRr h' r c σ := by
  obtain ⟨h1, f, h2, h3⟩ := H
  exact ⟨(o _ (by omega) (by omega)).trans h1, f, (o _ (by omega) (by omega)).trans h2, h3⟩
theorem zY.eq {h h' : zH} {r th : Nat} {A : zA} (H : zY h r A th) (o : ∀ a, r ≤ a → a < r + 12 → h' a = h a) : zY h' r A th := by
  obtain ⟨c, ⟨a1, ⟨bf, b1, b2⟩, ⟨tf, t1, t2⟩, s, e2, e4⟩, e5⟩ := H
  exact ⟨c, ⟨a1.eqA o, ⟨bf, (o _ (by omega) (by omega)).trans b1, b2⟩, ⟨tf, (o _ (by omega) (by omega)).trans t1, t2⟩, s.eq (fun a h1 h2 => o a (by omega) (by omega)), e2, e4⟩, e5⟩
set_option maxRecDepth 100000 in
theorem S_ythrown {C : zK} (hC : zCld 215 zTT C) {h : zH} {n : Nat} {K : zQ} {r th : Nat} {A : zA} (H : zY h r A th) (H1 : K 0 (some (.int (nI th))) h n) : C 119 [.ref r] h n K := by
  obtain ⟨c, Hc, e5⟩ := H
  refine S_X7_thrown hC Hc.1.1 ?_
  rw [e5]
  exact H1
theorem zY.hob {h : zH} {r th : Nat} {A : zA} (H : zY h r A th) : ∃ fs, h r = .inr (7, fs) := by
  obtain ⟨c, Hc, -⟩ := H
  exact ⟨_, Hc.1.1⟩
theorem zgk_lt {r : Option Int32} : zgk r < 2 ^ 31 := by
  cases r with
  | none => exact (by decide : 1 < 2 ^ 31)
  | some v => exact (by decide : 0 < 2 ^ 31)
theorem zgkD_lt {r : Option UInt64} : zgkD r < 2 ^ 31 := by
  cases r with
  | none => exact (by decide : 1 < 2 ^ 31)
  | some v => exact (by decide : 0 < 2 ^ 31)
theorem zdc_all : (List.range 31).all (fun t => (List.range 46).all (fun a => decide (Op.cmpValue (FP.dcmp (zsD t a) (zsD t a)) .l = 0))) = true := by decide +kernel
theorem zdc_0 : Op.cmpValue (FP.dcmp FP.dconst0 FP.dconst0) .l = 0 := by decide +kernel
theorem zmer_le {σ : zS} (W : zwf σ) (hnb : (zba σ).length ≤ 10) : (zmer σ).length ≤ 30 := by
  have m := zMo.steps W (d := 1) (by decide) (e := (zdr σ 1).length) (p := 0) (zMo.steps W (d := 0) (by decide) (e := (zdr σ 0).length) (zfr_mo hnb)).next
  have h := zpig 30 ((zmer σ).map Prod.fst) m.1 (fun x hx => by
    obtain ⟨v, v1, v2⟩ := List.mem_map.mp hx
    rw [← v2]
    exact m.2.1 v v1)
  rw [List.length_map] at h
  exact h
theorem zdc_eq {σ : zS} (W : zwf σ) (hnb : (zba σ).length ≤ 10) (hl : ∀ d, (zdr σ d).length ≤ 15) (d : Int32) : Op.cmpValue (FP.dcmp (zgvD (zgD d σ)) (zgvD (zgD d σ))) .l = 0 := by
  unfold zgD
  cases e : zps d 2 with
  | none => exact zdc_0
  | some d' =>
    have h1 : zsT σ d' ≤ (zmer σ).length := List.length_filter_le _ _
    have h2 : zsA σ d' ≤ (zmer σ).length + (zdr σ d').length := Nat.sub_le _ _
    have h3 := zmer_le W hnb
    have h4 := hl d'
    exact of_decide_eq_true (List.all_eq_true.mp (List.all_eq_true.mp zdc_all _ (List.mem_range.mpr (show zsT σ d' < 31 by omega))) _ (List.mem_range.mpr (show zsA σ d' < 46 by omega)))
theorem zlw_addBase {C : zK} (hC : zCld 215 zTT C) {K : zQ} {xs : Nat → Int32} {L : Nat} {P : zP} (hgo : zGo (zT_law xs L) C K P) (hF : zfgt P) {i : Nat} (hi : i + 4 ≤ L) (hL : L ≤ 2048) {h : zH} {A : zA} {cu su : Nat} (hcu : cu ≤ 2000) (hsu : su ≤ 20000) (I : zLw h A) (G : ∀ h' A' cu' su', zLw h' A' → cu' ≤ cu + 1 → su' ≤ su + 6 → P 1591 [none, some (.ref 0), some (.ref 96), some (.ref 108), some (.ref 109), some (.int (nI i)), none, none, none] [] h' 110 cu' su') : P 180 [none, some (.ref 0), some (.ref 96), some (.ref 108), some (.ref 109), some (.int (nI i)), none, none, none] [] h 110 cu su := by
  obtain ⟨X0, ⟨th, Y0⟩, ⟨of, ho⟩, ⟨od, hd⟩⟩ := I
  have W := X0.w
  have hin : ∀ k, k < 4 → vp_in (nI i + nI k) L := fun k hk => by
    rw [nI_add]
    exact vp_in_nI (by omega) (by omega)
  refine hgo [1591] 60 _ _ _ _ _ _ _ ?_
  conv => whnf
  refine ⟨hin 1 (by decide), ?_⟩
  conv => whnf
  refine ⟨zfit_mk (by omega) (by omega), ?_⟩
  refine S_L_addBase hC X0 ho (fun h1 of1 X1 o1 f1 v1 => ?_)
  have Y1 := Y0.eq (fun a z1 z2 => f1 a z1 (by omega))
  conv => whnf
  refine ⟨hin 1 (by decide), ?_⟩
  conv => whnf
  refine ⟨_, Y1.hob.choose_spec, ?_⟩
  refine S_X7_addBase hC Y1 W (fun h2 Y2 o2 => ?_)
  have X2 := X1.off o2 (by decide)
  have q1 := (o2 108 (by omega)).trans o1
  have q2 := (o2 109 (by omega)).trans ((f1 109 (by omega) (by omega)).trans hd)
  have k9 := G h2 (zoC (zcA (xs (nI i + nI 1).toNatClampNeg) A.1) A).2.1 (cu + 1) (su + 6) ⟨X2, ⟨_, Y2⟩, ⟨_, q1⟩, ⟨_, q2⟩⟩ (Nat.le_refl _) (Nat.le_refl _)
  conv => whnf
  refine ⟨_, Y2.hob.choose_spec, ?_⟩
  refine S_ythrown hC Y2 ?_
  conv => whnf
  refine ⟨fun _ => ?_, fun z => absurd rfl z⟩
  conv => whnf
  refine ⟨fun _ => ?_, fun hk => ?_⟩
  · conv => whnf
    refine hF _ _ _ _ _ _ _ _ ?_ k9
    repeat (first | exact zf_0 | refine zf_s ?_ | refine zf_n ?_)
  · have hk0 : (zoC (zcA (xs (nI i + nI 1).toNatClampNeg) A.1) A).1 = 0 := nI_inj (b := 0) (by rw [zoC_1]; exact Nat.lt_of_le_of_lt zb_zcA (by decide)) (by decide) hk
    have v2 := v1 hk0
    conv => whnf
    refine ⟨_, _, q1, vp_in_nI (n := 0) (by decide) (by decide), ?_⟩
    rw [show (0 : Int32).toNatClampNeg = 0 by decide, v2]
    conv => whnf
    refine ⟨fun _ => ?_, fun z => absurd rfl z⟩
    conv => whnf
    refine hF _ _ _ _ _ _ _ _ ?_ k9
    repeat (first | exact zf_0 | refine zf_s ?_ | refine zf_n ?_)
theorem zlw_edit {C : zK} (hC : zCld 215 zTT C) {K : zQ} {xs : Nat → Int32} {L : Nat} {P : zP} (hgo : zGo (zT_law xs L) C K P) (hF : zfgt P) {i : Nat} (hi : i + 4 ≤ L) (hL : L ≤ 2048) {h : zH} {A : zA} {cu su : Nat} (hcu : cu ≤ 2000) (hsu : su ≤ 20000) (I : zLw h A) (G : ∀ h' A' cu' su', zLw h' A' → cu' ≤ cu + 1 → su' ≤ su + 6 → P 1591 [none, some (.ref 0), some (.ref 96), some (.ref 108), some (.ref 109), some (.int (nI i)), none, none, none] [] h' 110 cu' su') : P 236 [none, some (.ref 0), some (.ref 96), some (.ref 108), some (.ref 109), some (.int (nI i)), none, none, none] [] h 110 cu su := by
  obtain ⟨X0, ⟨th, Y0⟩, ⟨of, ho⟩, ⟨od, hd⟩⟩ := I
  have W := X0.w
  have hin : ∀ k, k < 4 → vp_in (nI i + nI k) L := fun k hk => by
    rw [nI_add]
    exact vp_in_nI (by omega) (by omega)
  refine hgo [1591] 60 _ _ _ _ _ _ _ ?_
  conv => whnf
  refine ⟨hin 1 (by decide), ?_⟩
  conv => whnf
  refine ⟨hin 2 (by decide), ?_⟩
  conv => whnf
  refine ⟨hin 3 (by decide), ?_⟩
  conv => whnf
  refine ⟨zfit_mk (by omega) (by omega), ?_⟩
  refine S_L_edit hC X0 ho (fun h1 of1 X1 o1 f1 v1 => ?_)
  have Y1 := Y0.eq (fun a z1 z2 => f1 a z1 (by omega))
  conv => whnf
  refine ⟨hin 1 (by decide), ?_⟩
  conv => whnf
  refine ⟨hin 2 (by decide), ?_⟩
  conv => whnf
  refine ⟨hin 3 (by decide), ?_⟩
  conv => whnf
  refine ⟨_, Y1.hob.choose_spec, ?_⟩
  refine S_X7_edit hC Y1 W (fun h2 Y2 o2 => ?_)
  have X2 := X1.off o2 (by decide)
  have q1 := (o2 108 (by omega)).trans o1
  have q2 := (o2 109 (by omega)).trans ((f1 109 (by omega) (by omega)).trans hd)
  have k9 := G h2 (zoC (zcE (xs (nI i + nI 1).toNatClampNeg) (xs (nI i + nI 2).toNatClampNeg) (xs (nI i + nI 3).toNatClampNeg) A.1) A).2.1 (cu + 1) (su + 6) ⟨X2, ⟨_, Y2⟩, ⟨_, q1⟩, ⟨_, q2⟩⟩ (Nat.le_refl _) (Nat.le_refl _)
  conv => whnf
  refine ⟨_, Y2.hob.choose_spec, ?_⟩
  refine S_ythrown hC Y2 ?_
  conv => whnf
  refine ⟨fun _ => ?_, fun z => absurd rfl z⟩
  conv => whnf
  refine ⟨fun _ => ?_, fun hk => ?_⟩
  · conv => whnf
    refine hF _ _ _ _ _ _ _ _ ?_ k9
    repeat (first | exact zf_0 | refine zf_s ?_ | refine zf_n ?_)
  · have hk0 : (zoC (zcE (xs (nI i + nI 1).toNatClampNeg) (xs (nI i + nI 2).toNatClampNeg) (xs (nI i + nI 3).toNatClampNeg) A.1) A).1 = 0 := nI_inj (b := 0) (by rw [zoC_1]; exact Nat.lt_of_le_of_lt zb_zcE (by decide)) (by decide) hk
    have v2 := v1 hk0
    conv => whnf
    refine ⟨_, _, q1, vp_in_nI (n := 0) (by decide) (by decide), ?_⟩
    rw [show (0 : Int32).toNatClampNeg = 0 by decide, v2]
    conv => whnf
    refine ⟨fun _ => ?_, fun z => absurd rfl z⟩
    conv => whnf
    refine hF _ _ _ _ _ _ _ _ ?_ k9
    repeat (first | exact zf_0 | refine zf_s ?_ | refine zf_n ?_)
theorem zlw_move {C : zK} (hC : zCld 215 zTT C) {K : zQ} {xs : Nat → Int32} {L : Nat} {P : zP} (hgo : zGo (zT_law xs L) C K P) (hF : zfgt P) {i : Nat} (hi : i + 4 ≤ L) (hL : L ≤ 2048) {h : zH} {A : zA} {cu su : Nat} (hcu : cu ≤ 2000) (hsu : su ≤ 20000) (I : zLw h A) (G : ∀ h' A' cu' su', zLw h' A' → cu' ≤ cu + 1 → su' ≤ su + 6 → P 1591 [none, some (.ref 0), some (.ref 96), some (.ref 108), some (.ref 109), some (.int (nI i)), none, none, none] [] h' 110 cu' su') : P 316 [none, some (.ref 0), some (.ref 96), some (.ref 108), some (.ref 109), some (.int (nI i)), none, none, none] [] h 110 cu su := by
  obtain ⟨X0, ⟨th, Y0⟩, ⟨of, ho⟩, ⟨od, hd⟩⟩ := I
  have W := X0.w
  have hin : ∀ k, k < 4 → vp_in (nI i + nI k) L := fun k hk => by
    rw [nI_add]
    exact vp_in_nI (by omega) (by omega)
  refine hgo [1591] 60 _ _ _ _ _ _ _ ?_
  conv => whnf
  refine ⟨hin 1 (by decide), ?_⟩
  conv => whnf
  refine ⟨hin 2 (by decide), ?_⟩
  conv => whnf
  refine ⟨hin 3 (by decide), ?_⟩
  conv => whnf
  refine ⟨zfit_mk (by omega) (by omega), ?_⟩
  refine S_L_move hC X0 ho (fun h1 of1 X1 o1 f1 v1 => ?_)
  have Y1 := Y0.eq (fun a z1 z2 => f1 a z1 (by omega))
  conv => whnf
  refine ⟨hin 1 (by decide), ?_⟩
  conv => whnf
  refine ⟨hin 2 (by decide), ?_⟩
  conv => whnf
  refine ⟨hin 3 (by decide), ?_⟩
  conv => whnf
  refine ⟨_, Y1.hob.choose_spec, ?_⟩
  refine S_X7_move hC Y1 W (fun h2 Y2 o2 => ?_)
  have X2 := X1.off o2 (by decide)
  have q1 := (o2 108 (by omega)).trans o1
  have q2 := (o2 109 (by omega)).trans ((f1 109 (by omega) (by omega)).trans hd)
  have k9 := G h2 (zoC (zcM (xs (nI i + nI 1).toNatClampNeg) (xs (nI i + nI 2).toNatClampNeg) (xs (nI i + nI 3).toNatClampNeg) A.1) A).2.1 (cu + 1) (su + 6) ⟨X2, ⟨_, Y2⟩, ⟨_, q1⟩, ⟨_, q2⟩⟩ (Nat.le_refl _) (Nat.le_refl _)
  conv => whnf
  refine ⟨_, Y2.hob.choose_spec, ?_⟩
  refine S_ythrown hC Y2 ?_
  conv => whnf
  refine ⟨fun _ => ?_, fun z => absurd rfl z⟩
  conv => whnf
  refine ⟨fun _ => ?_, fun hk => ?_⟩
  · conv => whnf
    refine hF _ _ _ _ _ _ _ _ ?_ k9
    repeat (first | exact zf_0 | refine zf_s ?_ | refine zf_n ?_)
  · have hk0 : (zoC (zcM (xs (nI i + nI 1).toNatClampNeg) (xs (nI i + nI 2).toNatClampNeg) (xs (nI i + nI 3).toNatClampNeg) A.1) A).1 = 0 := nI_inj (b := 0) (by rw [zoC_1]; exact Nat.lt_of_le_of_lt zb_zcM (by decide)) (by decide) hk
    have v2 := v1 hk0
    conv => whnf
    refine ⟨_, _, q1, vp_in_nI (n := 0) (by decide) (by decide), ?_⟩
    rw [show (0 : Int32).toNatClampNeg = 0 by decide, v2]
    conv => whnf
    refine ⟨fun _ => ?_, fun z => absurd rfl z⟩
    conv => whnf
    refine hF _ _ _ _ _ _ _ _ ?_ k9
    repeat (first | exact zf_0 | refine zf_s ?_ | refine zf_n ?_)
theorem zlw_insert {C : zK} (hC : zCld 215 zTT C) {K : zQ} {xs : Nat → Int32} {L : Nat} {P : zP} (hgo : zGo (zT_law xs L) C K P) (hF : zfgt P) {i : Nat} (hi : i + 4 ≤ L) (hL : L ≤ 2048) {h : zH} {A : zA} {cu su : Nat} (hcu : cu ≤ 2000) (hsu : su ≤ 20000) (I : zLw h A) (G : ∀ h' A' cu' su', zLw h' A' → cu' ≤ cu + 1 → su' ≤ su + 6 → P 1591 [none, some (.ref 0), some (.ref 96), some (.ref 108), some (.ref 109), some (.int (nI i)), none, none, none] [] h' 110 cu' su') : P 396 [none, some (.ref 0), some (.ref 96), some (.ref 108), some (.ref 109), some (.int (nI i)), none, none, none] [] h 110 cu su := by
  obtain ⟨X0, ⟨th, Y0⟩, ⟨of, ho⟩, ⟨od, hd⟩⟩ := I
  have W := X0.w
  have hin : ∀ k, k < 4 → vp_in (nI i + nI k) L := fun k hk => by
    rw [nI_add]
    exact vp_in_nI (by omega) (by omega)
  refine hgo [1591] 60 _ _ _ _ _ _ _ ?_
  conv => whnf
  refine ⟨hin 1 (by decide), ?_⟩
  conv => whnf
  refine ⟨hin 2 (by decide), ?_⟩
  conv => whnf
  refine ⟨hin 3 (by decide), ?_⟩
  conv => whnf
  refine ⟨zfit_mk (by omega) (by omega), ?_⟩
  refine S_L_insert hC X0 ho (fun h1 of1 X1 o1 f1 v1 => ?_)
  have Y1 := Y0.eq (fun a z1 z2 => f1 a z1 (by omega))
  conv => whnf
  refine ⟨hin 1 (by decide), ?_⟩
  conv => whnf
  refine ⟨hin 2 (by decide), ?_⟩
  conv => whnf
  refine ⟨hin 3 (by decide), ?_⟩
  conv => whnf
  refine ⟨_, Y1.hob.choose_spec, ?_⟩
  refine S_X7_insert hC Y1 W (fun h2 Y2 o2 => ?_)
  have X2 := X1.off o2 (by decide)
  have q1 := (o2 108 (by omega)).trans o1
  have q2 := (o2 109 (by omega)).trans ((f1 109 (by omega) (by omega)).trans hd)
  have k9 := G h2 (zoC (zcI (xs (nI i + nI 1).toNatClampNeg) (xs (nI i + nI 2).toNatClampNeg) (xs (nI i + nI 3).toNatClampNeg) A.1) A).2.1 (cu + 1) (su + 6) ⟨X2, ⟨_, Y2⟩, ⟨_, q1⟩, ⟨_, q2⟩⟩ (Nat.le_refl _) (Nat.le_refl _)
  conv => whnf
  refine ⟨_, Y2.hob.choose_spec, ?_⟩
  refine S_ythrown hC Y2 ?_
  conv => whnf
  refine ⟨fun _ => ?_, fun z => absurd rfl z⟩
  conv => whnf
  refine ⟨fun _ => ?_, fun hk => ?_⟩
  · conv => whnf
    refine hF _ _ _ _ _ _ _ _ ?_ k9
    repeat (first | exact zf_0 | refine zf_s ?_ | refine zf_n ?_)
  · have hk0 : (zoC (zcI (xs (nI i + nI 1).toNatClampNeg) (xs (nI i + nI 2).toNatClampNeg) (xs (nI i + nI 3).toNatClampNeg) A.1) A).1 = 0 := nI_inj (b := 0) (by rw [zoC_1]; exact Nat.lt_of_le_of_lt zb_zcI (by decide)) (by decide) hk
    have v2 := v1 hk0
    conv => whnf
    refine ⟨_, _, q1, vp_in_nI (n := 0) (by decide) (by decide), ?_⟩
    rw [show (0 : Int32).toNatClampNeg = 0 by decide, v2]
    conv => whnf
    refine ⟨fun _ => ?_, fun z => absurd rfl z⟩
    conv => whnf
    refine hF _ _ _ _ _ _ _ _ ?_ k9
    repeat (first | exact zf_0 | refine zf_s ?_ | refine zf_n ?_)
theorem zlw_remove {C : zK} (hC : zCld 215 zTT C) {K : zQ} {xs : Nat → Int32} {L : Nat} {P : zP} (hgo : zGo (zT_law xs L) C K P) (hF : zfgt P) {i : Nat} (hi : i + 4 ≤ L) (hL : L ≤ 2048) {h : zH} {A : zA} {cu su : Nat} (hcu : cu ≤ 2000) (hsu : su ≤ 20000) (I : zLw h A) (G : ∀ h' A' cu' su', zLw h' A' → cu' ≤ cu + 1 → su' ≤ su + 6 → P 1591 [none, some (.ref 0), some (.ref 96), some (.ref 108), some (.ref 109), some (.int (nI i)), none, none, none] [] h' 110 cu' su') : P 476 [none, some (.ref 0), some (.ref 96), some (.ref 108), some (.ref 109), some (.int (nI i)), none, none, none] [] h 110 cu su := by
  obtain ⟨X0, ⟨th, Y0⟩, ⟨of, ho⟩, ⟨od, hd⟩⟩ := I
  have W := X0.w
  have hin : ∀ k, k < 4 → vp_in (nI i + nI k) L := fun k hk => by
    rw [nI_add]
    exact vp_in_nI (by omega) (by omega)
  refine hgo [1591] 60 _ _ _ _ _ _ _ ?_
  conv => whnf
  refine ⟨hin 1 (by decide), ?_⟩
  conv => whnf
  refine ⟨hin 2 (by decide), ?_⟩
  conv => whnf
  refine ⟨zfit_mk (by omega) (by omega), ?_⟩
  refine S_L_remove hC X0 ho (fun h1 of1 X1 o1 f1 v1 => ?_)
  have Y1 := Y0.eq (fun a z1 z2 => f1 a z1 (by omega))
  conv => whnf
  refine ⟨hin 1 (by decide), ?_⟩
  conv => whnf
  refine ⟨hin 2 (by decide), ?_⟩
  conv => whnf
  refine ⟨_, Y1.hob.choose_spec, ?_⟩
  refine S_X7_remove hC Y1 W (fun h2 Y2 o2 => ?_)
  have X2 := X1.off o2 (by decide)
  have q1 := (o2 108 (by omega)).trans o1
  have q2 := (o2 109 (by omega)).trans ((f1 109 (by omega) (by omega)).trans hd)
  have k9 := G h2 (zoC (zcR (xs (nI i + nI 1).toNatClampNeg) (xs (nI i + nI 2).toNatClampNeg) A.1) A).2.1 (cu + 1) (su + 6) ⟨X2, ⟨_, Y2⟩, ⟨_, q1⟩, ⟨_, q2⟩⟩ (Nat.le_refl _) (Nat.le_refl _)
  conv => whnf
  refine ⟨_, Y2.hob.choose_spec, ?_⟩
  refine S_ythrown hC Y2 ?_
  conv => whnf
  refine ⟨fun _ => ?_, fun z => absurd rfl z⟩
  conv => whnf
  refine ⟨fun _ => ?_, fun hk => ?_⟩
  · conv => whnf
    refine hF _ _ _ _ _ _ _ _ ?_ k9
    repeat (first | exact zf_0 | refine zf_s ?_ | refine zf_n ?_)
  · have hk0 : (zoC (zcR (xs (nI i + nI 1).toNatClampNeg) (xs (nI i + nI 2).toNatClampNeg) A.1) A).1 = 0 := nI_inj (b := 0) (by rw [zoC_1]; exact Nat.lt_of_le_of_lt zb_zcR (by decide)) (by decide) hk
    have v2 := v1 hk0
    conv => whnf
    refine ⟨_, _, q1, vp_in_nI (n := 0) (by decide) (by decide), ?_⟩
    rw [show (0 : Int32).toNatClampNeg = 0 by decide, v2]
    conv => whnf
    refine ⟨fun _ => ?_, fun z => absurd rfl z⟩
    conv => whnf
    refine hF _ _ _ _ _ _ _ _ ?_ k9
    repeat (first | exact zf_0 | refine zf_s ?_ | refine zf_n ?_)
theorem zlw_baseSize {C : zK} (hC : zCld 215 zTT C) {K : zQ} {xs : Nat → Int32} {L : Nat} {P : zP} (hgo : zGo (zT_law xs L) C K P) (hF : zfgt P) {i : Nat} (hi : i + 4 ≤ L) (hL : L ≤ 2048) {h : zH} {A : zA} {cu su : Nat} (hcu : cu ≤ 2000) (hsu : su ≤ 20000) (I : zLw h A) (G : ∀ h' A' cu' su', zLw h' A' → cu' ≤ cu + 1 → su' ≤ su + 6 → P 1591 [none, some (.ref 0), some (.ref 96), some (.ref 108), some (.ref 109), some (.int (nI i)), none, none, none] [] h' 110 cu' su') : P 544 [none, some (.ref 0), some (.ref 96), some (.ref 108), some (.ref 109), some (.int (nI i)), none, none, none] [] h 110 cu su := by
  obtain ⟨X0, ⟨th, Y0⟩, ⟨of, ho⟩, ⟨od, hd⟩⟩ := I
  have W := X0.w
  have hin : ∀ k, k < 4 → vp_in (nI i + nI k) L := fun k hk => by
    rw [nI_add]
    exact vp_in_nI (by omega) (by omega)
  refine hgo [1591] 60 _ _ _ _ _ _ _ ?_
  conv => whnf
  refine ⟨_, X0.1, ?_⟩
  refine S_X6_baseSize hC X0 ?_
  have X1 := X0
  have Y1 := Y0
  have p1 := ho
  have p2 := hd
  conv => whnf
  refine ⟨_, Y1.hob.choose_spec, ?_⟩
  refine S_X7_baseSize hC Y1 (fun h2 Y2 o2 => ?_)
  have X2 := X1.off o2 (by decide)
  have q1 := (o2 108 (by omega)).trans p1
  have q2 := (o2 109 (by omega)).trans p2
  have k9 := G h2 A cu su ⟨X2, ⟨_, Y2⟩, ⟨_, q1⟩, ⟨_, q2⟩⟩ (Nat.le_succ _) (by omega)
  conv => whnf
  refine ⟨fun _ => ?_, fun z => absurd rfl z⟩
  conv => whnf
  exact k9
theorem zlw_size {C : zK} (hC : zCld 215 zTT C) {K : zQ} {xs : Nat → Int32} {L : Nat} {P : zP} (hgo : zGo (zT_law xs L) C K P) (hF : zfgt P) {i : Nat} (hi : i + 4 ≤ L) (hL : L ≤ 2048) {h : zH} {A : zA} {cu su : Nat} (hcu : cu ≤ 2000) (hsu : su ≤ 20000) (I : zLw h A) (G : ∀ h' A' cu' su', zLw h' A' → cu' ≤ cu + 1 → su' ≤ su + 6 → P 1591 [none, some (.ref 0), some (.ref 96), some (.ref 108), some (.ref 109), some (.int (nI i)), none, none, none] [] h' 110 cu' su') : P 557 [none, some (.ref 0), some (.ref 96), some (.ref 108), some (.ref 109), some (.int (nI i)), none, none, none] [] h 110 cu su := by
  obtain ⟨X0, ⟨th, Y0⟩, ⟨of, ho⟩, ⟨od, hd⟩⟩ := I
  have W := X0.w
  have hin : ∀ k, k < 4 → vp_in (nI i + nI k) L := fun k hk => by
    rw [nI_add]
    exact vp_in_nI (by omega) (by omega)
  refine hgo [1591] 60 _ _ _ _ _ _ _ ?_
  conv => whnf
  refine ⟨hin 1 (by decide), ?_⟩
  conv => whnf
  refine ⟨zfit_mk (by omega) (by omega), ?_⟩
  refine S_L_size hC X0 ho (fun h1 of1 X1 o1 f1 v1 => ?_)
  have Y1 := Y0.eq (fun a z1 z2 => f1 a z1 (by omega))
  conv => whnf
  refine ⟨hin 1 (by decide), ?_⟩
  conv => whnf
  refine ⟨_, Y1.hob.choose_spec, ?_⟩
  refine S_X7_size hC Y1 (fun h2 Y2 o2 => ?_)
  have X2 := X1.off o2 (by decide)
  have q1 := (o2 108 (by omega)).trans o1
  have q2 := (o2 109 (by omega)).trans ((f1 109 (by omega) (by omega)).trans hd)
  have k9 := G h2 A (cu + 1) (su + 6) ⟨X2, ⟨_, Y2⟩, ⟨_, q1⟩, ⟨_, q2⟩⟩ (Nat.le_refl _) (Nat.le_refl _)
  conv => whnf
  refine ⟨_, Y2.hob.choose_spec, ?_⟩
  refine S_ythrown hC Y2 ?_
  conv => whnf
  refine ⟨fun _ => ?_, fun z => absurd rfl z⟩
  conv => whnf
  refine ⟨fun _ => ?_, fun hk => ?_⟩
  · conv => whnf
    refine hF _ _ _ _ _ _ _ _ ?_ k9
    repeat (first | exact zf_0 | refine zf_s ?_ | refine zf_n ?_)
  · have hk0 : zgk (zgS (xs (nI i + nI 1).toNatClampNeg) A.1) = 0 := nI_inj (b := 0) (zgk_lt) (by decide) hk
    have v2 := v1 hk0
    conv => whnf
    refine ⟨_, _, q1, vp_in_nI (n := 0) (by decide) (by decide), ?_⟩
    rw [show (0 : Int32).toNatClampNeg = 0 by decide, v2]
    conv => whnf
    refine ⟨fun _ => ?_, fun z => absurd rfl z⟩
    conv => whnf
    refine hF _ _ _ _ _ _ _ _ ?_ k9
    repeat (first | exact zf_0 | refine zf_s ?_ | refine zf_n ?_)
theorem zlw_block {C : zK} (hC : zCld 215 zTT C) {K : zQ} {xs : Nat → Int32} {L : Nat} {P : zP} (hgo : zGo (zT_law xs L) C K P) (hF : zfgt P) {i : Nat} (hi : i + 4 ≤ L) (hL : L ≤ 2048) {h : zH} {A : zA} {cu su : Nat} (hcu : cu ≤ 2000) (hsu : su ≤ 20000) (I : zLw h A) (G : ∀ h' A' cu' su', zLw h' A' → cu' ≤ cu + 1 → su' ≤ su + 6 → P 1591 [none, some (.ref 0), some (.ref 96), some (.ref 108), some (.ref 109), some (.int (nI i)), none, none, none] [] h' 110 cu' su') : P 613 [none, some (.ref 0), some (.ref 96), some (.ref 108), some (.ref 109), some (.int (nI i)), none, none, none] [] h 110 cu su := by
  obtain ⟨X0, ⟨th, Y0⟩, ⟨of, ho⟩, ⟨od, hd⟩⟩ := I
  have W := X0.w
  have hin : ∀ k, k < 4 → vp_in (nI i + nI k) L := fun k hk => by
    rw [nI_add]
    exact vp_in_nI (by omega) (by omega)
  refine hgo [1591] 60 _ _ _ _ _ _ _ ?_
  conv => whnf
  refine ⟨hin 1 (by decide), ?_⟩
  conv => whnf
  refine ⟨hin 2 (by decide), ?_⟩
  conv => whnf
  refine ⟨zfit_mk (by omega) (by omega), ?_⟩
  refine S_L_block hC X0 ho (fun h1 of1 X1 o1 f1 v1 => ?_)
  have Y1 := Y0.eq (fun a z1 z2 => f1 a z1 (by omega))
  conv => whnf
  refine ⟨hin 1 (by decide), ?_⟩
  conv => whnf
  refine ⟨hin 2 (by decide), ?_⟩
  conv => whnf
  refine ⟨_, Y1.hob.choose_spec, ?_⟩
  refine S_X7_block hC Y1 (fun h2 Y2 o2 => ?_)
  have X2 := X1.off o2 (by decide)
  have q1 := (o2 108 (by omega)).trans o1
  have q2 := (o2 109 (by omega)).trans ((f1 109 (by omega) (by omega)).trans hd)
  have k9 := G h2 A (cu + 1) (su + 6) ⟨X2, ⟨_, Y2⟩, ⟨_, q1⟩, ⟨_, q2⟩⟩ (Nat.le_refl _) (Nat.le_refl _)
  conv => whnf
  refine ⟨_, Y2.hob.choose_spec, ?_⟩
  refine S_ythrown hC Y2 ?_
  conv => whnf
  refine ⟨fun _ => ?_, fun z => absurd rfl z⟩
  conv => whnf
  refine ⟨fun _ => ?_, fun hk => ?_⟩
  · conv => whnf
    refine hF _ _ _ _ _ _ _ _ ?_ k9
    repeat (first | exact zf_0 | refine zf_s ?_ | refine zf_n ?_)
  · have hk0 : zgk (zgB (xs (nI i + nI 1).toNatClampNeg) (xs (nI i + nI 2).toNatClampNeg) A.1) = 0 := nI_inj (b := 0) (zgk_lt) (by decide) hk
    have v2 := v1 hk0
    conv => whnf
    refine ⟨_, _, q1, vp_in_nI (n := 0) (by decide) (by decide), ?_⟩
    rw [show (0 : Int32).toNatClampNeg = 0 by decide, v2]
    conv => whnf
    refine ⟨fun _ => ?_, fun z => absurd rfl z⟩
    conv => whnf
    refine hF _ _ _ _ _ _ _ _ ?_ k9
    repeat (first | exact zf_0 | refine zf_s ?_ | refine zf_n ?_)
theorem zlw_content {C : zK} (hC : zCld 215 zTT C) {K : zQ} {xs : Nat → Int32} {L : Nat} {P : zP} (hgo : zGo (zT_law xs L) C K P) (hF : zfgt P) {i : Nat} (hi : i + 4 ≤ L) (hL : L ≤ 2048) {h : zH} {A : zA} {cu su : Nat} (hcu : cu ≤ 2000) (hsu : su ≤ 20000) (I : zLw h A) (G : ∀ h' A' cu' su', zLw h' A' → cu' ≤ cu + 1 → su' ≤ su + 6 → P 1591 [none, some (.ref 0), some (.ref 96), some (.ref 108), some (.ref 109), some (.int (nI i)), none, none, none] [] h' 110 cu' su') : P 681 [none, some (.ref 0), some (.ref 96), some (.ref 108), some (.ref 109), some (.int (nI i)), none, none, none] [] h 110 cu su := by
  obtain ⟨X0, ⟨th, Y0⟩, ⟨of, ho⟩, ⟨od, hd⟩⟩ := I
  have W := X0.w
  have hin : ∀ k, k < 4 → vp_in (nI i + nI k) L := fun k hk => by
    rw [nI_add]
    exact vp_in_nI (by omega) (by omega)
  refine hgo [1591] 60 _ _ _ _ _ _ _ ?_
  conv => whnf
  refine ⟨hin 1 (by decide), ?_⟩
  conv => whnf
  refine ⟨hin 2 (by decide), ?_⟩
  conv => whnf
  refine ⟨zfit_mk (by omega) (by omega), ?_⟩
  refine S_L_content hC X0 ho (fun h1 of1 X1 o1 f1 v1 => ?_)
  have Y1 := Y0.eq (fun a z1 z2 => f1 a z1 (by omega))
  conv => whnf
  refine ⟨hin 1 (by decide), ?_⟩
  conv => whnf
  refine ⟨hin 2 (by decide), ?_⟩
  conv => whnf
  refine ⟨_, Y1.hob.choose_spec, ?_⟩
  refine S_X7_content hC Y1 (fun h2 Y2 o2 => ?_)
  have X2 := X1.off o2 (by decide)
  have q1 := (o2 108 (by omega)).trans o1
  have q2 := (o2 109 (by omega)).trans ((f1 109 (by omega) (by omega)).trans hd)
  have k9 := G h2 A (cu + 1) (su + 6) ⟨X2, ⟨_, Y2⟩, ⟨_, q1⟩, ⟨_, q2⟩⟩ (Nat.le_refl _) (Nat.le_refl _)
  conv => whnf
  refine ⟨_, Y2.hob.choose_spec, ?_⟩
  refine S_ythrown hC Y2 ?_
  conv => whnf
  refine ⟨fun _ => ?_, fun z => absurd rfl z⟩
  conv => whnf
  refine ⟨fun _ => ?_, fun hk => ?_⟩
  · conv => whnf
    refine hF _ _ _ _ _ _ _ _ ?_ k9
    repeat (first | exact zf_0 | refine zf_s ?_ | refine zf_n ?_)
  · have hk0 : zgk (zgK (xs (nI i + nI 1).toNatClampNeg) (xs (nI i + nI 2).toNatClampNeg) A.1) = 0 := nI_inj (b := 0) (zgk_lt) (by decide) hk
    have v2 := v1 hk0
    conv => whnf
    refine ⟨_, _, q1, vp_in_nI (n := 0) (by decide) (by decide), ?_⟩
    rw [show (0 : Int32).toNatClampNeg = 0 by decide, v2]
    conv => whnf
    refine ⟨fun _ => ?_, fun z => absurd rfl z⟩
    conv => whnf
    refine hF _ _ _ _ _ _ _ _ ?_ k9
    repeat (first | exact zf_0 | refine zf_s ?_ | refine zf_n ?_)
theorem zlw_change {C : zK} (hC : zCld 215 zTT C) {K : zQ} {xs : Nat → Int32} {L : Nat} {P : zP} (hgo : zGo (zT_law xs L) C K P) (hF : zfgt P) {i : Nat} (hi : i + 4 ≤ L) (hL : L ≤ 2048) {h : zH} {A : zA} {cu su : Nat} (hcu : cu ≤ 2000) (hsu : su ≤ 20000) (I : zLw h A) (G : ∀ h' A' cu' su', zLw h' A' → cu' ≤ cu + 1 → su' ≤ su + 6 → P 1591 [none, some (.ref 0), some (.ref 96), some (.ref 108), some (.ref 109), some (.int (nI i)), none, none, none] [] h' 110 cu' su') : P 749 [none, some (.ref 0), some (.ref 96), some (.ref 108), some (.ref 109), some (.int (nI i)), none, none, none] [] h 110 cu su := by
  obtain ⟨X0, ⟨th, Y0⟩, ⟨of, ho⟩, ⟨od, hd⟩⟩ := I
  have W := X0.w
  have hin : ∀ k, k < 4 → vp_in (nI i + nI k) L := fun k hk => by
    rw [nI_add]
    exact vp_in_nI (by omega) (by omega)
  refine hgo [1591] 60 _ _ _ _ _ _ _ ?_
  conv => whnf
  refine ⟨hin 1 (by decide), ?_⟩
  conv => whnf
  refine ⟨hin 2 (by decide), ?_⟩
  conv => whnf
  refine ⟨zfit_mk (by omega) (by omega), ?_⟩
  refine S_L_change hC X0 ho (fun h1 of1 X1 o1 f1 v1 => ?_)
  have Y1 := Y0.eq (fun a z1 z2 => f1 a z1 (by omega))
  conv => whnf
  refine ⟨hin 1 (by decide), ?_⟩
  conv => whnf
  refine ⟨hin 2 (by decide), ?_⟩
  conv => whnf
  refine ⟨_, Y1.hob.choose_spec, ?_⟩
  refine S_X7_change hC Y1 (fun h2 Y2 o2 => ?_)
  have X2 := X1.off o2 (by decide)
  have q1 := (o2 108 (by omega)).trans o1
  have q2 := (o2 109 (by omega)).trans ((f1 109 (by omega) (by omega)).trans hd)
  have k9 := G h2 A (cu + 1) (su + 6) ⟨X2, ⟨_, Y2⟩, ⟨_, q1⟩, ⟨_, q2⟩⟩ (Nat.le_refl _) (Nat.le_refl _)
  conv => whnf
  refine ⟨_, Y2.hob.choose_spec, ?_⟩
  refine S_ythrown hC Y2 ?_
  conv => whnf
  refine ⟨fun _ => ?_, fun z => absurd rfl z⟩
  conv => whnf
  refine ⟨fun _ => ?_, fun hk => ?_⟩
  · conv => whnf
    refine hF _ _ _ _ _ _ _ _ ?_ k9
    repeat (first | exact zf_0 | refine zf_s ?_ | refine zf_n ?_)
  · have hk0 : zgk (zgC (xs (nI i + nI 1).toNatClampNeg) (xs (nI i + nI 2).toNatClampNeg) A.1) = 0 := nI_inj (b := 0) (zgk_lt) (by decide) hk
    have v2 := v1 hk0
    conv => whnf
    refine ⟨_, _, q1, vp_in_nI (n := 0) (by decide) (by decide), ?_⟩
    rw [show (0 : Int32).toNatClampNeg = 0 by decide, v2]
    conv => whnf
    refine ⟨fun _ => ?_, fun z => absurd rfl z⟩
    conv => whnf
    refine hF _ _ _ _ _ _ _ _ ?_ k9
    repeat (first | exact zf_0 | refine zf_s ?_ | refine zf_n ?_)
theorem zlw_moves {C : zK} (hC : zCld 215 zTT C) {K : zQ} {xs : Nat → Int32} {L : Nat} {P : zP} (hgo : zGo (zT_law xs L) C K P) (hF : zfgt P) {i : Nat} (hi : i + 4 ≤ L) (hL : L ≤ 2048) {h : zH} {A : zA} {cu su : Nat} (hcu : cu ≤ 2000) (hsu : su ≤ 20000) (I : zLw h A) (G : ∀ h' A' cu' su', zLw h' A' → cu' ≤ cu + 1 → su' ≤ su + 6 → P 1591 [none, some (.ref 0), some (.ref 96), some (.ref 108), some (.ref 109), some (.int (nI i)), none, none, none] [] h' 110 cu' su') : P 817 [none, some (.ref 0), some (.ref 96), some (.ref 108), some (.ref 109), some (.int (nI i)), none, none, none] [] h 110 cu su := by
  obtain ⟨X0, ⟨th, Y0⟩, ⟨of, ho⟩, ⟨od, hd⟩⟩ := I
  have W := X0.w
  have hin : ∀ k, k < 4 → vp_in (nI i + nI k) L := fun k hk => by
    rw [nI_add]
    exact vp_in_nI (by omega) (by omega)
  refine hgo [1591] 60 _ _ _ _ _ _ _ ?_
  conv => whnf
  refine ⟨hin 1 (by decide), ?_⟩
  conv => whnf
  refine ⟨zfit_mk (by omega) (by omega), ?_⟩
  refine S_L_moves hC X0 ho (fun h1 of1 X1 o1 f1 v1 => ?_)
  have Y1 := Y0.eq (fun a z1 z2 => f1 a z1 (by omega))
  conv => whnf
  refine ⟨hin 1 (by decide), ?_⟩
  conv => whnf
  refine ⟨_, Y1.hob.choose_spec, ?_⟩
  refine S_X7_moves hC Y1 (fun h2 Y2 o2 => ?_)
  have X2 := X1.off o2 (by decide)
  have q1 := (o2 108 (by omega)).trans o1
  have q2 := (o2 109 (by omega)).trans ((f1 109 (by omega) (by omega)).trans hd)
  have k9 := G h2 A (cu + 1) (su + 6) ⟨X2, ⟨_, Y2⟩, ⟨_, q1⟩, ⟨_, q2⟩⟩ (Nat.le_refl _) (Nat.le_refl _)
  conv => whnf
  refine ⟨_, Y2.hob.choose_spec, ?_⟩
  refine S_ythrown hC Y2 ?_
  conv => whnf
  refine ⟨fun _ => ?_, fun z => absurd rfl z⟩
  conv => whnf
  refine ⟨fun _ => ?_, fun hk => ?_⟩
  · conv => whnf
    refine hF _ _ _ _ _ _ _ _ ?_ k9
    repeat (first | exact zf_0 | refine zf_s ?_ | refine zf_n ?_)
  · have hk0 : zgk (zgV (xs (nI i + nI 1).toNatClampNeg) A.1) = 0 := nI_inj (b := 0) (zgk_lt) (by decide) hk
    have v2 := v1 hk0
    conv => whnf
    refine ⟨_, _, q1, vp_in_nI (n := 0) (by decide) (by decide), ?_⟩
    rw [show (0 : Int32).toNatClampNeg = 0 by decide, v2]
    conv => whnf
    refine ⟨fun _ => ?_, fun z => absurd rfl z⟩
    conv => whnf
    refine hF _ _ _ _ _ _ _ _ ?_ k9
    repeat (first | exact zf_0 | refine zf_s ?_ | refine zf_n ?_)
theorem zlw_mergedSize {C : zK} (hC : zCld 215 zTT C) {K : zQ} {xs : Nat → Int32} {L : Nat} {P : zP} (hgo : zGo (zT_law xs L) C K P) (hF : zfgt P) {i : Nat} (hi : i + 4 ≤ L) (hL : L ≤ 2048) {h : zH} {A : zA} {cu su : Nat} (hcu : cu ≤ 2000) (hsu : su ≤ 20000) (I : zLw h A) (G : ∀ h' A' cu' su', zLw h' A' → cu' ≤ cu + 1 → su' ≤ su + 6 → P 1591 [none, some (.ref 0), some (.ref 96), some (.ref 108), some (.ref 109), some (.int (nI i)), none, none, none] [] h' 110 cu' su') : P 873 [none, some (.ref 0), some (.ref 96), some (.ref 108), some (.ref 109), some (.int (nI i)), none, none, none] [] h 110 cu su := by
  obtain ⟨X0, ⟨th, Y0⟩, ⟨of, ho⟩, ⟨od, hd⟩⟩ := I
  have W := X0.w
  have hin : ∀ k, k < 4 → vp_in (nI i + nI k) L := fun k hk => by
    rw [nI_add]
    exact vp_in_nI (by omega) (by omega)
  refine hgo [1591] 60 _ _ _ _ _ _ _ ?_
  conv => whnf
  refine ⟨_, X0.1, ?_⟩
  refine S_X6_mergedSize hC X0 (fun h1 X1 o1 => ?_)
  have Y1 := Y0.eq (fun a z1 z2 => o1 a (by omega))
  have p1 := (o1 108 (by omega)).trans ho
  have p2 := (o1 109 (by omega)).trans hd
  conv => whnf
  refine ⟨_, Y1.hob.choose_spec, ?_⟩
  refine S_X7_mergedSize hC Y1 W (fun h2 Y2 o2 => ?_)
  have X2 := X1.off o2 (by decide)
  have q1 := (o2 108 (by omega)).trans p1
  have q2 := (o2 109 (by omega)).trans p2
  have k9 := G h2 A cu su ⟨X2, ⟨_, Y2⟩, ⟨_, q1⟩, ⟨_, q2⟩⟩ (Nat.le_succ _) (by omega)
  conv => whnf
  refine ⟨fun _ => ?_, fun z => absurd rfl z⟩
  conv => whnf
  exact k9
theorem zlw_mergedBlock {C : zK} (hC : zCld 215 zTT C) {K : zQ} {xs : Nat → Int32} {L : Nat} {P : zP} (hgo : zGo (zT_law xs L) C K P) (hF : zfgt P) {i : Nat} (hi : i + 4 ≤ L) (hL : L ≤ 2048) {h : zH} {A : zA} {cu su : Nat} (hcu : cu ≤ 2000) (hsu : su ≤ 20000) (I : zLw h A) (G : ∀ h' A' cu' su', zLw h' A' → cu' ≤ cu + 1 → su' ≤ su + 6 → P 1591 [none, some (.ref 0), some (.ref 96), some (.ref 108), some (.ref 109), some (.int (nI i)), none, none, none] [] h' 110 cu' su') : P 886 [none, some (.ref 0), some (.ref 96), some (.ref 108), some (.ref 109), some (.int (nI i)), none, none, none] [] h 110 cu su := by
  obtain ⟨X0, ⟨th, Y0⟩, ⟨of, ho⟩, ⟨od, hd⟩⟩ := I
  have W := X0.w
  have hin : ∀ k, k < 4 → vp_in (nI i + nI k) L := fun k hk => by
    rw [nI_add]
    exact vp_in_nI (by omega) (by omega)
  refine hgo [1591] 60 _ _ _ _ _ _ _ ?_
  conv => whnf
  refine ⟨hin 1 (by decide), ?_⟩
  conv => whnf
  refine ⟨zfit_mk (by omega) (by omega), ?_⟩
  refine S_L_mergedBlock hC X0 ho (fun h1 of1 X1 o1 f1 v1 => ?_)
  have Y1 := Y0.eq (fun a z1 z2 => f1 a z1 (by omega))
  conv => whnf
  refine ⟨hin 1 (by decide), ?_⟩
  conv => whnf
  refine ⟨_, Y1.hob.choose_spec, ?_⟩
  refine S_X7_mergedBlock hC Y1 W (fun h2 Y2 o2 => ?_)
  have X2 := X1.off o2 (by decide)
  have q1 := (o2 108 (by omega)).trans o1
  have q2 := (o2 109 (by omega)).trans ((f1 109 (by omega) (by omega)).trans hd)
  have k9 := G h2 A (cu + 1) (su + 6) ⟨X2, ⟨_, Y2⟩, ⟨_, q1⟩, ⟨_, q2⟩⟩ (Nat.le_refl _) (Nat.le_refl _)
  conv => whnf
  refine ⟨_, Y2.hob.choose_spec, ?_⟩
  refine S_ythrown hC Y2 ?_
  conv => whnf
  refine ⟨fun _ => ?_, fun z => absurd rfl z⟩
  conv => whnf
  refine ⟨fun _ => ?_, fun hk => ?_⟩
  · conv => whnf
    refine hF _ _ _ _ _ _ _ _ ?_ k9
    repeat (first | exact zf_0 | refine zf_s ?_ | refine zf_n ?_)
  · have hk0 : zgk (zgM (xs (nI i + nI 1).toNatClampNeg) A.1) = 0 := nI_inj (b := 0) (zgk_lt) (by decide) hk
    have v2 := v1 hk0
    conv => whnf
    refine ⟨_, _, q1, vp_in_nI (n := 0) (by decide) (by decide), ?_⟩
    rw [show (0 : Int32).toNatClampNeg = 0 by decide, v2]
    conv => whnf
    refine ⟨fun _ => ?_, fun z => absurd rfl z⟩
    conv => whnf
    refine hF _ _ _ _ _ _ _ _ ?_ k9
    repeat (first | exact zf_0 | refine zf_s ?_ | refine zf_n ?_)
theorem zlw_mergedContent {C : zK} (hC : zCld 215 zTT C) {K : zQ} {xs : Nat → Int32} {L : Nat} {P : zP} (hgo : zGo (zT_law xs L) C K P) (hF : zfgt P) {i : Nat} (hi : i + 4 ≤ L) (hL : L ≤ 2048) {h : zH} {A : zA} {cu su : Nat} (hcu : cu ≤ 2000) (hsu : su ≤ 20000) (I : zLw h A) (G : ∀ h' A' cu' su', zLw h' A' → cu' ≤ cu + 1 → su' ≤ su + 6 → P 1591 [none, some (.ref 0), some (.ref 96), some (.ref 108), some (.ref 109), some (.int (nI i)), none, none, none] [] h' 110 cu' su') : P 942 [none, some (.ref 0), some (.ref 96), some (.ref 108), some (.ref 109), some (.int (nI i)), none, none, none] [] h 110 cu su := by
  obtain ⟨X0, ⟨th, Y0⟩, ⟨of, ho⟩, ⟨od, hd⟩⟩ := I
  have W := X0.w
  have hin : ∀ k, k < 4 → vp_in (nI i + nI k) L := fun k hk => by
    rw [nI_add]
    exact vp_in_nI (by omega) (by omega)
  refine hgo [1591] 60 _ _ _ _ _ _ _ ?_
  conv => whnf
  refine ⟨hin 1 (by decide), ?_⟩
  conv => whnf
  refine ⟨zfit_mk (by omega) (by omega), ?_⟩
  refine S_L_mergedContent hC X0 ho (fun h1 of1 X1 o1 f1 v1 => ?_)
  have Y1 := Y0.eq (fun a z1 z2 => f1 a z1 (by omega))
  conv => whnf
  refine ⟨hin 1 (by decide), ?_⟩
  conv => whnf
  refine ⟨_, Y1.hob.choose_spec, ?_⟩
  refine S_X7_mergedContent hC Y1 W (fun h2 Y2 o2 => ?_)
  have X2 := X1.off o2 (by decide)
  have q1 := (o2 108 (by omega)).trans o1
  have q2 := (o2 109 (by omega)).trans ((f1 109 (by omega) (by omega)).trans hd)
  have k9 := G h2 A (cu + 1) (su + 6) ⟨X2, ⟨_, Y2⟩, ⟨_, q1⟩, ⟨_, q2⟩⟩ (Nat.le_refl _) (Nat.le_refl _)
  conv => whnf
  refine ⟨_, Y2.hob.choose_spec, ?_⟩
  refine S_ythrown hC Y2 ?_
  conv => whnf
  refine ⟨fun _ => ?_, fun z => absurd rfl z⟩
  conv => whnf
  refine ⟨fun _ => ?_, fun hk => ?_⟩
  · conv => whnf
    refine hF _ _ _ _ _ _ _ _ ?_ k9
    repeat (first | exact zf_0 | refine zf_s ?_ | refine zf_n ?_)
  · have hk0 : zgk (zgN (xs (nI i + nI 1).toNatClampNeg) A.1) = 0 := nI_inj (b := 0) (zgk_lt) (by decide) hk
    have v2 := v1 hk0
    conv => whnf
    refine ⟨_, _, q1, vp_in_nI (n := 0) (by decide) (by decide), ?_⟩
    rw [show (0 : Int32).toNatClampNeg = 0 by decide, v2]
    conv => whnf
    refine ⟨fun _ => ?_, fun z => absurd rfl z⟩
    conv => whnf
    refine hF _ _ _ _ _ _ _ _ ?_ k9
    repeat (first | exact zf_0 | refine zf_s ?_ | refine zf_n ?_)
theorem zlw_conflicts {C : zK} (hC : zCld 215 zTT C) {K : zQ} {xs : Nat → Int32} {L : Nat} {P : zP} (hgo : zGo (zT_law xs L) C K P) (hF : zfgt P) {i : Nat} (hi : i + 4 ≤ L) (hL : L ≤ 2048) {h : zH} {A : zA} {cu su : Nat} (hcu : cu ≤ 2000) (hsu : su ≤ 20000) (I : zLw h A) (G : ∀ h' A' cu' su', zLw h' A' → cu' ≤ cu + 1 → su' ≤ su + 6 → P 1591 [none, some (.ref 0), some (.ref 96), some (.ref 108), some (.ref 109), some (.int (nI i)), none, none, none] [] h' 110 cu' su') : P 998 [none, some (.ref 0), some (.ref 96), some (.ref 108), some (.ref 109), some (.int (nI i)), none, none, none] [] h 110 cu su := by
  obtain ⟨X0, ⟨th, Y0⟩, ⟨of, ho⟩, ⟨od, hd⟩⟩ := I
  have W := X0.w
  have hin : ∀ k, k < 4 → vp_in (nI i + nI k) L := fun k hk => by
    rw [nI_add]
    exact vp_in_nI (by omega) (by omega)
  refine hgo [1591] 60 _ _ _ _ _ _ _ ?_
  conv => whnf
  refine ⟨_, X0.1, ?_⟩
  refine S_X6_conflicts hC X0 (fun h1 X1 o1 => ?_)
  have Y1 := Y0.eq (fun a z1 z2 => o1 a (by omega))
  have p1 := (o1 108 (by omega)).trans ho
  have p2 := (o1 109 (by omega)).trans hd
  conv => whnf
  refine ⟨_, Y1.hob.choose_spec, ?_⟩
  refine S_X7_conflicts hC Y1 W (fun h2 Y2 o2 => ?_)
  have X2 := X1.off o2 (by decide)
  have q1 := (o2 108 (by omega)).trans p1
  have q2 := (o2 109 (by omega)).trans p2
  have k9 := G h2 A cu su ⟨X2, ⟨_, Y2⟩, ⟨_, q1⟩, ⟨_, q2⟩⟩ (Nat.le_succ _) (by omega)
  conv => whnf
  refine ⟨fun _ => ?_, fun z => absurd rfl z⟩
  conv => whnf
  exact k9
theorem zlw_conflictBlock {C : zK} (hC : zCld 215 zTT C) {K : zQ} {xs : Nat → Int32} {L : Nat} {P : zP} (hgo : zGo (zT_law xs L) C K P) (hF : zfgt P) {i : Nat} (hi : i + 4 ≤ L) (hL : L ≤ 2048) {h : zH} {A : zA} {cu su : Nat} (hcu : cu ≤ 2000) (hsu : su ≤ 20000) (I : zLw h A) (G : ∀ h' A' cu' su', zLw h' A' → cu' ≤ cu + 1 → su' ≤ su + 6 → P 1591 [none, some (.ref 0), some (.ref 96), some (.ref 108), some (.ref 109), some (.int (nI i)), none, none, none] [] h' 110 cu' su') : P 1011 [none, some (.ref 0), some (.ref 96), some (.ref 108), some (.ref 109), some (.int (nI i)), none, none, none] [] h 110 cu su := by
  obtain ⟨X0, ⟨th, Y0⟩, ⟨of, ho⟩, ⟨od, hd⟩⟩ := I
  have W := X0.w
  have hin : ∀ k, k < 4 → vp_in (nI i + nI k) L := fun k hk => by
    rw [nI_add]
    exact vp_in_nI (by omega) (by omega)
  refine hgo [1591] 60 _ _ _ _ _ _ _ ?_
  conv => whnf
  refine ⟨hin 1 (by decide), ?_⟩
  conv => whnf
  refine ⟨zfit_mk (by omega) (by omega), ?_⟩
  refine S_L_conflictBlock hC X0 ho (fun h1 of1 X1 o1 f1 v1 => ?_)
  have Y1 := Y0.eq (fun a z1 z2 => f1 a z1 (by omega))
  conv => whnf
  refine ⟨hin 1 (by decide), ?_⟩
  conv => whnf
  refine ⟨_, Y1.hob.choose_spec, ?_⟩
  refine S_X7_conflictBlock hC Y1 W (fun h2 Y2 o2 => ?_)
  have X2 := X1.off o2 (by decide)
  have q1 := (o2 108 (by omega)).trans o1
  have q2 := (o2 109 (by omega)).trans ((f1 109 (by omega) (by omega)).trans hd)
  have k9 := G h2 A (cu + 1) (su + 6) ⟨X2, ⟨_, Y2⟩, ⟨_, q1⟩, ⟨_, q2⟩⟩ (Nat.le_refl _) (Nat.le_refl _)
  conv => whnf
  refine ⟨_, Y2.hob.choose_spec, ?_⟩
  refine S_ythrown hC Y2 ?_
  conv => whnf
  refine ⟨fun _ => ?_, fun z => absurd rfl z⟩
  conv => whnf
  refine ⟨fun _ => ?_, fun hk => ?_⟩
  · conv => whnf
    refine hF _ _ _ _ _ _ _ _ ?_ k9
    repeat (first | exact zf_0 | refine zf_s ?_ | refine zf_n ?_)
  · have hk0 : zgk (zgF (xs (nI i + nI 1).toNatClampNeg) A.1) = 0 := nI_inj (b := 0) (zgk_lt) (by decide) hk
    have v2 := v1 hk0
    conv => whnf
    refine ⟨_, _, q1, vp_in_nI (n := 0) (by decide) (by decide), ?_⟩
    rw [show (0 : Int32).toNatClampNeg = 0 by decide, v2]
    conv => whnf
    refine ⟨fun _ => ?_, fun z => absurd rfl z⟩
    conv => whnf
    refine hF _ _ _ _ _ _ _ _ ?_ k9
    repeat (first | exact zf_0 | refine zf_s ?_ | refine zf_n ?_)
theorem zlw_conflictKind {C : zK} (hC : zCld 215 zTT C) {K : zQ} {xs : Nat → Int32} {L : Nat} {P : zP} (hgo : zGo (zT_law xs L) C K P) (hF : zfgt P) {i : Nat} (hi : i + 4 ≤ L) (hL : L ≤ 2048) {h : zH} {A : zA} {cu su : Nat} (hcu : cu ≤ 2000) (hsu : su ≤ 20000) (I : zLw h A) (G : ∀ h' A' cu' su', zLw h' A' → cu' ≤ cu + 1 → su' ≤ su + 6 → P 1591 [none, some (.ref 0), some (.ref 96), some (.ref 108), some (.ref 109), some (.int (nI i)), none, none, none] [] h' 110 cu' su') : P 1067 [none, some (.ref 0), some (.ref 96), some (.ref 108), some (.ref 109), some (.int (nI i)), none, none, none] [] h 110 cu su := by
  obtain ⟨X0, ⟨th, Y0⟩, ⟨of, ho⟩, ⟨od, hd⟩⟩ := I
  have W := X0.w
  have hin : ∀ k, k < 4 → vp_in (nI i + nI k) L := fun k hk => by
    rw [nI_add]
    exact vp_in_nI (by omega) (by omega)
  refine hgo [1591] 60 _ _ _ _ _ _ _ ?_
  conv => whnf
  refine ⟨hin 1 (by decide), ?_⟩
  conv => whnf
  refine ⟨zfit_mk (by omega) (by omega), ?_⟩
  refine S_L_conflictKind hC X0 ho (fun h1 of1 X1 o1 f1 v1 => ?_)
  have Y1 := Y0.eq (fun a z1 z2 => f1 a z1 (by omega))
  conv => whnf
  refine ⟨hin 1 (by decide), ?_⟩
  conv => whnf
  refine ⟨_, Y1.hob.choose_spec, ?_⟩
  refine S_X7_conflictKind hC Y1 W (fun h2 Y2 o2 => ?_)
  have X2 := X1.off o2 (by decide)
  have q1 := (o2 108 (by omega)).trans o1
  have q2 := (o2 109 (by omega)).trans ((f1 109 (by omega) (by omega)).trans hd)
  have k9 := G h2 A (cu + 1) (su + 6) ⟨X2, ⟨_, Y2⟩, ⟨_, q1⟩, ⟨_, q2⟩⟩ (Nat.le_refl _) (Nat.le_refl _)
  conv => whnf
  refine ⟨_, Y2.hob.choose_spec, ?_⟩
  refine S_ythrown hC Y2 ?_
  conv => whnf
  refine ⟨fun _ => ?_, fun z => absurd rfl z⟩
  conv => whnf
  refine ⟨fun _ => ?_, fun hk => ?_⟩
  · conv => whnf
    refine hF _ _ _ _ _ _ _ _ ?_ k9
    repeat (first | exact zf_0 | refine zf_s ?_ | refine zf_n ?_)
  · have hk0 : zgk (zgG (xs (nI i + nI 1).toNatClampNeg) A.1) = 0 := nI_inj (b := 0) (zgk_lt) (by decide) hk
    have v2 := v1 hk0
    conv => whnf
    refine ⟨_, _, q1, vp_in_nI (n := 0) (by decide) (by decide), ?_⟩
    rw [show (0 : Int32).toNatClampNeg = 0 by decide, v2]
    conv => whnf
    refine ⟨fun _ => ?_, fun z => absurd rfl z⟩
    conv => whnf
    refine hF _ _ _ _ _ _ _ _ ?_ k9
    repeat (first | exact zf_0 | refine zf_s ?_ | refine zf_n ?_)
theorem zlw_choose {C : zK} (hC : zCld 215 zTT C) {K : zQ} {xs : Nat → Int32} {L : Nat} {P : zP} (hgo : zGo (zT_law xs L) C K P) (hF : zfgt P) {i : Nat} (hi : i + 4 ≤ L) (hL : L ≤ 2048) {h : zH} {A : zA} {cu su : Nat} (hcu : cu ≤ 2000) (hsu : su ≤ 20000) (I : zLw h A) (G : ∀ h' A' cu' su', zLw h' A' → cu' ≤ cu + 1 → su' ≤ su + 6 → P 1591 [none, some (.ref 0), some (.ref 96), some (.ref 108), some (.ref 109), some (.int (nI i)), none, none, none] [] h' 110 cu' su') : P 1123 [none, some (.ref 0), some (.ref 96), some (.ref 108), some (.ref 109), some (.int (nI i)), none, none, none] [] h 110 cu su := by
  obtain ⟨X0, ⟨th, Y0⟩, ⟨of, ho⟩, ⟨od, hd⟩⟩ := I
  have W := X0.w
  have hin : ∀ k, k < 4 → vp_in (nI i + nI k) L := fun k hk => by
    rw [nI_add]
    exact vp_in_nI (by omega) (by omega)
  refine hgo [1591] 60 _ _ _ _ _ _ _ ?_
  conv => whnf
  refine ⟨hin 1 (by decide), ?_⟩
  conv => whnf
  refine ⟨hin 2 (by decide), ?_⟩
  conv => whnf
  refine ⟨zfit_mk (by omega) (by omega), ?_⟩
  refine S_L_choose hC X0 ho (fun h1 of1 X1 o1 f1 v1 => ?_)
  have Y1 := Y0.eq (fun a z1 z2 => f1 a z1 (by omega))
  conv => whnf
  refine ⟨hin 1 (by decide), ?_⟩
  conv => whnf
  refine ⟨hin 2 (by decide), ?_⟩
  conv => whnf
  refine ⟨_, Y1.hob.choose_spec, ?_⟩
  refine S_X7_choose hC Y1 W (fun h2 Y2 o2 => ?_)
  have X2 := X1.off o2 (by decide)
  have q1 := (o2 108 (by omega)).trans o1
  have q2 := (o2 109 (by omega)).trans ((f1 109 (by omega) (by omega)).trans hd)
  have k9 := G h2 (zoC (zcC (xs (nI i + nI 1).toNatClampNeg) (xs (nI i + nI 2).toNatClampNeg) A.1) A).2.1 (cu + 1) (su + 6) ⟨X2, ⟨_, Y2⟩, ⟨_, q1⟩, ⟨_, q2⟩⟩ (Nat.le_refl _) (Nat.le_refl _)
  conv => whnf
  refine ⟨_, Y2.hob.choose_spec, ?_⟩
  refine S_ythrown hC Y2 ?_
  conv => whnf
  refine ⟨fun _ => ?_, fun z => absurd rfl z⟩
  conv => whnf
  refine ⟨fun _ => ?_, fun hk => ?_⟩
  · conv => whnf
    refine hF _ _ _ _ _ _ _ _ ?_ k9
    repeat (first | exact zf_0 | refine zf_s ?_ | refine zf_n ?_)
  · have hk0 : (zoC (zcC (xs (nI i + nI 1).toNatClampNeg) (xs (nI i + nI 2).toNatClampNeg) A.1) A).1 = 0 := nI_inj (b := 0) (by rw [zoC_1]; exact Nat.lt_of_le_of_lt zb_zcC (by decide)) (by decide) hk
    have v2 := v1 hk0
    conv => whnf
    refine ⟨_, _, q1, vp_in_nI (n := 0) (by decide) (by decide), ?_⟩
    rw [show (0 : Int32).toNatClampNeg = 0 by decide, v2]
    conv => whnf
    refine ⟨fun _ => ?_, fun z => absurd rfl z⟩
    conv => whnf
    refine hF _ _ _ _ _ _ _ _ ?_ k9
    repeat (first | exact zf_0 | refine zf_s ?_ | refine zf_n ?_)
theorem zlw_prefer {C : zK} (hC : zCld 215 zTT C) {K : zQ} {xs : Nat → Int32} {L : Nat} {P : zP} (hgo : zGo (zT_law xs L) C K P) (hF : zfgt P) {i : Nat} (hi : i + 4 ≤ L) (hL : L ≤ 2048) {h : zH} {A : zA} {cu su : Nat} (hcu : cu ≤ 2000) (hsu : su ≤ 20000) (I : zLw h A) (G : ∀ h' A' cu' su', zLw h' A' → cu' ≤ cu + 1 → su' ≤ su + 6 → P 1591 [none, some (.ref 0), some (.ref 96), some (.ref 108), some (.ref 109), some (.int (nI i)), none, none, none] [] h' 110 cu' su') : P 1191 [none, some (.ref 0), some (.ref 96), some (.ref 108), some (.ref 109), some (.int (nI i)), none, none, none] [] h 110 cu su := by
  obtain ⟨X0, ⟨th, Y0⟩, ⟨of, ho⟩, ⟨od, hd⟩⟩ := I
  have W := X0.w
  have hin : ∀ k, k < 4 → vp_in (nI i + nI k) L := fun k hk => by
    rw [nI_add]
    exact vp_in_nI (by omega) (by omega)
  refine hgo [1591] 60 _ _ _ _ _ _ _ ?_
  conv => whnf
  refine ⟨hin 1 (by decide), ?_⟩
  conv => whnf
  refine ⟨zfit_mk (by omega) (by omega), ?_⟩
  refine S_L_prefer hC X0 ho (fun h1 of1 X1 o1 f1 v1 => ?_)
  have Y1 := Y0.eq (fun a z1 z2 => f1 a z1 (by omega))
  conv => whnf
  refine ⟨hin 1 (by decide), ?_⟩
  conv => whnf
  refine ⟨_, Y1.hob.choose_spec, ?_⟩
  refine S_X7_prefer hC Y1 W (fun h2 Y2 o2 => ?_)
  have X2 := X1.off o2 (by decide)
  have q1 := (o2 108 (by omega)).trans o1
  have q2 := (o2 109 (by omega)).trans ((f1 109 (by omega) (by omega)).trans hd)
  have k9 := G h2 (zoC (zcP (xs (nI i + nI 1).toNatClampNeg) A.1) A).2.1 (cu + 1) (su + 6) ⟨X2, ⟨_, Y2⟩, ⟨_, q1⟩, ⟨_, q2⟩⟩ (Nat.le_refl _) (Nat.le_refl _)
  conv => whnf
  refine ⟨_, Y2.hob.choose_spec, ?_⟩
  refine S_ythrown hC Y2 ?_
  conv => whnf
  refine ⟨fun _ => ?_, fun z => absurd rfl z⟩
  conv => whnf
  refine ⟨fun _ => ?_, fun hk => ?_⟩
  · conv => whnf
    refine hF _ _ _ _ _ _ _ _ ?_ k9
    repeat (first | exact zf_0 | refine zf_s ?_ | refine zf_n ?_)
  · have hk0 : (zoC (zcP (xs (nI i + nI 1).toNatClampNeg) A.1) A).1 = 0 := nI_inj (b := 0) (by rw [zoC_1]; exact Nat.lt_of_le_of_lt zb_zcP (by decide)) (by decide) hk
    have v2 := v1 hk0
    conv => whnf
    refine ⟨_, _, q1, vp_in_nI (n := 0) (by decide) (by decide), ?_⟩
    rw [show (0 : Int32).toNatClampNeg = 0 by decide, v2]
    conv => whnf
    refine ⟨fun _ => ?_, fun z => absurd rfl z⟩
    conv => whnf
    refine hF _ _ _ _ _ _ _ _ ?_ k9
    repeat (first | exact zf_0 | refine zf_s ?_ | refine zf_n ?_)
theorem zlw_open {C : zK} (hC : zCld 215 zTT C) {K : zQ} {xs : Nat → Int32} {L : Nat} {P : zP} (hgo : zGo (zT_law xs L) C K P) (hF : zfgt P) {i : Nat} (hi : i + 4 ≤ L) (hL : L ≤ 2048) {h : zH} {A : zA} {cu su : Nat} (hcu : cu ≤ 2000) (hsu : su ≤ 20000) (I : zLw h A) (G : ∀ h' A' cu' su', zLw h' A' → cu' ≤ cu + 1 → su' ≤ su + 6 → P 1591 [none, some (.ref 0), some (.ref 96), some (.ref 108), some (.ref 109), some (.int (nI i)), none, none, none] [] h' 110 cu' su') : P 1247 [none, some (.ref 0), some (.ref 96), some (.ref 108), some (.ref 109), some (.int (nI i)), none, none, none] [] h 110 cu su := by
  obtain ⟨X0, ⟨th, Y0⟩, ⟨of, ho⟩, ⟨od, hd⟩⟩ := I
  have W := X0.w
  have hin : ∀ k, k < 4 → vp_in (nI i + nI k) L := fun k hk => by
    rw [nI_add]
    exact vp_in_nI (by omega) (by omega)
  refine hgo [1591] 60 _ _ _ _ _ _ _ ?_
  conv => whnf
  refine ⟨_, X0.1, ?_⟩
  refine S_X6_open hC X0 (fun h1 X1 o1 => ?_)
  have Y1 := Y0.eq (fun a z1 z2 => o1 a (by omega))
  have p1 := (o1 108 (by omega)).trans ho
  have p2 := (o1 109 (by omega)).trans hd
  conv => whnf
  refine ⟨_, Y1.hob.choose_spec, ?_⟩
  refine S_X7_open hC Y1 W (fun h2 Y2 o2 => ?_)
  have X2 := X1.off o2 (by decide)
  have q1 := (o2 108 (by omega)).trans p1
  have q2 := (o2 109 (by omega)).trans p2
  have k9 := G h2 A cu su ⟨X2, ⟨_, Y2⟩, ⟨_, q1⟩, ⟨_, q2⟩⟩ (Nat.le_succ _) (by omega)
  conv => whnf
  refine ⟨fun _ => ?_, fun z => absurd rfl z⟩
  conv => whnf
  exact k9
theorem zlw_accept {C : zK} (hC : zCld 215 zTT C) {K : zQ} {xs : Nat → Int32} {L : Nat} {P : zP} (hgo : zGo (zT_law xs L) C K P) (hF : zfgt P) {i : Nat} (hi : i + 4 ≤ L) (hL : L ≤ 2048) {h : zH} {A : zA} {cu su : Nat} (hcu : cu ≤ 2000) (hsu : su ≤ 20000) (I : zLw h A) (G : ∀ h' A' cu' su', zLw h' A' → cu' ≤ cu + 1 → su' ≤ su + 6 → P 1591 [none, some (.ref 0), some (.ref 96), some (.ref 108), some (.ref 109), some (.int (nI i)), none, none, none] [] h' 110 cu' su') : P 1260 [none, some (.ref 0), some (.ref 96), some (.ref 108), some (.ref 109), some (.int (nI i)), none, none, none] [] h 110 cu su := by
  obtain ⟨X0, ⟨th, Y0⟩, ⟨of, ho⟩, ⟨od, hd⟩⟩ := I
  have W := X0.w
  have hin : ∀ k, k < 4 → vp_in (nI i + nI k) L := fun k hk => by
    rw [nI_add]
    exact vp_in_nI (by omega) (by omega)
  refine hgo [1591] 60 _ _ _ _ _ _ _ ?_
  conv => whnf
  refine ⟨zfit_mk (by omega) (by omega), ?_⟩
  refine S_L_accept hC X0 ho (fun h1 of1 X1 o1 f1 v1 => ?_)
  have Y1 := Y0.eq (fun a z1 z2 => f1 a z1 (by omega))
  conv => whnf
  refine ⟨_, Y1.hob.choose_spec, ?_⟩
  refine S_X7_accept hC Y1 W (fun h2 Y2 o2 => ?_)
  have X2 := X1.off o2 (by decide)
  have q1 := (o2 108 (by omega)).trans o1
  have q2 := (o2 109 (by omega)).trans ((f1 109 (by omega) (by omega)).trans hd)
  have k9 := G h2 (zoC (zcT A.1) A).2.1 (cu + 1) (su + 6) ⟨X2, ⟨_, Y2⟩, ⟨_, q1⟩, ⟨_, q2⟩⟩ (Nat.le_refl _) (Nat.le_refl _)
  conv => whnf
  refine ⟨_, Y2.hob.choose_spec, ?_⟩
  refine S_ythrown hC Y2 ?_
  conv => whnf
  refine ⟨fun _ => ?_, fun z => absurd rfl z⟩
  conv => whnf
  refine ⟨fun _ => ?_, fun hk => ?_⟩
  · conv => whnf
    refine hF _ _ _ _ _ _ _ _ ?_ k9
    repeat (first | exact zf_0 | refine zf_s ?_ | refine zf_n ?_)
  · have hk0 : (zoC (zcT A.1) A).1 = 0 := nI_inj (b := 0) (by rw [zoC_1]; exact Nat.lt_of_le_of_lt zb_zcT (by decide)) (by decide) hk
    have v2 := v1 hk0
    conv => whnf
    refine ⟨_, _, q1, vp_in_nI (n := 0) (by decide) (by decide), ?_⟩
    rw [show (0 : Int32).toNatClampNeg = 0 by decide, v2]
    conv => whnf
    refine ⟨fun _ => ?_, fun z => absurd rfl z⟩
    conv => whnf
    refine hF _ _ _ _ _ _ _ _ ?_ k9
    repeat (first | exact zf_0 | refine zf_s ?_ | refine zf_n ?_)
theorem zlw_accepted {C : zK} (hC : zCld 215 zTT C) {K : zQ} {xs : Nat → Int32} {L : Nat} {P : zP} (hgo : zGo (zT_law xs L) C K P) (hF : zfgt P) {i : Nat} (hi : i + 4 ≤ L) (hL : L ≤ 2048) {h : zH} {A : zA} {cu su : Nat} (hcu : cu ≤ 2000) (hsu : su ≤ 20000) (I : zLw h A) (G : ∀ h' A' cu' su', zLw h' A' → cu' ≤ cu + 1 → su' ≤ su + 6 → P 1591 [none, some (.ref 0), some (.ref 96), some (.ref 108), some (.ref 109), some (.int (nI i)), none, none, none] [] h' 110 cu' su') : P 1304 [none, some (.ref 0), some (.ref 96), some (.ref 108), some (.ref 109), some (.int (nI i)), none, none, none] [] h 110 cu su := by
  obtain ⟨X0, ⟨th, Y0⟩, ⟨of, ho⟩, ⟨od, hd⟩⟩ := I
  have W := X0.w
  have hin : ∀ k, k < 4 → vp_in (nI i + nI k) L := fun k hk => by
    rw [nI_add]
    exact vp_in_nI (by omega) (by omega)
  refine hgo [1591] 60 _ _ _ _ _ _ _ ?_
  conv => whnf
  refine ⟨_, X0.1, ?_⟩
  refine S_X6_accepted hC X0 ?_
  have X1 := X0
  have Y1 := Y0
  have p1 := ho
  have p2 := hd
  conv => whnf
  refine ⟨_, Y1.hob.choose_spec, ?_⟩
  refine S_X7_accepted hC Y1 (fun h2 Y2 o2 => ?_)
  have X2 := X1.off o2 (by decide)
  have q1 := (o2 108 (by omega)).trans p1
  have q2 := (o2 109 (by omega)).trans p2
  have k9 := G h2 A cu su ⟨X2, ⟨_, Y2⟩, ⟨_, q1⟩, ⟨_, q2⟩⟩ (Nat.le_succ _) (by omega)
  conv => whnf
  refine ⟨fun _ => ?_, fun z => absurd rfl z⟩
  conv => whnf
  exact k9
theorem zlw_similarity {C : zK} (hC : zCld 215 zTT C) {K : zQ} {xs : Nat → Int32} {L : Nat} {P : zP} (hgo : zGo (zT_law xs L) C K P) (hF : zfgt P) {i : Nat} (hi : i + 4 ≤ L) (hL : L ≤ 2048) {h : zH} {A : zA} {cu su : Nat} (hcu : cu ≤ 2000) (hsu : su ≤ 20000) (I : zLw h A) (G : ∀ h' A' cu' su', zLw h' A' → cu' ≤ cu + 1 → su' ≤ su + 6 → P 1591 [none, some (.ref 0), some (.ref 96), some (.ref 108), some (.ref 109), some (.int (nI i)), none, none, none] [] h' 110 cu' su') : P 1317 [none, some (.ref 0), some (.ref 96), some (.ref 108), some (.ref 109), some (.int (nI i)), none, none, none] [] h 110 cu su := by
  obtain ⟨X0, ⟨th, Y0⟩, ⟨of, ho⟩, ⟨od, hd⟩⟩ := I
  have W := X0.w
  have hin : ∀ k, k < 4 → vp_in (nI i + nI k) L := fun k hk => by
    rw [nI_add]
    exact vp_in_nI (by omega) (by omega)
  refine hgo [1591] 60 _ _ _ _ _ _ _ ?_
  conv => whnf
  refine ⟨hin 1 (by decide), ?_⟩
  conv => whnf
  refine ⟨zfit_mk (by omega) (by omega), ?_⟩
  refine S_L_similarity hC X0 hd (fun h1 of1 X1 o1 f1 v1 => ?_)
  have Y1 := Y0.eq (fun a z1 z2 => f1 a z1 (by omega))
  conv => whnf
  refine ⟨hin 1 (by decide), ?_⟩
  conv => whnf
  refine ⟨_, Y1.hob.choose_spec, ?_⟩
  refine S_X7_similarity hC Y1 W (fun h2 Y2 o2 => ?_)
  have X2 := X1.off o2 (by decide)
  have q1 := (o2 109 (by omega)).trans o1
  have q2 := (o2 108 (by omega)).trans ((f1 108 (by omega) (by omega)).trans ho)
  have k9 := G h2 A (cu + 1) (su + 6) ⟨X2, ⟨_, Y2⟩, ⟨_, q2⟩, ⟨_, q1⟩⟩ (Nat.le_refl _) (Nat.le_refl _)
  conv => whnf
  refine ⟨_, Y2.hob.choose_spec, ?_⟩
  refine S_ythrown hC Y2 ?_
  conv => whnf
  refine ⟨fun _ => ?_, fun z => absurd rfl z⟩
  conv => whnf
  refine ⟨fun _ => ?_, fun hk => ?_⟩
  · conv => whnf
    refine hF _ _ _ _ _ _ _ _ ?_ k9
    repeat (first | exact zf_0 | refine zf_s ?_ | refine zf_n ?_)
  · have hk0 : zgkD (zgD (xs (nI i + nI 1).toNatClampNeg) A.1) = 0 := nI_inj (b := 0) zgkD_lt (by decide) hk
    have v2 := v1 hk0
    have v3 := zdc_eq W.1 X0.bl (fun d => (show (zdr A.1 d).length ≤ 15 from Y0.choose_spec.1.1.ln d)) (xs (nI i + nI 1).toNatClampNeg)
    conv => whnf
    refine ⟨_, _, q1, vp_in_nI (n := 0) (by decide) (by decide), ?_⟩
    rw [show (0 : Int32).toNatClampNeg = 0 by decide, v2]
    conv => whnf
    rw [v3]
    refine ⟨fun _ => ?_, fun z => absurd rfl z⟩
    conv => whnf
    refine hF _ _ _ _ _ _ _ _ ?_ k9
    repeat (first | exact zf_0 | refine zf_s ?_ | refine zf_n ?_)
theorem zlw_append {C : zK} (hC : zCld 215 zTT C) {K : zQ} {xs : Nat → Int32} {L : Nat} {P : zP} (hgo : zGo (zT_law xs L) C K P) (hF : zfgt P) {i : Nat} (hi : i + 4 ≤ L) (hL : L ≤ 2048) {h : zH} {A : zA} {cu su : Nat} (hcu : cu ≤ 2000) (hsu : su ≤ 20000) (I : zLw h A) (G : ∀ h' A' cu' su', zLw h' A' → cu' ≤ cu + 1 → su' ≤ su + 6 → P 1591 [none, some (.ref 0), some (.ref 96), some (.ref 108), some (.ref 109), some (.int (nI i)), none, none, none] [] h' 110 cu' su') : P 1394 [none, some (.ref 0), some (.ref 96), some (.ref 108), some (.ref 109), some (.int (nI i)), none, none, none] [] h 110 cu su := by
  obtain ⟨X0, ⟨th, Y0⟩, ⟨of, ho⟩, ⟨od, hd⟩⟩ := I
  have W := X0.w
  have hin : ∀ k, k < 4 → vp_in (nI i + nI k) L := fun k hk => by
    rw [nI_add]
    exact vp_in_nI (by omega) (by omega)
  refine hgo [1591] 60 _ _ _ _ _ _ _ ?_
  conv => whnf
  refine ⟨hin 1 (by decide), ?_⟩
  conv => whnf
  refine ⟨zfit_mk (by omega) (by omega), ?_⟩
  refine S_L_append hC X0 ho (fun h1 of1 X1 o1 f1 v1 => ?_)
  have Y1 := Y0.eq (fun a z1 z2 => f1 a z1 (by omega))
  conv => whnf
  refine ⟨hin 1 (by decide), ?_⟩
  conv => whnf
  refine ⟨_, Y1.hob.choose_spec, ?_⟩
  refine S_X7_append hC Y1 W (fun h2 Y2 o2 => ?_)
  have X2 := X1.off o2 (by decide)
  have q1 := (o2 108 (by omega)).trans o1
  have q2 := (o2 109 (by omega)).trans ((f1 109 (by omega) (by omega)).trans hd)
  have k9 := G h2 (zoA (xs (nI i + nI 1).toNatClampNeg) A).2.1 (cu + 1) (su + 6) ⟨X2, ⟨_, Y2⟩, ⟨_, q1⟩, ⟨_, q2⟩⟩ (Nat.le_refl _) (Nat.le_refl _)
  conv => whnf
  refine ⟨_, Y2.hob.choose_spec, ?_⟩
  refine S_ythrown hC Y2 ?_
  conv => whnf
  refine ⟨fun _ => ?_, fun z => absurd rfl z⟩
  conv => whnf
  refine ⟨fun _ => ?_, fun hk => ?_⟩
  · conv => whnf
    refine hF _ _ _ _ _ _ _ _ ?_ k9
    repeat (first | exact zf_0 | refine zf_s ?_ | refine zf_n ?_)
  · have hk0 : (zoA (xs (nI i + nI 1).toNatClampNeg) A).1 = 0 := nI_inj (b := 0) (by exact Nat.lt_of_le_of_lt zb_zoA (by decide)) (by decide) hk
    have v2 := v1 hk0
    conv => whnf
    refine ⟨_, _, q1, vp_in_nI (n := 0) (by decide) (by decide), ?_⟩
    rw [show (0 : Int32).toNatClampNeg = 0 by decide, v2]
    conv => whnf
    refine ⟨fun _ => ?_, fun z => absurd rfl z⟩
    conv => whnf
    refine hF _ _ _ _ _ _ _ _ ?_ k9
    repeat (first | exact zf_0 | refine zf_s ?_ | refine zf_n ?_)
theorem zlw_clearText {C : zK} (hC : zCld 215 zTT C) {K : zQ} {xs : Nat → Int32} {L : Nat} {P : zP} (hgo : zGo (zT_law xs L) C K P) (hF : zfgt P) {i : Nat} (hi : i + 4 ≤ L) (hL : L ≤ 2048) {h : zH} {A : zA} {cu su : Nat} (hcu : cu ≤ 2000) (hsu : su ≤ 20000) (I : zLw h A) (G : ∀ h' A' cu' su', zLw h' A' → cu' ≤ cu + 1 → su' ≤ su + 6 → P 1591 [none, some (.ref 0), some (.ref 96), some (.ref 108), some (.ref 109), some (.int (nI i)), none, none, none] [] h' 110 cu' su') : P 1450 [none, some (.ref 0), some (.ref 96), some (.ref 108), some (.ref 109), some (.int (nI i)), none, none, none] [] h 110 cu su := by
  obtain ⟨X0, ⟨th, Y0⟩, ⟨of, ho⟩, ⟨od, hd⟩⟩ := I
  have W := X0.w
  have hin : ∀ k, k < 4 → vp_in (nI i + nI k) L := fun k hk => by
    rw [nI_add]
    exact vp_in_nI (by omega) (by omega)
  refine hgo [1591] 60 _ _ _ _ _ _ _ ?_
  conv => whnf
  refine ⟨_, X0.1, ?_⟩
  refine S_X6_clearText hC X0 (fun h1 X1 o1 => ?_)
  have Y1 := Y0.eq (fun a z1 z2 => o1 a (by omega))
  have p1 := (o1 108 (by omega)).trans ho
  have p2 := (o1 109 (by omega)).trans hd
  conv => whnf
  refine ⟨_, Y1.hob.choose_spec, ?_⟩
  refine S_X7_clearText hC Y1 (fun h2 Y2 o2 => ?_)
  have X2 := X1.off o2 (by decide)
  have q1 := (o2 108 (by omega)).trans p1
  have q2 := (o2 109 (by omega)).trans p2
  have k9 := G h2 (A.1, A.2.1, []) cu su ⟨X2, ⟨_, Y2⟩, ⟨_, q1⟩, ⟨_, q2⟩⟩ (Nat.le_succ _) (by omega)
  conv => whnf
  refine ⟨fun _ => ?_, fun z => absurd rfl z⟩
  conv => whnf
  exact k9
theorem zlw_firstError {C : zK} (hC : zCld 215 zTT C) {K : zQ} {xs : Nat → Int32} {L : Nat} {P : zP} (hgo : zGo (zT_law xs L) C K P) (hF : zfgt P) {i : Nat} (hi : i + 4 ≤ L) (hL : L ≤ 2048) {h : zH} {A : zA} {cu su : Nat} (hcu : cu ≤ 2000) (hsu : su ≤ 20000) (I : zLw h A) (G : ∀ h' A' cu' su', zLw h' A' → cu' ≤ cu + 1 → su' ≤ su + 6 → P 1591 [none, some (.ref 0), some (.ref 96), some (.ref 108), some (.ref 109), some (.int (nI i)), none, none, none] [] h' 110 cu' su') : P 1463 [none, some (.ref 0), some (.ref 96), some (.ref 108), some (.ref 109), some (.int (nI i)), none, none, none] [] h 110 cu su := by
  obtain ⟨X0, ⟨th, Y0⟩, ⟨of, ho⟩, ⟨od, hd⟩⟩ := I
  have W := X0.w
  have hin : ∀ k, k < 4 → vp_in (nI i + nI k) L := fun k hk => by
    rw [nI_add]
    exact vp_in_nI (by omega) (by omega)
  refine hgo [1591] 60 _ _ _ _ _ _ _ ?_
  conv => whnf
  refine ⟨_, X0.1, ?_⟩
  refine S_X6_firstError hC X0 (fun h1 X1 o1 => ?_)
  have Y1 := Y0.eq (fun a z1 z2 => o1 a (by omega))
  have p1 := (o1 108 (by omega)).trans ho
  have p2 := (o1 109 (by omega)).trans hd
  conv => whnf
  refine ⟨_, Y1.hob.choose_spec, ?_⟩
  refine S_X7_firstError hC Y1 W (fun h2 Y2 o2 => ?_)
  have X2 := X1.off o2 (by decide)
  have q1 := (o2 108 (by omega)).trans p1
  have q2 := (o2 109 (by omega)).trans p2
  have k9 := G h2 A cu su ⟨X2, ⟨_, Y2⟩, ⟨_, q1⟩, ⟨_, q2⟩⟩ (Nat.le_succ _) (by omega)
  conv => whnf
  refine ⟨fun _ => ?_, fun z => absurd rfl z⟩
  conv => whnf
  exact k9
theorem zlw_run {C : zK} (hC : zCld 215 zTT C) {K : zQ} {xs : Nat → Int32} {L : Nat} {P : zP} (hgo : zGo (zT_law xs L) C K P) (hF : zfgt P) {i : Nat} (hi : i + 4 ≤ L) (hL : L ≤ 2048) {h : zH} {A : zA} {cu su : Nat} (hcu : cu ≤ 2000) (hsu : su ≤ 20000) (I : zLw h A) (G : ∀ h' A' cu' su', zLw h' A' → cu' ≤ cu + 1 → su' ≤ su + 6 → P 1591 [none, some (.ref 0), some (.ref 96), some (.ref 108), some (.ref 109), some (.int (nI i)), none, none, none] [] h' 110 cu' su') : P 1476 [none, some (.ref 0), some (.ref 96), some (.ref 108), some (.ref 109), some (.int (nI i)), none, none, none] [] h 110 cu su := by
  obtain ⟨X0, ⟨th, Y0⟩, ⟨of, ho⟩, ⟨od, hd⟩⟩ := I
  have W := X0.w
  have hin : ∀ k, k < 4 → vp_in (nI i + nI k) L := fun k hk => by
    rw [nI_add]
    exact vp_in_nI (by omega) (by omega)
  refine hgo [1591] 60 _ _ _ _ _ _ _ ?_
  conv => whnf
  refine ⟨zfit_mk (by omega) (by omega), ?_⟩
  refine S_L_run hC X0 ho (fun h1 of1 X1 o1 f1 v1 => ?_)
  have Y1 := Y0.eq (fun a z1 z2 => f1 a z1 (by omega))
  conv => whnf
  refine ⟨_, Y1.hob.choose_spec, ?_⟩
  refine S_X7_run hC Y1 W (fun h2 Y2 o2 => ?_)
  have X2 := X1.off o2 (by decide)
  have q1 := (o2 108 (by omega)).trans o1
  have q2 := (o2 109 (by omega)).trans ((f1 109 (by omega) (by omega)).trans hd)
  have k9 := G h2 (zoR A).2.1 (cu + 1) (su + 6) ⟨X2, ⟨_, Y2⟩, ⟨_, q1⟩, ⟨_, q2⟩⟩ (Nat.le_refl _) (Nat.le_refl _)
  conv => whnf
  refine ⟨_, Y2.hob.choose_spec, ?_⟩
  refine S_ythrown hC Y2 ?_
  conv => whnf
  refine ⟨fun _ => ?_, fun z => absurd rfl z⟩
  conv => whnf
  refine ⟨fun _ => ?_, fun hk => ?_⟩
  · conv => whnf
    refine hF _ _ _ _ _ _ _ _ ?_ k9
    repeat (first | exact zf_0 | refine zf_s ?_ | refine zf_n ?_)
  · have hk0 : (zoR A).1 = 0 := nI_inj (b := 0) (by exact Nat.lt_of_le_of_lt zb_zoR (by decide)) (by decide) hk
    have v2 := v1 hk0
    conv => whnf
    refine ⟨_, _, q1, vp_in_nI (n := 0) (by decide) (by decide), ?_⟩
    rw [show (0 : Int32).toNatClampNeg = 0 by decide, v2]
    conv => whnf
    refine ⟨fun _ => ?_, fun z => absurd rfl z⟩
    conv => whnf
    refine hF _ _ _ _ _ _ _ _ ?_ k9
    repeat (first | exact zf_0 | refine zf_s ?_ | refine zf_n ?_)
theorem zlw_undo {C : zK} (hC : zCld 215 zTT C) {K : zQ} {xs : Nat → Int32} {L : Nat} {P : zP} (hgo : zGo (zT_law xs L) C K P) (hF : zfgt P) {i : Nat} (hi : i + 4 ≤ L) (hL : L ≤ 2048) {h : zH} {A : zA} {cu su : Nat} (hcu : cu ≤ 2000) (hsu : su ≤ 20000) (I : zLw h A) (G : ∀ h' A' cu' su', zLw h' A' → cu' ≤ cu + 1 → su' ≤ su + 6 → P 1591 [none, some (.ref 0), some (.ref 96), some (.ref 108), some (.ref 109), some (.int (nI i)), none, none, none] [] h' 110 cu' su') : P 1520 [none, some (.ref 0), some (.ref 96), some (.ref 108), some (.ref 109), some (.int (nI i)), none, none, none] [] h 110 cu su := by
  obtain ⟨X0, ⟨th, Y0⟩, ⟨of, ho⟩, ⟨od, hd⟩⟩ := I
  have W := X0.w
  have hin : ∀ k, k < 4 → vp_in (nI i + nI k) L := fun k hk => by
    rw [nI_add]
    exact vp_in_nI (by omega) (by omega)
  refine hgo [1591] 60 _ _ _ _ _ _ _ ?_
  conv => whnf
  refine ⟨zfit_mk (by omega) (by omega), ?_⟩
  refine S_L_undo hC X0 ho (fun h1 of1 X1 o1 f1 v1 => ?_)
  have Y1 := Y0.eq (fun a z1 z2 => f1 a z1 (by omega))
  conv => whnf
  refine ⟨_, Y1.hob.choose_spec, ?_⟩
  refine S_X7_undo hC Y1 W (fun h2 Y2 o2 => ?_)
  have X2 := X1.off o2 (by decide)
  have q1 := (o2 108 (by omega)).trans o1
  have q2 := (o2 109 (by omega)).trans ((f1 109 (by omega) (by omega)).trans hd)
  have k9 := G h2 (zoU A).2.1 (cu + 1) (su + 6) ⟨X2, ⟨_, Y2⟩, ⟨_, q1⟩, ⟨_, q2⟩⟩ (Nat.le_refl _) (Nat.le_refl _)
  conv => whnf
  refine ⟨_, Y2.hob.choose_spec, ?_⟩
  refine S_ythrown hC Y2 ?_
  conv => whnf
  refine ⟨fun _ => ?_, fun z => absurd rfl z⟩
  conv => whnf
  refine ⟨fun _ => ?_, fun hk => ?_⟩
  · conv => whnf
    refine hF _ _ _ _ _ _ _ _ ?_ k9
    repeat (first | exact zf_0 | refine zf_s ?_ | refine zf_n ?_)
  · have hk0 : (zoU A).1 = 0 := nI_inj (b := 0) (by exact Nat.lt_of_le_of_lt zb_zoU (by decide)) (by decide) hk
    have v2 := v1 hk0
    conv => whnf
    refine ⟨_, _, q1, vp_in_nI (n := 0) (by decide) (by decide), ?_⟩
    rw [show (0 : Int32).toNatClampNeg = 0 by decide, v2]
    conv => whnf
    refine ⟨fun _ => ?_, fun z => absurd rfl z⟩
    conv => whnf
    refine hF _ _ _ _ _ _ _ _ ?_ k9
    repeat (first | exact zf_0 | refine zf_s ?_ | refine zf_n ?_)
theorem zlw_savedStates {C : zK} (hC : zCld 215 zTT C) {K : zQ} {xs : Nat → Int32} {L : Nat} {P : zP} (hgo : zGo (zT_law xs L) C K P) (hF : zfgt P) {i : Nat} (hi : i + 4 ≤ L) (hL : L ≤ 2048) {h : zH} {A : zA} {cu su : Nat} (hcu : cu ≤ 2000) (hsu : su ≤ 20000) (I : zLw h A) (G : ∀ h' A' cu' su', zLw h' A' → cu' ≤ cu + 1 → su' ≤ su + 6 → P 1591 [none, some (.ref 0), some (.ref 96), some (.ref 108), some (.ref 109), some (.int (nI i)), none, none, none] [] h' 110 cu' su') : P 1564 [none, some (.ref 0), some (.ref 96), some (.ref 108), some (.ref 109), some (.int (nI i)), none, none, none] [] h 110 cu su := by
  obtain ⟨X0, ⟨th, Y0⟩, ⟨of, ho⟩, ⟨od, hd⟩⟩ := I
  have W := X0.w
  have hin : ∀ k, k < 4 → vp_in (nI i + nI k) L := fun k hk => by
    rw [nI_add]
    exact vp_in_nI (by omega) (by omega)
  refine hgo [1591] 60 _ _ _ _ _ _ _ ?_
  conv => whnf
  refine ⟨_, X0.1, ?_⟩
  refine S_X6_savedStates hC X0 ?_
  have X1 := X0
  have Y1 := Y0
  have p1 := ho
  have p2 := hd
  conv => whnf
  refine ⟨_, Y1.hob.choose_spec, ?_⟩
  refine S_X7_savedStates hC Y1 (fun h2 Y2 o2 => ?_)
  have X2 := X1.off o2 (by decide)
  have q1 := (o2 108 (by omega)).trans p1
  have q2 := (o2 109 (by omega)).trans p2
  have k9 := G h2 A cu su ⟨X2, ⟨_, Y2⟩, ⟨_, q1⟩, ⟨_, q2⟩⟩ (Nat.le_succ _) (by omega)
  conv => whnf
  refine ⟨fun _ => ?_, fun z => absurd rfl z⟩
  conv => whnf
  exact k9
theorem zlw_digest {C : zK} (hC : zCld 215 zTT C) {K : zQ} {xs : Nat → Int32} {L : Nat} {P : zP} (hgo : zGo (zT_law xs L) C K P) (hF : zfgt P) {i : Nat} (hi : i + 4 ≤ L) (hL : L ≤ 2048) {h : zH} {A : zA} {cu su : Nat} (hcu : cu ≤ 2000) (hsu : su ≤ 20000) (I : zLw h A) (G : ∀ h' A' cu' su', zLw h' A' → cu' ≤ cu + 1 → su' ≤ su + 6 → P 1591 [none, some (.ref 0), some (.ref 96), some (.ref 108), some (.ref 109), some (.int (nI i)), none, none, none] [] h' 110 cu' su') : P 1577 [none, some (.ref 0), some (.ref 96), some (.ref 108), some (.ref 109), some (.int (nI i)), none, none, none] [] h 110 cu su := by
  obtain ⟨X0, ⟨th, Y0⟩, ⟨of, ho⟩, ⟨od, hd⟩⟩ := I
  have W := X0.w
  have hin : ∀ k, k < 4 → vp_in (nI i + nI k) L := fun k hk => by
    rw [nI_add]
    exact vp_in_nI (by omega) (by omega)
  refine hgo [1591] 60 _ _ _ _ _ _ _ ?_
  conv => whnf
  refine ⟨_, X0.1, ?_⟩
  refine S_X6_digest hC X0 (fun h1 X1 o1 => ?_)
  have Y1 := Y0.eq (fun a z1 z2 => o1 a (by omega))
  have p1 := (o1 108 (by omega)).trans ho
  have p2 := (o1 109 (by omega)).trans hd
  conv => whnf
  refine ⟨_, Y1.hob.choose_spec, ?_⟩
  refine S_X7_digest hC Y1 W (fun h2 Y2 o2 => ?_)
  have X2 := X1.off o2 (by decide)
  have q1 := (o2 108 (by omega)).trans p1
  have q2 := (o2 109 (by omega)).trans p2
  have k9 := G h2 A cu su ⟨X2, ⟨_, Y2⟩, ⟨_, q1⟩, ⟨_, q2⟩⟩ (Nat.le_succ _) (by omega)
  conv => whnf
  refine ⟨fun _ => ?_, fun z => absurd rfl z⟩
  conv => whnf
  exact k9

