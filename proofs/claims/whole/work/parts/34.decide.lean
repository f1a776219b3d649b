/-! Merge: decide -/
theorem zmc_in (m d : Nat) : m + 4 ≤ zmc m d ∧ zmc m d + 3 ≤ m + 10 := by
  unfold zmc
  by_cases e : d = 0
  · rw [if_pos e]; omega
  · rw [if_neg e]; omega
theorem zda_zmc {h : zH} {s : Nat} {σ : zS} (H : zSta h s σ) {d : Nat} : zBl h (zda s d) 15 (zdr σ d) := H.dr
/-- what a decision reads -/
def zDd (h : zH) (m s : Nat) (σ : zS) : Prop := zSta h s σ ∧ zwf σ ∧ zDx h (m + 4) (zba σ).length (zcx σ 0) ∧ zDx h (m + 7) (zba σ).length (zcx σ 1) ∧ (s + 11 ≤ m ∨ m + 14 ≤ s)
theorem zDd.om {h h' : zH} {m s : Nat} {σ : zS} (D : zDd h m s σ) (ho : zOm m h h') : zDd h' m s σ := by
  obtain ⟨h1, h2, h3, h4, h5⟩ := D
  exact ⟨h1.off ho.wd h5, h2, ho.dx h3 (by omega) (by omega), ho.dx h4 (by omega) (by omega), h5⟩
theorem zDd.dx {h : zH} {m s : Nat} {σ : zS} (D : zDd h m s σ) {d : Nat} (hd : d < 2) : zDx h (zmc m d) (zba σ).length (zcx σ d) := by
  obtain ⟨h1, h2, h3, h4, h5⟩ := D
  rcases (by omega : d = 0 ∨ d = 1) with rfl | rfl
  · exact h3
  · exact h4
theorem zDd.nb {h : zH} {m s : Nat} {σ : zS} (D : zDd h m s σ) : (zba σ).length ≤ 10 := D.2.2.1.1
set_option maxRecDepth 100000 in
theorem S_yv {C : zK} (hC : zCld 215 zTT C) {h : zH} {n : Nat} {K : zQ} {b N x : Nat} {L : zB} (hB : zBl h b N L) (hx : x < 1000) (hin : ∃ y, zco L x = some y) (H1 : K 0 (some (.int (nI (zyv L x)))) h n) : C 6 [.ref b, .int (nI x)] h n K := by
  refine S_X0_contentOf hC hB hx (fun j v hf hv => ?_) (fun hno => ?_)
  · rw [zyv_at hf hv] at H1
    exact H1
  · obtain ⟨y, hy⟩ := hin
    rw [zco_none hno] at hy
    exact nomatch hy
set_option maxRecDepth 100000 in
theorem S_X4_decideRemoved {C : zK} (hC : zCld 215 zTT C) {h : zH} {n : Nat} {K : zQ} {m s i d : Nat} {σ : zS} {Q : zB} {pl ct : Nat → Int32} (H : zMk h m Q pl ct) (D : zDd h m s σ) (hi : i < (zba σ).length) (hd : d < 2) (hQ : Q.length < 30) (hin : zcx σ d i ≠ 4) (H1 : ∀ h' pl' ct', zMk h' m (Q ++ zkn2 σ d i) pl' ct' → zOm m h h' → pl' i = nI (zplR σ d i) → (∀ j, j ≠ i → pl' j = pl j ∧ ct' j = ct j) → (zplR σ d i ≠ 3 → ct' i = nI (zyx σ d i)) → K 0 none h' n) : C 55 [.ref m, .int (nI i), .int (nI (1 - d)), .ref s] h n K := by
  have hnb := D.nb
  have hobj := H.obj
  have hpl := H.pl
  refine zd_X4_decideRemoved hC rfl fun P hgo hF => ?_
  refine hgo [] 60 _ _ _ _ _ _ _ ?_
  conv => whnf
  have hoth : (1 : Int32) - nI (1 - d) = nI d := by
    rcases (by omega : d = 0 ∨ d = 1) with rfl | rfl <;> decide
  rw [hoth]
  repeat (first
    | (refine ⟨_, by assumption, _, rfl, ?_⟩; conv => whnf)
    | (refine ⟨_, _, by assumption, Nat.le_of_ble_eq_true rfl, ?_⟩; conv => whnf)
    | (refine ⟨_, by assumption, Nat.le_of_ble_eq_true rfl, ⟨rfl, rfl⟩, ?_⟩; conv => whnf)
    | (refine ⟨_, by assumption, ?_⟩; conv => whnf))
  refine S_X6_setCell hC hpl (by decide) (fun j' hj' e => ?_) (fun hno => absurd rfl (hno i (by omega)))
  rw [← nI_inj (show i < 2 ^ 31 by omega) (show j' < 2 ^ 31 by omega) e]
  conv => whnf
  have H2 := H.setP (f := upd pl i 3)
  have o2 : zOm m h (zupd h (m + 12) (.inl (0, 10, .inl (upd pl i 3)))) := zOm.up (by omega)
  generalize zupd h (m + 12) (.inl (0, 10, .inl (upd pl i 3))) = h2 at H2 o2 ⊢
  have D2 := D.om o2
  have hobj2 := H2.obj
  refine ⟨_, hobj2, ?_⟩
  refine S_X4_changesOf hC H2 hd ?_
  conv => whnf
  have hcx := D2.dx hd
  refine ⟨_, hcx.obj, ?_⟩
  refine S_X2_edits hC hcx hi (fun c9 => ?_) (fun c9 => ?_)
  · conv => whnf
    refine ⟨fun _ => ?_, fun q => absurd q (by decide)⟩
    conv => whnf
    refine ⟨_, hobj2, ?_⟩
    refine S_X4_addConflict hC (k := 2) H2 hQ (fun h3 H3 o3 => ?_)
    have D3 := D2.om o3
    have hobj3 := H3.obj
    have hst3 := D3.1.1
    have hB3 := D3.1.dr (d := d)
    have hpl3 := H3.pl
    have hct3 := H3.ct
    conv => whnf
    refine ⟨_, hst3, ?_⟩
    refine S_X5_choiceOrPreferred hC D3.1 (b := i) (k := 1) (by omega) ?_
    rw [zcw_ok D3.2.1 (by omega)]
    have hcw := zcw_le (σ := σ) (i := i) (k := 1)
    have hk2 : zkn2 σ d i = [(i, 2)] := by
      unfold zkn2
      rw [if_pos c9]
    rw [hk2] at H1
    conv => whnf
    refine ⟨fun q => ?_, fun q => ?_⟩
    · conv => whnf
      have hR : zplR σ d i = 3 := by
        unfold zplR
        rw [if_neg (fun z => q (by rw [z.2]))]
      refine H1 h3 _ _ H3 (o2.tr o3) ?_ (fun j hj => ⟨upd_n hj, rfl⟩) (fun z => absurd hR z)
      rw [hR, upd_s]
      rfl
    · have hq := nI_inj (a := zcw σ i 1) (b := d) (by omega) (by omega) q
      have hR : zplR σ d i = if zmv (zcx σ d i) = true then d else 2 := by
        unfold zplR
        rw [if_pos ⟨c9, hq⟩]
      rw [hR] at H1
      conv => whnf
      refine ⟨_, hobj3, _, rfl, ?_⟩
      conv => whnf
      refine ⟨_, hst3, ?_⟩
      refine S_X5_draft hC D3.1 hd ?_
      conv => whnf
      obtain ⟨f3, g3, ⟨r3, -, -⟩, -⟩ := hB3.raw
      refine ⟨_, r3, ?_⟩
      refine S_yv hC hB3 (show i < 1000 by omega) (zchc_in hin) ?_
      conv => whnf
      refine S_X6_setCell hC hct3 (by decide) (fun j' hj' e => ?_) (fun hno => absurd rfl (hno i (by omega)))
      rw [← nI_inj (show i < 2 ^ 31 by omega) (show j' < 2 ^ 31 by omega) e]
      conv => whnf
      have H4 := H3.setC (f := upd ct i (nI (zyv (zdr σ d) i)))
      have o4 : zOm m h3 (zupd h3 (m + 13) (.inl (0, 10, .inl (upd ct i (nI (zyv (zdr σ d) i)))))) := zOm.up (by omega)
      generalize zupd h3 (m + 13) (.inl (0, 10, .inl (upd ct i (nI (zyv (zdr σ d) i))))) = h4 at H4 o4 ⊢
      have D4 := D3.om o4
      have hobj4 := H4.obj
      have hpl4 := H4.pl
      have hcx4 := D4.dx hd
      refine ⟨_, hobj4, _, rfl, ?_⟩
      conv => whnf
      refine ⟨_, hobj4, ?_⟩
      refine S_X4_changesOf hC H4 hd ?_
      conv => whnf
      refine ⟨_, hcx4.obj, ?_⟩
      have fin : ∀ x : Nat, (if zmv (zcx σ d i) = true then d else 2) = x → K 0 none (zupd h4 (m + 12) (.inl (0, 10, .inl (upd (upd pl i 3) i (nI x))))) n := by
        intro x hx
        rw [hx] at H1
        refine H1 _ _ _ H4.setP (((o2.tr o3).tr o4).tr (zOm.up (by omega))) upd_s (fun j hj => ⟨by rw [upd_n hj, upd_n hj], upd_n hj⟩) (fun _ => upd_s)
      refine S_X2_moved hC hcx4 hi (fun c8 => ?_) (fun c8 => ?_)
      · conv => whnf
        refine ⟨fun q => absurd q (by decide), fun _ => ?_⟩
        conv => whnf
        refine S_X6_setCell hC hpl4 (by decide) (fun j' hj' e => ?_) (fun hno => absurd rfl (hno i (by omega)))
        rw [← nI_inj (show i < 2 ^ 31 by omega) (show j' < 2 ^ 31 by omega) e]
        conv => whnf
        exact fin d (if_pos c8)
      · conv => whnf
        refine ⟨fun _ => ?_, fun q => absurd rfl q⟩
        conv => whnf
        refine S_X6_setCell hC hpl4 (by decide) (fun j' hj' e => ?_) (fun hno => absurd rfl (hno i (by omega)))
        rw [← nI_inj (show i < 2 ^ 31 by omega) (show j' < 2 ^ 31 by omega) e]
        conv => whnf
        exact fin 2 (if_neg (by rw [c8]; decide))
  · have hR : zplR σ d i = 3 := by
      unfold zplR
      rw [if_neg (fun z => by rw [c9] at z; exact nomatch z.1)]
    have hk2 : zkn2 σ d i = [] := by
      unfold zkn2
      rw [if_neg (by rw [c9]; decide)]
    rw [hk2, List.append_nil] at H1
    conv => whnf
    refine ⟨fun q => absurd rfl q, fun _ => ?_⟩
    conv => whnf
    refine H1 h2 _ _ H2 o2 ?_ (fun j hj => ⟨upd_n hj, rfl⟩) (fun z => absurd hR z)
    rw [hR, upd_s]
    rfl
set_option maxRecDepth 100000 in
theorem S_X4_contentFromBoth {C : zK} (hC : zCld 215 zTT C) {h : zH} {n : Nat} {K : zQ} {m s i : Nat} {σ : zS} {Q : zB} {pl ct : Nat → Int32} (H : zMk h m Q pl ct) (D : zDd h m s σ) (hi : i < (zba σ).length) (hQ : Q.length < 30) (hin0 : zcx σ 0 i ≠ 4) (hin1 : zcx σ 1 i ≠ 4) (H1 : ∀ h', zMk h' m (Q ++ zkn1 σ i) pl ct → zOm m h h' → K 0 (some (.int (nI (zcnB σ i)))) h' n) : C 56 [.ref m, .int (nI i), .ref s] h n K := by
  have hnb := D.nb
  have hobj := H.obj
  have hst := D.1.1
  have hB0 := D.1.dr (d := 0)
  have hB1 := D.1.dr (d := 1)
  have hx0 := D.dx (d := 0) (by decide)
  have hx1 := D.dx (d := 1) (by decide)
  have ho0 := hx0.obj
  have ho1 := hx1.obj
  obtain ⟨f0, g0, ⟨r0, -, -⟩, -, -, hv0, hw0⟩ := hB0.raw
  obtain ⟨f1, g1, ⟨r1, -, -⟩, -, -, hv1, hw1⟩ := hB1.raw
  have yb : ∀ d, (∀ v ∈ zdr σ d, v.1 < 1000 ∧ v.2 < 1000) → zyv (zdr σ d) i < 1000 := by
    intro d hw
    unfold zyv zco
    cases e : (zdr σ d).find? (fun v => v.1 == i) with
    | none => exact (by decide : 0 < 1000)
    | some w => exact (hw w (List.mem_of_find?_eq_some e)).2
  have yb0 := yb 0 hw0
  have yb1 := yb 1 hw1
  refine zd_X4_contentFromBoth hC rfl fun P hgo hF => ?_
  refine hgo [] 60 _ _ _ _ _ _ _ ?_
  conv => whnf
  refine ⟨_, hst, _, rfl, ?_⟩
  conv => whnf
  refine ⟨_, r0, ?_⟩
  refine S_yv hC hB0 (show i < 1000 by omega) (zchc_in hin0) ?_
  conv => whnf
  refine ⟨_, hst, _, rfl, ?_⟩
  conv => whnf
  refine ⟨_, r1, ?_⟩
  refine S_yv hC hB1 (show i < 1000 by omega) (zchc_in hin1) ?_
  conv => whnf
  refine ⟨_, hobj, _, rfl, ?_⟩
  conv => whnf
  refine ⟨_, ho0, ?_⟩
  refine S_X2_edits hC hx0 hi (fun c0 => ?_) (fun c0 => ?_)
  · conv => whnf
    refine ⟨fun _ => ?_, fun q => absurd q (by decide)⟩
    conv => whnf
    refine ⟨_, hobj, _, rfl, ?_⟩
    conv => whnf
    refine ⟨_, ho1, ?_⟩
    have same : (zed (zcx σ 1 i) = true ∧ zyx σ 0 i ≠ zyx σ 1 i) = False → K 0 (some (.int (nI (zyv (zdr σ 0) i)))) h n := by
      intro z
      have k9 := H1 h (by
        unfold zkn1
        rw [if_neg (fun y => by rw [← z]; exact y.2), List.append_nil]
        exact H) zOm.rf
      unfold zcnB at k9
      rw [if_pos c0, if_neg (fun y => by rw [← z]; exact y)] at k9
      exact k9
    refine S_X2_edits hC hx1 hi (fun c1 => ?_) (fun c1 => ?_)
    · conv => whnf
      refine ⟨fun q => absurd q (by decide), fun _ => ?_⟩
      conv => whnf
      refine ⟨fun q => ?_, fun q => ?_⟩
      · have hne : zyx σ 0 i ≠ zyx σ 1 i := fun z => q (congrArg nI z)
        have e1 : zkn1 σ i = [(i, 1)] := by
          unfold zkn1
          rw [if_pos ⟨c0, c1, hne⟩]
        have e2 : zcnB σ i = if zcw σ i 0 = 0 then zyx σ 0 i else zyx σ 1 i := by
          unfold zcnB
          rw [if_pos c0, if_pos ⟨c1, hne⟩]
        rw [e1, e2] at H1
        conv => whnf
        refine ⟨_, hobj, ?_⟩
        refine S_X4_addConflict hC (k := 1) H hQ (fun h3 H3 o3 => ?_)
        have D3 := D.om o3
        conv => whnf
        refine ⟨_, D3.1.1, ?_⟩
        refine S_X5_choiceOrPreferred hC D3.1 (b := i) (k := 0) (by omega) ?_
        rw [zcw_ok D3.2.1 (by omega)]
        have hcw := zcw_le (σ := σ) (i := i) (k := 0)
        have k9 := H1 h3 H3 o3
        conv => whnf
        refine ⟨fun q2 => ?_, fun q2 => ?_⟩
        · rw [if_neg (fun z => q2 (by rw [z]; rfl))] at k9
          conv => whnf
          exact k9
        · rw [if_pos (nI_inj (a := zcw σ i 0) (b := 0) (by omega) (by decide) q2)] at k9
          conv => whnf
          exact k9
      · conv => whnf
        exact same (eq_false fun y => y.2 (nI_inj (a := zyx σ 0 i) (b := zyx σ 1 i) (show zyv (zdr σ 0) i < 2 ^ 31 by omega) (show zyv (zdr σ 1) i < 2 ^ 31 by omega) q))
    · conv => whnf
      refine ⟨fun _ => ?_, fun q => absurd rfl q⟩
      conv => whnf
      exact same (eq_false fun y => by rw [c1] at y; exact nomatch y.1)
  · conv => whnf
    refine ⟨fun q => absurd rfl q, fun _ => ?_⟩
    conv => whnf
    have k9 := H1 h (by
      unfold zkn1
      rw [if_neg (fun y => by rw [c0] at y; exact nomatch y.1), List.append_nil]
      exact H) zOm.rf
    unfold zcnB at k9
    rw [if_neg (by rw [c0]; decide)] at k9
    exact k9
set_option maxRecDepth 100000 in
theorem S_X4_numberBefore {C : zK} (hC : zCld 215 zTT C) {h : zH} {n : Nat} {K : zQ} {b N x : Nat} {L : zB} (hB : zBl h b N L) (hx : x < 1000) (hin : ∃ y, zco L x = some y) (H1 : K 0 (some (.int (zah L x))) h n) : C 58 [.int (nI x), .ref b] h n K := by
  obtain ⟨f, g, ⟨r1, -, -⟩, hl, hN, -, -⟩ := hB.raw
  refine zd_X4_numberBefore hC rfl fun P hgo hF => ?_
  refine hgo [] 20 _ _ _ _ _ _ _ ?_
  conv => whnf
  refine ⟨_, r1, ?_⟩
  refine S_X0_find hC hB hx (fun j hj => ?_) (fun hno => ?_)
  · obtain ⟨⟨v, hv, -⟩, -⟩ := id hj
    have hjl := (List.getElem?_eq_some_iff.mp hv).1
    unfold zah at H1
    rw [zix_fd hj] at H1
    conv => whnf
    refine ⟨_, r1, ?_⟩
    cases j with
    | zero =>
      refine S_X0_numberAt hC hB (fun j' w hw e => ?_) (fun hno => ?_)
      · exact absurd e.symm (fun z => nI_ne_m1 (show j' < 2 ^ 31 by have := (List.getElem?_eq_some_iff.mp hw).1; omega) (z.trans (by decide)))
      · conv => whnf
        exact H1
    | succ j =>
      obtain ⟨u, hu⟩ : ∃ u, L[j]? = some u := ⟨L[j], List.getElem?_eq_getElem (by omega)⟩
      rw [show nI (j + 1) - 1 = nI j from nI_pred j]
      refine S_numAt hC hB hu ?_
      conv => whnf
      have k9 : K 0 (some (.int (nI (znm L j)))) h n := H1
      rw [znm_at hu] at k9
      exact k9
  · obtain ⟨y, hy⟩ := hin
    rw [zco_none hno] at hy
    exact nomatch hy

