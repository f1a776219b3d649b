/-! Merge: a place, a whole decision -/
set_option maxRecDepth 100000 in
theorem S_X4_placeFromBoth {C : zK} (hC : zCld 215 zTT C) {h : zH} {n : Nat} {K : zQ} {m s i : Nat} {σ : zS} {Q : zB} {pl ct : Nat → Int32} (H : zMk h m Q pl ct) (D : zDd h m s σ) (hi : i < (zba σ).length) (hQ : Q.length < 30) (hin0 : zcx σ 0 i ≠ 4) (hin1 : zcx σ 1 i ≠ 4) (H1 : ∀ h', zMk h' m (Q ++ zkn3 σ i) pl ct → zOm m h h' → K 0 (some (.int (nI (zplB σ i)))) h' n) : C 57 [.ref m, .int (nI i), .ref s] h n K := by
  have hnb := D.nb
  have hobj := H.obj
  have hst := D.1.1
  have hB0 := D.1.dr (d := 0)
  have hB1 := D.1.dr (d := 1)
  have hx0 := D.dx (d := 0) (by decide)
  have hx1 := D.dx (d := 1) (by decide)
  have ho0 := hx0.obj
  have ho1 := hx1.obj
  refine zd_X4_placeFromBoth hC rfl fun P hgo hF => ?_
  have plain : ∀ x : Nat, ((zmv (zcx σ 0 i) = true ∧ zmv (zcx σ 1 i) = true) → zah (zd0 σ) i = zah (zd1 σ) i) → zplB σ i = x → K 0 (some (.int (nI x))) h n := by
    intro x hno hx
    have k9 := H1 h (by
      unfold zkn3
      rw [if_neg (fun y => y.2.2 (hno ⟨y.1, y.2.1⟩)), List.append_nil]
      exact H) zOm.rf
    rw [hx] at k9
    exact k9
  refine hgo [] 60 _ _ _ _ _ _ _ ?_
  conv => whnf
  refine ⟨_, hobj, _, rfl, ?_⟩
  conv => whnf
  refine ⟨_, ho0, ?_⟩
  refine S_X2_moved hC hx0 hi (fun c0 => ?_) (fun c0 => ?_)
  · conv => whnf
    refine ⟨_, hobj, _, rfl, ?_⟩
    conv => whnf
    refine ⟨_, ho1, ?_⟩
    refine S_X2_moved hC hx1 hi (fun c1 => ?_) (fun c1 => ?_)
    · conv => whnf
      refine ⟨fun _ => ?_, fun q => absurd q (by decide)⟩
      conv => whnf
      refine ⟨fun q => absurd q (by decide), fun _ => ?_⟩
      conv => whnf
      refine ⟨fun _ => ?_, fun q => absurd q (by decide)⟩
      conv => whnf
      refine ⟨_, hst, _, rfl, ?_⟩
      conv => whnf
      refine S_X4_numberBefore hC hB0 (show i < 1000 by omega) (zchc_in hin0) ?_
      conv => whnf
      refine ⟨_, hst, _, rfl, ?_⟩
      conv => whnf
      refine S_X4_numberBefore hC hB1 (show i < 1000 by omega) (zchc_in hin1) ?_
      conv => whnf
      refine ⟨fun q => ?_, fun q => ?_⟩
      · have hne : zah (zd0 σ) i ≠ zah (zd1 σ) i := q
        have e1 : zkn3 σ i = [(i, 3)] := by
          unfold zkn3
          rw [if_pos ⟨c0, c1, hne⟩]
        have e2 : zplB σ i = zcw σ i 2 := by
          unfold zplB
          rw [if_pos c0, if_pos c1, if_neg hne]
        rw [e1, e2] at H1
        conv => whnf
        refine ⟨_, hobj, ?_⟩
        refine S_X4_addConflict hC (k := 3) H hQ (fun h3 H3 o3 => ?_)
        have D3 := D.om o3
        conv => whnf
        refine ⟨_, D3.1.1, ?_⟩
        refine S_X5_choiceOrPreferred hC D3.1 (b := i) (k := 2) (by omega) ?_
        rw [zcw_ok D3.2.1 (by omega)]
        have k9 := H1 h3 H3 o3
        conv => whnf
        exact k9
      · have he : zah (zd0 σ) i = zah (zd1 σ) i := q
        conv => whnf
        exact plain 0 (fun _ => he) (by unfold zplB; rw [if_pos c0, if_pos c1, if_pos he])
    · conv => whnf
      refine ⟨fun _ => ?_, fun q => absurd q (by decide)⟩
      conv => whnf
      refine ⟨fun q => absurd q (by decide), fun _ => ?_⟩
      conv => whnf
      refine ⟨fun q => absurd rfl q, fun _ => ?_⟩
      conv => whnf
      refine ⟨fun q => absurd q (by decide), fun _ => ?_⟩
      conv => whnf
      exact plain 0 (fun y => by rw [c1] at y; exact nomatch y.2) (by unfold zplB; rw [if_pos c0, if_neg (by rw [c1]; decide)])
  · conv => whnf
    refine ⟨_, hobj, _, rfl, ?_⟩
    conv => whnf
    refine ⟨_, ho1, ?_⟩
    refine S_X2_moved hC hx1 hi (fun c1 => ?_) (fun c1 => ?_)
    · conv => whnf
      refine ⟨fun q => absurd rfl q, fun _ => ?_⟩
      conv => whnf
      refine ⟨fun _ => ?_, fun q => absurd q (by decide)⟩
      conv => whnf
      refine ⟨fun _ => ?_, fun q => absurd rfl q⟩
      conv => whnf
      refine ⟨fun _ => ?_, fun q => absurd rfl q⟩
      conv => whnf
      exact plain 1 (fun y => by rw [c0] at y; exact nomatch y.1) (by unfold zplB; rw [if_neg (by rw [c0]; decide), if_pos c1])
    · conv => whnf
      refine ⟨fun q => absurd rfl q, fun _ => ?_⟩
      conv => whnf
      refine ⟨fun q => absurd rfl q, fun _ => ?_⟩
      conv => whnf
      exact plain 2 (fun y => by rw [c0] at y; exact nomatch y.1) (by unfold zplB; rw [if_neg (by rw [c0]; decide), if_neg (by rw [c1]; decide)])
theorem zknd_le {σ : zS} {i : Nat} : (zknd σ i).length ≤ 2 := by
  have h1 : (zkn1 σ i).length ≤ 1 := by unfold zkn1; split <;> simp
  have h2 : ∀ d, (zkn2 σ d i).length ≤ 1 := by intro d; unfold zkn2; split <;> simp
  have h3 : (zkn3 σ i).length ≤ 1 := by unfold zkn3; split <;> simp
  have a0 := h2 0
  have a1 := h2 1
  unfold zknd
  split
  · split
    · exact Nat.zero_le _
    · omega
  · split
    · omega
    · rw [List.length_append]; omega
theorem zkn1_le {σ : zS} {i : Nat} : (zkn1 σ i).length ≤ 1 := by unfold zkn1; split <;> simp
set_option maxRecDepth 100000 in
theorem S_X4_decide {C : zK} (hC : zCld 215 zTT C) {h : zH} {n : Nat} {K : zQ} {m s i : Nat} {σ : zS} {Q : zB} {pl ct : Nat → Int32} (H : zMk h m Q pl ct) (D : zDd h m s σ) (hi : i < (zba σ).length) (hQ : Q.length < 29) (H1 : ∀ h' pl' ct', zMk h' m (Q ++ zknd σ i) pl' ct' → zOm m h h' → pl' i = nI (zplc σ i) → (∀ j, j ≠ i → pl' j = pl j ∧ ct' j = ct j) → (zplc σ i ≠ 3 → ct' i = nI (zcnt σ i)) → K 0 none h' n) : C 54 [.ref m, .int (nI i), .ref s] h n K := by
  have hnb := D.nb
  have hobj := H.obj
  have hst := D.1.1
  have hpl := H.pl
  have hct := H.ct
  have hx0 := D.dx (d := 0) (by decide)
  have hx1 := D.dx (d := 1) (by decide)
  have ho0 := hx0.obj
  have ho1 := hx1.obj
  refine zd_X4_decide hC rfl fun P hgo hF => ?_
  refine hgo [] 60 _ _ _ _ _ _ _ ?_
  conv => whnf
  refine ⟨_, hobj, _, rfl, ?_⟩
  conv => whnf
  refine ⟨_, ho0, ?_⟩
  refine S_X2_removes hC hx0 hi (fun c0 => ?_) (fun c0 => ?_)
  · conv => whnf
    refine ⟨_, hobj, _, rfl, ?_⟩
    conv => whnf
    refine ⟨_, ho1, ?_⟩
    refine S_X2_removes hC hx1 hi (fun c1 => ?_) (fun c1 => ?_)
    · conv => whnf
      refine ⟨fun q => absurd q (by decide), fun _ => ?_⟩
      conv => whnf
      refine ⟨fun q => absurd q (by decide), fun _ => ?_⟩
      conv => whnf
      repeat (first
        | (refine ⟨_, by assumption, _, rfl, ?_⟩; conv => whnf)
        | (refine ⟨_, _, by assumption, Nat.le_of_ble_eq_true rfl, ?_⟩; conv => whnf)
        | (refine ⟨_, by assumption, Nat.le_of_ble_eq_true rfl, ⟨rfl, rfl⟩, ?_⟩; conv => whnf)
        | (refine ⟨_, by assumption, ?_⟩; conv => whnf))
      have e1 : zknd σ i = [] := by
        unfold zknd
        rw [if_pos c0, if_pos c1]
      have e2 : zplc σ i = 3 := by
        unfold zplc
        rw [if_pos c0, if_pos c1]
      rw [e1, e2, List.append_nil] at H1
      refine S_X6_setCell hC hpl (by decide) (fun j' hj' e => ?_) (fun hno => absurd rfl (hno i (by omega)))
      rw [← nI_inj (show i < 2 ^ 31 by omega) (show j' < 2 ^ 31 by omega) e]
      conv => whnf
      refine H1 _ _ _ H.setP (zOm.up (by omega)) ?_ (fun j hj => ⟨upd_n hj, rfl⟩) (fun z => absurd rfl z)
      rw [upd_s]
      rfl
    · have e1 : zknd σ i = zkn2 σ 1 i := by
        unfold zknd
        rw [if_pos c0, if_neg c1]
      have e2 : zplc σ i = zplR σ 1 i := by
        unfold zplc
        rw [if_pos c0, if_neg c1]
      have e3 : zcnt σ i = zyx σ 1 i := by
        unfold zcnt
        rw [if_pos c0]
      rw [e1, e2, e3] at H1
      conv => whnf
      refine ⟨fun q => absurd q (by decide), fun _ => ?_⟩
      conv => whnf
      refine ⟨fun _ => ?_, fun q => absurd rfl q⟩
      conv => whnf
      refine ⟨fun _ => ?_, fun q => absurd q (by decide)⟩
      conv => whnf
      refine ⟨fun q => absurd q (by decide), fun _ => ?_⟩
      conv => whnf
      refine ⟨_, hobj, ?_⟩
      refine S_X4_decideRemoved hC (d := 1) H D hi (by decide) (by omega) c1 (fun h3 pl3 ct3 H3 o3 a1 a2 a3 => ?_)
      conv => whnf
      exact H1 h3 pl3 ct3 H3 o3 a1 a2 a3
  · conv => whnf
    refine ⟨_, hobj, _, rfl, ?_⟩
    conv => whnf
    refine ⟨_, ho1, ?_⟩
    refine S_X2_removes hC hx1 hi (fun c1 => ?_) (fun c1 => ?_)
    · have e1 : zknd σ i = zkn2 σ 0 i := by
        unfold zknd
        rw [if_neg c0, if_pos c1]
      have e2 : zplc σ i = zplR σ 0 i := by
        unfold zplc
        rw [if_neg c0, if_pos c1]
      have e3 : zcnt σ i = zyx σ 0 i := by
        unfold zcnt
        rw [if_neg c0, if_pos c1]
      rw [e1, e2, e3] at H1
      conv => whnf
      refine ⟨fun _ => ?_, fun q => absurd rfl q⟩
      conv => whnf
      refine ⟨fun q => absurd rfl q, fun _ => ?_⟩
      conv => whnf
      refine ⟨fun q => absurd q (by decide), fun _ => ?_⟩
      conv => whnf
      refine ⟨fun _ => ?_, fun q => absurd rfl q⟩
      conv => whnf
      refine ⟨_, hobj, ?_⟩
      refine S_X4_decideRemoved hC (d := 0) H D hi (by decide) (by omega) c0 (fun h3 pl3 ct3 H3 o3 a1 a2 a3 => ?_)
      conv => whnf
      exact H1 h3 pl3 ct3 H3 o3 a1 a2 a3
    · have e1 : zknd σ i = zkn1 σ i ++ zkn3 σ i := by
        unfold zknd
        rw [if_neg c0, if_neg c1]
      have e2 : zplc σ i = zplB σ i := by
        unfold zplc
        rw [if_neg c0, if_neg c1]
      have e3 : zcnt σ i = zcnB σ i := by
        unfold zcnt
        rw [if_neg c0, if_neg c1]
      rw [e1, e2, e3, ← List.append_assoc] at H1
      conv => whnf
      refine ⟨fun _ => ?_, fun q => absurd rfl q⟩
      conv => whnf
      refine ⟨fun q => absurd rfl q, fun _ => ?_⟩
      conv => whnf
      refine ⟨fun _ => ?_, fun q => absurd rfl q⟩
      conv => whnf
      refine ⟨_, hobj, _, rfl, ?_⟩
      conv => whnf
      refine ⟨_, hobj, ?_⟩
      refine S_X4_contentFromBoth hC H D hi (by omega) c0 c1 (fun h2 H2 o2 => ?_)
      have D2 := D.om o2
      have hct2 := H2.ct
      conv => whnf
      refine S_X6_setCell hC hct2 (by decide) (fun j' hj' e => ?_) (fun hno => absurd rfl (hno i (by omega)))
      rw [← nI_inj (show i < 2 ^ 31 by omega) (show j' < 2 ^ 31 by omega) e]
      conv => whnf
      have H3 := H2.setC (f := upd ct i (nI (zcnB σ i)))
      have o3 : zOm m h2 (zupd h2 (m + 13) (.inl (0, 10, .inl (upd ct i (nI (zcnB σ i)))))) := zOm.up (by omega)
      generalize zupd h2 (m + 13) (.inl (0, 10, .inl (upd ct i (nI (zcnB σ i))))) = h3 at H3 o3 ⊢
      have D3 := D2.om o3
      have hobj3 := H3.obj
      refine ⟨_, hobj3, _, rfl, ?_⟩
      conv => whnf
      refine ⟨_, hobj3, ?_⟩
      have hk1 := zkn1_le (σ := σ) (i := i)
      refine S_X4_placeFromBoth hC H3 D3 hi (by rw [List.length_append]; omega) c0 c1 (fun h4 H4 o4 => ?_)
      have hpl4 := H4.pl
      conv => whnf
      refine S_X6_setCell hC hpl4 (by decide) (fun j' hj' e => ?_) (fun hno => absurd rfl (hno i (by omega)))
      rw [← nI_inj (show i < 2 ^ 31 by omega) (show j' < 2 ^ 31 by omega) e]
      conv => whnf
      exact H1 _ _ _ H4.setP (((o2.tr o3).tr o4).tr (zOm.up (by omega))) upd_s (fun j hj => ⟨upd_n hj, upd_n hj⟩) (fun _ => upd_s)

