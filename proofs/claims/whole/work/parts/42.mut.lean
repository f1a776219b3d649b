/-! The whole program: calls that change a draft -/
theorem zX.kept {h h1 : zH} {A : zA} {nx : Nat} (H : zX h A) (hk : zHis h1 12 nx ((A.1 :: A.2.1).take 6)) (o1 : zOff 12 80 h h1) : zX h1 (A.1, (A.1 :: A.2.1).take 6, A.2.2) := by
  obtain ⟨h1', h2, -, h4, ⟨q, h5⟩, h6⟩ := H
  obtain ⟨w1, w2, w3, w4, w5⟩ := h6
  refine ⟨(o1 _ (by omega)).trans h1', h2.off o1 (by omega), ⟨nx, hk⟩, h4.off o1 (by omega), ⟨q, h5.off o1 (by omega)⟩, w1, fun σ hs => ?_, ?_, w4, w5⟩
  · rcases List.mem_cons.mp (List.mem_of_mem_take hs) with e | e
    · rw [e]; exact w1
    · exact w2 σ e
  · show ((A.1 :: A.2.1).take 6).length ≤ 6
    rw [List.length_take]
    omega
theorem zX.put {h h1 : zH} {A : zA} {σ : zS} (H : zX h A) (hs : zSta h1 1 σ) (o1 : zOff 1 12 h h1) (W : zwf σ) : zX h1 (σ, A.2.1, A.2.2) := by
  obtain ⟨h1', h2, ⟨nx, h3⟩, h4, ⟨q, h5⟩, w1, w2⟩ := H
  exact ⟨(o1 _ (by omega)).trans h1', hs, ⟨nx, h3.off o1 (by omega)⟩, h4.off o1 (by omega), ⟨q, h5.off o1 (by omega)⟩, W, w2⟩
theorem zX.mer {h h1 : zH} {A : zA} (H : zX h A) (hm : zMsh h1 80) (o1 : zOff 80 94 h h1) : zX h1 A := by
  obtain ⟨h1', h2, ⟨nx, h3⟩, h4, ⟨q, h5⟩, w⟩ := H
  exact ⟨(o1 _ (by omega)).trans h1', h2.off o1 (by omega), ⟨nx, h3.off o1 (by omega)⟩, hm, ⟨q, h5.off o1 (by omega)⟩, w⟩
theorem zX.txt {h h1 : zH} {A : zA} {T : List Int32} {q : zq} (H : zX h A) (ht : zTx h1 94 T q) (o1 : zOff 94 96 h h1) (W : T.length ≤ 60 ∧ ∀ c ∈ T, (33 : Int32) ≤ c ∧ c ≤ 126) : zX h1 (A.1, A.2.1, T) := by
  obtain ⟨h1', h2, ⟨nx, h3⟩, h4, -, w1, w2, w3, -⟩ := H
  exact ⟨(o1 _ (by omega)).trans h1', h2.off o1 (by omega), ⟨nx, h3.off o1 (by omega)⟩, h4.off o1 (by omega), ⟨q, ht⟩, w1, w2, w3, W⟩
set_option maxRecDepth 100000 in
theorem S_xkeep {C : zK} (hC : zCld 215 zTT C) {h : zH} {n : Nat} {K : zQ} {A : zA} (H : zX h A) (H1 : ∀ h', zX h' (A.1, (A.1 :: A.2.1).take 6, A.2.2) → zOff 0 96 h h' → K 0 none h' n) : C 43 [.ref 12, .ref 1] h n K := by
  obtain ⟨nx, hh⟩ := H.2.2.1
  refine S_X3_keep hC hh H.st (Or.inl (by decide)) (fun h' nx' hk ho => ?_)
  exact H1 h' (H.kept hk ho) (ho.wd (by omega) (by omega))
set_option maxRecDepth 100000 in
theorem S_xrep {C : zK} (hC : zCld 215 zTT C) {h : zH} {n : Nat} {K : zQ} {A : zA} (H : zX h A) {d p c : Nat} (hd : d < 2) (hp : p < (zdr A.1 d).length) (hc : c < 100) (W : zwf (zsd A.1 d ((zdr A.1 d).set p (znm (zdr A.1 d) p, c)))) (H1 : ∀ h', zX h' (zsd A.1 d ((zdr A.1 d).set p (znm (zdr A.1 d) p, c)), A.2.1, A.2.2) → zOff 1 12 h h' → K 0 (some (.int (nI (zbc (zdr A.1 d) p)))) h' n) : C 7 [.ref (zda 1 d), .int (nI p), .int (nI c)] h n K := by
  obtain ⟨u, a1, a2, a3, a4⟩ := znm_lt hp
  have hda := zda_in 1 d
  rw [a3] at W H1
  rw [a4] at H1
  refine S_X0_replaceContent hC (H.st.dr (d := d)) a1 (by omega) (fun h' hB ho => ?_)
  exact H1 h' (H.put (H.st.setd hB ho) (ho.wd (by omega) (by omega)) W) (ho.wd (by omega) (by omega))
set_option maxRecDepth 100000 in
theorem S_xshift {C : zK} (hC : zCld 215 zTT C) {h : zH} {n : Nat} {K : zQ} {A : zA} (H : zX h A) {d f t : Nat} (hd : d < 2) (hf : f < (zdr A.1 d).length) (ht : t < (zdr A.1 d).length) (W : zwf (zsd A.1 d (((zdr A.1 d).eraseIdx f).insertIdx t (znm (zdr A.1 d) f, zbc (zdr A.1 d) f)))) (H1 : ∀ h', zX h' (zsd A.1 d (((zdr A.1 d).eraseIdx f).insertIdx t (znm (zdr A.1 d) f, zbc (zdr A.1 d) f)), A.2.1, A.2.2) → zOff 1 12 h h' → K 0 (some (.int (nI (znm (zdr A.1 d) f)))) h' n) : C 11 [.ref (zda 1 d), .int (nI f), .int (nI t)] h n K := by
  obtain ⟨u, a1, a2, a3, a4⟩ := znm_lt hf
  have hda := zda_in 1 d
  rw [a3, a4] at W H1
  refine S_X0_shift hC (H.st.dr (d := d)) a1 ht (fun h' hB ho => ?_)
  exact H1 h' (H.put (H.st.setd hB ho) (ho.wd (by omega) (by omega)) W) (ho.wd (by omega) (by omega))
set_option maxRecDepth 100000 in
theorem S_xtake {C : zK} (hC : zCld 215 zTT C) {h : zH} {n : Nat} {K : zQ} {A : zA} (H : zX h A) {d p : Nat} (hd : d < 2) (hp : p < (zdr A.1 d).length) (W : zwf (zsd A.1 d ((zdr A.1 d).eraseIdx p))) (H1 : ∀ h', zX h' (zsd A.1 d ((zdr A.1 d).eraseIdx p), A.2.1, A.2.2) → zOff 1 12 h h' → K 0 (some (.int (nI (znm (zdr A.1 d) p)))) h' n) : C 10 [.ref (zda 1 d), .int (nI p)] h n K := by
  obtain ⟨u, a1, a2, a3, a4⟩ := znm_lt hp
  have hda := zda_in 1 d
  rw [a3] at H1
  refine S_X0_takeOut hC (H.st.dr (d := d)) a1 (fun h' hB ho => ?_)
  exact H1 h' (H.put (H.st.setd hB ho) (ho.wd (by omega) (by omega)) W) (ho.wd (by omega) (by omega))
set_option maxRecDepth 100000 in
theorem S_xput {C : zK} (hC : zCld 215 zTT C) {h : zH} {n : Nat} {K : zQ} {A : zA} (H : zX h A) {d p c : Nat} (hd : d < 2) (hp : p < (zdr A.1 d).length + 1) (hc : c < 100) (hr : ¬ ((zdr A.1 d).length = 15 ∨ zus A.1 = 30)) (W : zwf (zsd (zba A.1, zd0 A.1, zd1 A.1, zus A.1 + 1, zpf A.1, zac A.1, zch A.1) d ((zdr A.1 d).insertIdx p (zus A.1, c)))) (H1 : ∀ h', zX h' (zsd (zba A.1, zd0 A.1, zd1 A.1, zus A.1 + 1, zpf A.1, zac A.1, zch A.1) d ((zdr A.1 d).insertIdx p (zus A.1, c)), A.2.1, A.2.2) → zOff 1 12 h h' → K 0 (some (.int (nI (zus A.1)))) h' n) : C 66 [.ref 1, .int (nI d), .int (nI p), .int (nI c)] h n K := by
  have w3 := H.2.2.2.2.2.1.2.2.1
  obtain ⟨f, g, -, hlen, hN, -⟩ := (H.st.dr (d := d)).raw
  have h15 : (zdr A.1 d).length < 15 := by
    have : (zdr A.1 d).length ≠ 15 := fun z => hr (Or.inl z)
    omega
  refine S_X5_putNewBlock hC H.st (by omega) hd (by omega) h15 (by omega) (fun h' hS ho => ?_)
  exact H1 h' (H.put hS (ho.wd (by omega) (by omega)) W) (ho.wd (by omega) (by omega))
theorem zcE_cs (d p c : Int32) (σ : zS) : zcE d p c σ = (1, σ, 0) ∨ zcE d p c σ = (2, σ, 0) ∨ ∃ d' p' c', d = nI d' ∧ d' < 2 ∧ p = nI p' ∧ p' < (zdr σ d').length ∧ c = nI c' ∧ c' < 100 ∧ zcE d p c σ = (0, zsd σ d' ((zdr σ d').set p' (znm (zdr σ d') p', c')), nI (zbc (zdr σ d') p')) := by
  unfold zcE
  cases e : zps d 2 with
  | none => exact Or.inl rfl
  | some d' =>
    cases e2 : zps p (zdr σ d').length with
    | none => simp only [e2]; exact Or.inl trivial
    | some p' =>
      cases e3 : zps c 100 with
      | none => simp only [e2, e3]; exact Or.inr (Or.inl trivial)
      | some c' =>
        simp only [e2, e3]
        exact Or.inr (Or.inr ⟨d', p', c', (zps_some e).1, (zps_some e).2, (zps_some e2).1, (zps_some e2).2, (zps_some e3).1, (zps_some e3).2, rfl⟩)
theorem zcM_cs (d f t : Int32) (σ : zS) : zcM d f t σ = (1, σ, 0) ∨ ∃ d' f' t', d = nI d' ∧ d' < 2 ∧ f = nI f' ∧ f' < (zdr σ d').length ∧ t = nI t' ∧ t' < (zdr σ d').length ∧ zcM d f t σ = (0, zsd σ d' (((zdr σ d').eraseIdx f').insertIdx t' (znm (zdr σ d') f', zbc (zdr σ d') f')), nI (znm (zdr σ d') f')) := by
  unfold zcM
  cases e : zps d 2 with
  | none => exact Or.inl rfl
  | some d' =>
    cases e2 : zps f (zdr σ d').length with
    | none => simp only [e2]; exact Or.inl trivial
    | some p' =>
      cases e3 : zps t (zdr σ d').length with
      | none => simp only [e2, e3]; exact Or.inl trivial
      | some c' =>
        simp only [e2, e3]
        exact Or.inr ⟨d', p', c', (zps_some e).1, (zps_some e).2, (zps_some e2).1, (zps_some e2).2, (zps_some e3).1, (zps_some e3).2, rfl⟩
theorem zcR_cs (d p : Int32) (σ : zS) : zcR d p σ = (1, σ, 0) ∨ ∃ d' p', d = nI d' ∧ d' < 2 ∧ p = nI p' ∧ p' < (zdr σ d').length ∧ zcR d p σ = (0, zsd σ d' ((zdr σ d').eraseIdx p'), nI (znm (zdr σ d') p')) := by
  unfold zcR
  cases e : zps d 2 with
  | none => exact Or.inl rfl
  | some d' =>
    cases e2 : zps p (zdr σ d').length with
    | none => simp only [e2]; exact Or.inl trivial
    | some p' =>
      simp only [e2]
      exact Or.inr ⟨d', p', (zps_some e).1, (zps_some e).2, (zps_some e2).1, (zps_some e2).2, rfl⟩
theorem zcI_cs (d p c : Int32) (σ : zS) : zcI d p c σ = (1, σ, 0) ∨ zcI d p c σ = (2, σ, 0) ∨ zcI d p c σ = (3, σ, 0) ∨ ∃ d' p' c', d = nI d' ∧ d' < 2 ∧ p = nI p' ∧ p' < (zdr σ d').length + 1 ∧ c = nI c' ∧ c' < 100 ∧ ¬ ((zdr σ d').length = 15 ∨ zus σ = 30) ∧ zcI d p c σ = (0, zsd (zba σ, zd0 σ, zd1 σ, zus σ + 1, zpf σ, zac σ, zch σ) d' ((zdr σ d').insertIdx p' (zus σ, c')), nI (zus σ)) := by
  unfold zcI
  cases e : zps d 2 with
  | none => exact Or.inl rfl
  | some d' =>
    cases e2 : zps p ((zdr σ d').length + 1) with
    | none => simp only [e2]; exact Or.inl trivial
    | some p' =>
      cases e3 : zps c 100 with
      | none => simp only [e2, e3]; exact Or.inr (Or.inl trivial)
      | some c' =>
        simp only [e2, e3]
        by_cases c9 : (zdr σ d').length = 15 ∨ zus σ = 30
        · rw [if_pos c9]; exact Or.inr (Or.inr (Or.inl rfl))
        · rw [if_neg c9]
          exact Or.inr (Or.inr (Or.inr ⟨d', p', c', (zps_some e).1, (zps_some e).2, (zps_some e2).1, (zps_some e2).2, (zps_some e3).1, (zps_some e3).2, c9, rfl⟩))
set_option maxRecDepth 100000 in
theorem S_X6_edit {C : zK} (hC : zCld 215 zTT C) {h : zH} {n : Nat} {K : zQ} {A : zA} (H : zX h A) {d p c : Int32} (H1 : ∀ h', zX h' (zoC (zcE d p c A.1) A).2.1 → zOff 0 96 h h' → zRet [2, 0] (zoC (zcE d p c A.1) A).1 (.int (zoC (zcE d p c A.1) A).2.2) K h' n) : C 76 [.ref 0, .int d, .int p, .int c] h n K := by
  have hob := H.1
  obtain ⟨nx, hH⟩ := H.2.2.1
  have hh := hH.1
  refine zd_X6_edit hC rfl fun P hgo hF => ?_
  refine hgo [] 40 _ _ _ _ _ _ _ ?_
  conv => whnf
  refine ⟨_, hob, ?_⟩
  refine S_X6_editFault hC H ?_
  have W' := zcE_wf (d := d) (p := p) (c := c) H.2.2.2.2.2.1
  rcases zcE_cs d p c A.1 with e | e | ⟨d', p', c', a1, a2, a3, a4, a5, a6, e⟩
  · rw [e] at H1 ⊢
    dsimp only
    conv => whnf
    refine ⟨fun q => absurd rfl q, fun _ => ?_⟩
    conv => whnf
    exact ⟨rfl, H1 h H zOff.rf⟩
  · rw [e] at H1 ⊢
    dsimp only
    conv => whnf
    refine ⟨fun _ => ?_, fun q => absurd q (by decide)⟩
    conv => whnf
    refine ⟨fun q => absurd rfl q, fun _ => ?_⟩
    conv => whnf
    exact ⟨rfl, H1 h H zOff.rf⟩
  · rw [e] at H1 W' ⊢
    dsimp only
    conv => whnf
    refine ⟨fun _ => ?_, fun q => absurd q (by decide)⟩
    conv => whnf
    refine ⟨fun _ => ?_, fun q => absurd q (by decide)⟩
    conv => whnf
    repeat (first
      | (refine ⟨_, by assumption, _, rfl, ?_⟩; conv => whnf)
      | (refine ⟨_, _, by assumption, Nat.le_of_ble_eq_true rfl, ?_⟩; conv => whnf)
      | (refine ⟨_, by assumption, Nat.le_of_ble_eq_true rfl, ⟨rfl, rfl⟩, ?_⟩; conv => whnf)
      | (refine ⟨_, by assumption, ?_⟩; conv => whnf))
    refine S_xkeep hC H (fun h2 H2 o2 => ?_)
    have ob2 := H2.1
    have st2 := H2.st.1
    obtain ⟨f, g, ⟨r2, -, -⟩, -⟩ := (H2.st.dr (d := d')).raw
    conv => whnf
    repeat (first
      | (refine ⟨_, by assumption, _, rfl, ?_⟩; conv => whnf)
      | (refine ⟨_, _, by assumption, Nat.le_of_ble_eq_true rfl, ?_⟩; conv => whnf)
      | (refine ⟨_, by assumption, Nat.le_of_ble_eq_true rfl, ⟨rfl, rfl⟩, ?_⟩; conv => whnf)
      | (refine ⟨_, by assumption, ?_⟩; conv => whnf))
    rw [a1]
    refine S_X5_draft hC H2.st a2 ?_
    conv => whnf
    repeat (first
      | (refine ⟨_, by assumption, _, rfl, ?_⟩; conv => whnf)
      | (refine ⟨_, _, by assumption, Nat.le_of_ble_eq_true rfl, ?_⟩; conv => whnf)
      | (refine ⟨_, by assumption, Nat.le_of_ble_eq_true rfl, ⟨rfl, rfl⟩, ?_⟩; conv => whnf)
      | (refine ⟨_, by assumption, ?_⟩; conv => whnf))
    rw [a3, a5]
    refine S_xrep hC H2 a2 a4 a6 W' (fun h3 H3 o3 => ?_)
    conv => whnf
    exact H1 h3 H3 (o2.tr (o3.wd (by omega) (by omega)))
set_option maxRecDepth 100000 in
theorem S_X6_move {C : zK} (hC : zCld 215 zTT C) {h : zH} {n : Nat} {K : zQ} {A : zA} (H : zX h A) {d f t : Int32} (H1 : ∀ h', zX h' (zoC (zcM d f t A.1) A).2.1 → zOff 0 96 h h' → zRet [2] (zoC (zcM d f t A.1) A).1 (.int (zoC (zcM d f t A.1) A).2.2) K h' n) : C 77 [.ref 0, .int d, .int f, .int t] h n K := by
  have hob := H.1
  obtain ⟨nx, hH⟩ := H.2.2.1
  have hh := hH.1
  refine zd_X6_move hC rfl fun P hgo hF => ?_
  refine hgo [] 40 _ _ _ _ _ _ _ ?_
  conv => whnf
  refine ⟨_, hob, ?_⟩
  refine S_X6_moveFault hC H ?_
  have W' := zcM_wf (d := d) (f := f) (t := t) H.2.2.2.2.2.1
  rcases zcM_cs d f t A.1 with e | ⟨d', p', c', a1, a2, a3, a4, a5, a6, e⟩
  · rw [e] at H1 ⊢
    dsimp only
    conv => whnf
    refine ⟨fun q => absurd q (by decide), fun _ => ?_⟩
    conv => whnf
    exact ⟨rfl, H1 h H zOff.rf⟩
  · rw [e] at H1 W' ⊢
    dsimp only
    conv => whnf
    refine ⟨fun _ => ?_, fun q => absurd rfl q⟩
    conv => whnf
    repeat (first
      | (refine ⟨_, by assumption, _, rfl, ?_⟩; conv => whnf)
      | (refine ⟨_, _, by assumption, Nat.le_of_ble_eq_true rfl, ?_⟩; conv => whnf)
      | (refine ⟨_, by assumption, Nat.le_of_ble_eq_true rfl, ⟨rfl, rfl⟩, ?_⟩; conv => whnf)
      | (refine ⟨_, by assumption, ?_⟩; conv => whnf))
    refine S_xkeep hC H (fun h2 H2 o2 => ?_)
    have ob2 := H2.1
    have st2 := H2.st.1
    obtain ⟨f, g, ⟨r2, -, -⟩, -⟩ := (H2.st.dr (d := d')).raw
    conv => whnf
    repeat (first
      | (refine ⟨_, by assumption, _, rfl, ?_⟩; conv => whnf)
      | (refine ⟨_, _, by assumption, Nat.le_of_ble_eq_true rfl, ?_⟩; conv => whnf)
      | (refine ⟨_, by assumption, Nat.le_of_ble_eq_true rfl, ⟨rfl, rfl⟩, ?_⟩; conv => whnf)
      | (refine ⟨_, by assumption, ?_⟩; conv => whnf))
    rw [a1]
    refine S_X5_draft hC H2.st a2 ?_
    conv => whnf
    repeat (first
      | (refine ⟨_, by assumption, _, rfl, ?_⟩; conv => whnf)
      | (refine ⟨_, _, by assumption, Nat.le_of_ble_eq_true rfl, ?_⟩; conv => whnf)
      | (refine ⟨_, by assumption, Nat.le_of_ble_eq_true rfl, ⟨rfl, rfl⟩, ?_⟩; conv => whnf)
      | (refine ⟨_, by assumption, ?_⟩; conv => whnf))
    rw [a3, a5]
    refine S_xshift hC H2 a2 a4 a6 W' (fun h3 H3 o3 => ?_)
    conv => whnf
    exact H1 h3 H3 (o2.tr (o3.wd (by omega) (by omega)))
set_option maxRecDepth 100000 in
theorem S_X6_remove {C : zK} (hC : zCld 215 zTT C) {h : zH} {n : Nat} {K : zQ} {A : zA} (H : zX h A) {d p : Int32} (H1 : ∀ h', zX h' (zoC (zcR d p A.1) A).2.1 → zOff 0 96 h h' → zRet [2] (zoC (zcR d p A.1) A).1 (.int (zoC (zcR d p A.1) A).2.2) K h' n) : C 79 [.ref 0, .int d, .int p] h n K := by
  have hob := H.1
  obtain ⟨nx, hH⟩ := H.2.2.1
  have hh := hH.1
  refine zd_X6_remove hC rfl fun P hgo hF => ?_
  refine hgo [] 40 _ _ _ _ _ _ _ ?_
  conv => whnf
  refine ⟨_, hob, ?_⟩
  refine S_X6_removeFault hC H ?_
  have W' := zcR_wf (d := d) (p := p) H.2.2.2.2.2.1
  rcases zcR_cs d p A.1 with e | ⟨d', p', a1, a2, a3, a4, e⟩
  · rw [e] at H1 ⊢
    dsimp only
    conv => whnf
    refine ⟨fun q => absurd q (by decide), fun _ => ?_⟩
    conv => whnf
    exact ⟨rfl, H1 h H zOff.rf⟩
  · rw [e] at H1 W' ⊢
    dsimp only
    conv => whnf
    refine ⟨fun _ => ?_, fun q => absurd rfl q⟩
    conv => whnf
    repeat (first
      | (refine ⟨_, by assumption, _, rfl, ?_⟩; conv => whnf)
      | (refine ⟨_, _, by assumption, Nat.le_of_ble_eq_true rfl, ?_⟩; conv => whnf)
      | (refine ⟨_, by assumption, Nat.le_of_ble_eq_true rfl, ⟨rfl, rfl⟩, ?_⟩; conv => whnf)
      | (refine ⟨_, by assumption, ?_⟩; conv => whnf))
    refine S_xkeep hC H (fun h2 H2 o2 => ?_)
    have ob2 := H2.1
    have st2 := H2.st.1
    obtain ⟨f, g, ⟨r2, -, -⟩, -⟩ := (H2.st.dr (d := d')).raw
    conv => whnf
    repeat (first
      | (refine ⟨_, by assumption, _, rfl, ?_⟩; conv => whnf)
      | (refine ⟨_, _, by assumption, Nat.le_of_ble_eq_true rfl, ?_⟩; conv => whnf)
      | (refine ⟨_, by assumption, Nat.le_of_ble_eq_true rfl, ⟨rfl, rfl⟩, ?_⟩; conv => whnf)
      | (refine ⟨_, by assumption, ?_⟩; conv => whnf))
    rw [a1]
    refine S_X5_draft hC H2.st a2 ?_
    conv => whnf
    repeat (first
      | (refine ⟨_, by assumption, _, rfl, ?_⟩; conv => whnf)
      | (refine ⟨_, _, by assumption, Nat.le_of_ble_eq_true rfl, ?_⟩; conv => whnf)
      | (refine ⟨_, by assumption, Nat.le_of_ble_eq_true rfl, ⟨rfl, rfl⟩, ?_⟩; conv => whnf)
      | (refine ⟨_, by assumption, ?_⟩; conv => whnf))
    rw [a3]
    refine S_xtake hC H2 a2 a4 W' (fun h3 H3 o3 => ?_)
    conv => whnf
    exact H1 h3 H3 (o2.tr (o3.wd (by omega) (by omega)))
set_option maxRecDepth 100000 in
theorem S_X6_insert {C : zK} (hC : zCld 215 zTT C) {h : zH} {n : Nat} {K : zQ} {A : zA} (H : zX h A) {d p c : Int32} (H1 : ∀ h', zX h' (zoC (zcI d p c A.1) A).2.1 → zOff 0 96 h h' → zRet [2, 0, 1] (zoC (zcI d p c A.1) A).1 (.int (zoC (zcI d p c A.1) A).2.2) K h' n) : C 78 [.ref 0, .int d, .int p, .int c] h n K := by
  have hob := H.1
  obtain ⟨nx, hH⟩ := H.2.2.1
  have hh := hH.1
  refine zd_X6_insert hC rfl fun P hgo hF => ?_
  refine hgo [] 40 _ _ _ _ _ _ _ ?_
  conv => whnf
  refine ⟨_, hob, ?_⟩
  refine S_X6_insertFault hC H ?_
  have W' := zcI_wf (d := d) (p := p) (c := c) H.2.2.2.2.2.1
  rcases zcI_cs d p c A.1 with e | e | e | ⟨d', p', c', a1, a2, a3, a4, a5, a6, a7, e⟩
  · rw [e] at H1 ⊢
    dsimp only
    conv => whnf
    refine ⟨fun q => absurd rfl q, fun _ => ?_⟩
    conv => whnf
    exact ⟨rfl, H1 h H zOff.rf⟩
  · rw [e] at H1 ⊢
    dsimp only
    conv => whnf
    refine ⟨fun _ => ?_, fun q => absurd q (by decide)⟩
    conv => whnf
    refine ⟨fun q => absurd rfl q, fun _ => ?_⟩
    conv => whnf
    exact ⟨rfl, H1 h H zOff.rf⟩
  · rw [e] at H1 ⊢
    dsimp only
    conv => whnf
    refine ⟨fun _ => ?_, fun q => absurd q (by decide)⟩
    conv => whnf
    refine ⟨fun _ => ?_, fun q => absurd q (by decide)⟩
    conv => whnf
    refine ⟨fun q => absurd rfl q, fun _ => ?_⟩
    conv => whnf
    exact ⟨rfl, H1 h H zOff.rf⟩
  · rw [e] at H1 W' ⊢
    dsimp only
    conv => whnf
    refine ⟨fun _ => ?_, fun q => absurd q (by decide)⟩
    conv => whnf
    refine ⟨fun _ => ?_, fun q => absurd q (by decide)⟩
    conv => whnf
    refine ⟨fun _ => ?_, fun q => absurd q (by decide)⟩
    conv => whnf
    repeat (first
      | (refine ⟨_, by assumption, _, rfl, ?_⟩; conv => whnf)
      | (refine ⟨_, _, by assumption, Nat.le_of_ble_eq_true rfl, ?_⟩; conv => whnf)
      | (refine ⟨_, by assumption, Nat.le_of_ble_eq_true rfl, ⟨rfl, rfl⟩, ?_⟩; conv => whnf)
      | (refine ⟨_, by assumption, ?_⟩; conv => whnf))
    refine S_xkeep hC H (fun h2 H2 o2 => ?_)
    have ob2 := H2.1
    have st2 := H2.st.1
    conv => whnf
    repeat (first
      | (refine ⟨_, by assumption, _, rfl, ?_⟩; conv => whnf)
      | (refine ⟨_, _, by assumption, Nat.le_of_ble_eq_true rfl, ?_⟩; conv => whnf)
      | (refine ⟨_, by assumption, Nat.le_of_ble_eq_true rfl, ⟨rfl, rfl⟩, ?_⟩; conv => whnf)
      | (refine ⟨_, by assumption, ?_⟩; conv => whnf))
    rw [a1, a3, a5]
    refine S_xput hC H2 a2 a4 a6 a7 W' (fun h3 H3 o3 => ?_)
    conv => whnf
    exact H1 h3 H3 (o2.tr (o3.wd (by omega) (by omega)))

