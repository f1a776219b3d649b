/-! State: baseCanGrow, takeAsBase, copyFrom -/
set_option maxRecDepth 100000 in
theorem S_X5_baseCanGrow {C : zK} (hC : zCld 215 zTT C) {h : zH} {n : Nat} {K : zQ} {s : Nat} {σ : zS} (H : zSta h s σ) (H1 : (zba σ).length < 10 → zus σ = (zba σ).length → zba σ = zd0 σ → zba σ = zd1 σ → K 0 (some (.int 1)) h n) (H0 : ¬ ((zba σ).length < 10 ∧ zus σ = (zba σ).length ∧ zba σ = zd0 σ ∧ zba σ = zd1 σ) → K 0 (some (.int 0)) h n) : C 64 [.ref s] h n K := by
  obtain ⟨h1, h2, h3, h4, ⟨cf, h5, h6⟩, h7⟩ := id H
  obtain ⟨f2, g2, ⟨b2, -, -⟩, l2, -⟩ := h2.raw
  obtain ⟨f3, g3, ⟨b3, -, -⟩, -⟩ := h3.raw
  obtain ⟨f4, g4, ⟨b4, -, -⟩, -⟩ := h4.raw
  refine zd_X5_baseCanGrow hC rfl fun P hgo hF => ?_
  have no : ¬ ((zba σ).length < 10 ∧ zus σ = (zba σ).length ∧ zba σ = zd0 σ ∧ zba σ = zd1 σ) → P 56 [some (.ref s)] [] h n 0 0 := fun hno => by
    refine hgo [] 10 _ _ _ _ _ _ _ ?_
    conv => whnf
    exact ⟨Or.inl rfl, H0 hno⟩
  refine hgo [56] 60 _ _ _ _ _ _ _ ?_
  conv => whnf
  repeat (first
    | (refine ⟨_, by assumption, _, rfl, ?_⟩; conv => whnf)
    | (refine ⟨_, _, by assumption, Nat.le_of_ble_eq_true rfl, ?_⟩; conv => whnf)
    | (refine ⟨_, by assumption, Nat.le_of_ble_eq_true rfl, ⟨rfl, rfl⟩, ?_⟩; conv => whnf)
    | (refine ⟨_, by assumption, ?_⟩; conv => whnf))
  refine S_X0_isFull hC h2 (fun e => ?_) (fun hl => ?_)
  · conv => whnf
    refine ⟨fun _ => ?_, fun q => absurd q (by decide)⟩
    conv => whnf
    exact no fun q => by omega
  · conv => whnf
    refine ⟨fun q => absurd rfl q, fun _ => ?_⟩
    conv => whnf
    repeat (first
      | (refine ⟨_, by assumption, _, rfl, ?_⟩; conv => whnf)
      | (refine ⟨_, _, by assumption, Nat.le_of_ble_eq_true rfl, ?_⟩; conv => whnf)
      | (refine ⟨_, by assumption, Nat.le_of_ble_eq_true rfl, ⟨rfl, rfl⟩, ?_⟩; conv => whnf)
      | (refine ⟨_, by assumption, ?_⟩; conv => whnf))
    refine ⟨fun q => ?_, fun q => ?_⟩
    · conv => whnf
      exact no fun z => q (by rw [z.2.1])
    · have hu := nI_inj (show zus σ < 2 ^ 31 by omega) (show (zba σ).length < 2 ^ 31 by omega) q
      conv => whnf
      repeat (first
        | (refine ⟨_, by assumption, _, rfl, ?_⟩; conv => whnf)
        | (refine ⟨_, _, by assumption, Nat.le_of_ble_eq_true rfl, ?_⟩; conv => whnf)
        | (refine ⟨_, by assumption, Nat.le_of_ble_eq_true rfl, ⟨rfl, rfl⟩, ?_⟩; conv => whnf)
        | (refine ⟨_, by assumption, ?_⟩; conv => whnf))
      refine S_X0_isLike hC h2 h3 (fun e => ?_) (fun e => ?_)
      · conv => whnf
        refine ⟨fun q => absurd q (by decide), fun _ => ?_⟩
        conv => whnf
        repeat (first
          | (refine ⟨_, by assumption, _, rfl, ?_⟩; conv => whnf)
          | (refine ⟨_, _, by assumption, Nat.le_of_ble_eq_true rfl, ?_⟩; conv => whnf)
          | (refine ⟨_, by assumption, Nat.le_of_ble_eq_true rfl, ⟨rfl, rfl⟩, ?_⟩; conv => whnf)
          | (refine ⟨_, by assumption, ?_⟩; conv => whnf))
        refine S_X0_isLike hC h2 h4 (fun e2 => ?_) (fun e2 => ?_)
        · conv => whnf
          refine ⟨fun q => absurd q (by decide), fun _ => ?_⟩
          conv => whnf
          exact ⟨Or.inr rfl, H1 hl hu e e2⟩
        · conv => whnf
          refine ⟨fun _ => ?_, fun q => absurd rfl q⟩
          conv => whnf
          exact no fun z => e2 z.2.2.2
      · conv => whnf
        refine ⟨fun _ => ?_, fun q => absurd rfl q⟩
        conv => whnf
        exact no fun z => e z.2.2.1
/-- a merged text as a base: numbered anew -/
def zre (M : zB) : zB := M.mapIdx fun i v => (i, v.2)
theorem zre_len {M : zB} : (zre M).length = M.length := by simp [zre]
theorem zre_get {M : zB} {i : Nat} : (zre M)[i]? = M[i]?.map fun v => (i, v.2) := by simp [zre]
set_option maxRecDepth 100000 in
theorem S_X5_takeAsBase {C : zK} (hC : zCld 215 zTT C) {h : zH} {n : Nat} {K : zQ} {s mb N : Nat} {σ : zS} {M : zB} (H : zSta h s σ) (hM : zBl h mb N M) (hl : M.length ≤ 10) (hd : mb + 3 ≤ s ∨ s + 11 ≤ mb) (H1 : ∀ h', zSta h' s (zre M, zre M, zre M, M.length, zpf σ, zac σ + 1, fun _ => -1) → zOff s (s + 11) h h' → K 0 none h' n) : C 72 [.ref s, .ref mb] h n K := by
  obtain ⟨h1, h2, h3, h4, ⟨cf, h5, h6⟩, h7⟩ := id H
  obtain ⟨fm, gm, ⟨bm, -, -⟩, lm, -, -, hwm⟩ := hM.raw
  obtain ⟨f2, g2, r2, l2, -⟩ := h2.raw
  refine zd_X5_takeAsBase hC rfl fun P hgo hF => ?_
  have loop : ∀ d t h2, t + d = M.length → zBl h2 (s + 1) 10 ((zre M).take t) → zOff (s + 1) (s + 4) h h2 → P 9 [some (.ref s), some (.ref mb), some (.int (nI t))] [] h2 n 0 0 := by
    intro d
    induction d with
    | zero =>
      intro t h2 ht hB ho
      have a1 := (ho s (by omega)).trans h1
      have am := hM.off ho (by omega)
      obtain ⟨fm, gm, ⟨bm, -, -⟩, -⟩ := am.raw
      rw [List.take_of_length_le (by rw [zre_len]; omega)] at hB
      have hB0 := hB
      obtain ⟨f9, g9, ⟨b9, -, -⟩, -⟩ := hB.raw
      obtain ⟨f3, g3, r3, -⟩ := (h3.off ho (by omega)).raw
      obtain ⟨b3, -⟩ := id r3
      refine hgo [9] 60 _ _ _ _ _ _ _ ?_
      conv => whnf
      repeat (first
        | (refine ⟨_, by assumption, _, rfl, ?_⟩; conv => whnf)
        | (refine ⟨_, _, by assumption, Nat.le_of_ble_eq_true rfl, ?_⟩; conv => whnf)
        | (refine ⟨_, by assumption, Nat.le_of_ble_eq_true rfl, ⟨rfl, rfl⟩, ?_⟩; conv => whnf)
        | (refine ⟨_, by assumption, ?_⟩; conv => whnf))
      refine ⟨fun _ => ?_, fun q => absurd (nI_le (show M.length ≤ t by omega) (show t < 2 ^ 31 by omega)) q⟩
      conv => whnf
      repeat (first
        | (refine ⟨_, by assumption, _, rfl, ?_⟩; conv => whnf)
        | (refine ⟨_, _, by assumption, Nat.le_of_ble_eq_true rfl, ?_⟩; conv => whnf)
        | (refine ⟨_, by assumption, Nat.le_of_ble_eq_true rfl, ⟨rfl, rfl⟩, ?_⟩; conv => whnf)
        | (refine ⟨_, by assumption, ?_⟩; conv => whnf))
      refine S_X0_copyFrom hC r3 (by decide) hB0 (by rw [zre_len]; omega) (by omega) fun h3' B3 ho3 => ?_
      have a1 := (ho3 s (by omega)).trans a1
      have hB1 := hB0.off ho3 (by omega)
      obtain ⟨f9, g9, ⟨b9, -, -⟩, -⟩ := hB1.raw
      obtain ⟨f4, g4, r4, -⟩ := ((h4.off ho (by omega)).off ho3 (by omega)).raw
      obtain ⟨b4, -⟩ := id r4
      conv => whnf
      repeat (first
        | (refine ⟨_, by assumption, _, rfl, ?_⟩; conv => whnf)
        | (refine ⟨_, _, by assumption, Nat.le_of_ble_eq_true rfl, ?_⟩; conv => whnf)
        | (refine ⟨_, by assumption, Nat.le_of_ble_eq_true rfl, ⟨rfl, rfl⟩, ?_⟩; conv => whnf)
        | (refine ⟨_, by assumption, ?_⟩; conv => whnf))
      refine S_X0_copyFrom hC r4 (by decide) hB1 (by rw [zre_len]; omega) (by omega) fun h4' B4 ho4 => ?_
      have a1 := (ho4 s (by omega)).trans a1
      have hB2 := hB1.off ho4 (by omega)
      have B3' := B3.off ho4 (by omega)
      obtain ⟨f9, g9, ⟨b9, -, -⟩, -⟩ := hB2.raw
      have a5 : h4' (s + 10) = .inl (0, 30, .inl cf) := by rw [ho4 _ (by omega), ho3 _ (by omega), ho _ (by omega)]; exact h5
      conv => whnf
      repeat (first
        | (refine ⟨_, by assumption, _, rfl, ?_⟩; conv => whnf)
        | (refine ⟨_, _, by assumption, Nat.le_of_ble_eq_true rfl, ?_⟩; conv => whnf)
        | (refine ⟨_, by assumption, Nat.le_of_ble_eq_true rfl, ⟨rfl, rfl⟩, ?_⟩; conv => whnf)
        | (refine ⟨_, by assumption, ?_⟩; conv => whnf))
      refine S_JA_fill hC a5 (by decide) fun h5' cf' a5' hcf ho5 => ?_
      have a1 := (ho5 s (by omega)).trans a1
      have hB3 := hB2.off ho5 (by omega)
      obtain ⟨f9, g9, ⟨b9, -, -⟩, -⟩ := hB3.raw
      conv => whnf
      refine ⟨_, a1, _, rfl, ?_⟩
      conv => whnf
      refine ⟨_, b9, _, rfl, ?_⟩
      conv => whnf
      refine ⟨_, a1, Nat.le_of_ble_eq_true rfl, ⟨rfl, rfl⟩, ?_⟩
      conv => whnf
      refine ⟨_, zupd_s, _, rfl, ?_⟩
      conv => whnf
      refine ⟨_, zupd_s, Nat.le_of_ble_eq_true rfl, ⟨rfl, rfl⟩, ?_⟩
      conv => whnf
      obtain ⟨h9, e9⟩ : ∃ z, z = zupd (zupd h5' s (.inr (5, [.ref (s + 1), .ref (s + 4), .ref (s + 7), .ref (s + 10), .int (nI (zre M).length), .int (nI (zpf σ)), .int (nI (zac σ))]))) s (.inr (5, [.ref (s + 1), .ref (s + 4), .ref (s + 7), .ref (s + 10), .int (nI (zre M).length), .int (nI (zpf σ)), .int (nI (zac σ) + 1)])) := ⟨_, rfl⟩
      have o9 : zOff s (s + 1) h5' h9 := by
        rw [e9]
        exact (zOff.up (Nat.le_refl s) (by omega)).tr (zOff.up (Nat.le_refl s) (by omega))
      have k9 := H1 h9 ⟨by rw [e9, zre_len, show nI (zac σ) + 1 = nI (zac σ + 1) from nI_1 _]; exact zupd_s, hB3.off o9 (by omega), (B3'.off ho5 (by omega)).off o9 (by omega), (B4.off ho5 (by omega)).off o9 (by omega), ⟨cf', (o9 _ (by omega)).trans a5', hcf⟩, (show M.length ≤ 1000 by omega)⟩ ((ho.wd (by omega) (by omega)).tr ((ho3.wd (by omega) (by omega)).tr ((ho4.wd (by omega) (by omega)).tr ((ho5.wd (by omega) (by omega)).tr (o9.wd (by omega) (by omega))))))
      rw [e9] at k9
      exact k9
    | succ d ih =>
      intro t h2 ht hB ho
      have a1 := (ho s (by omega)).trans h1
      have am := hM.off ho (by omega)
      obtain ⟨fm, gm, ⟨bm, -, -⟩, -⟩ := am.raw
      obtain ⟨f9, g9, ⟨b9, -, -⟩, -⟩ := hB.raw
      obtain ⟨v, hv⟩ : ∃ v, M[t]? = some v := ⟨M[t], List.getElem?_eq_getElem (by omega)⟩
      have hvb := hwm v (List.mem_of_getElem? hv)
      have htl : ((zre M).take t).length = t := by rw [List.length_take, zre_len]; omega
      refine hgo [9] 60 _ _ _ _ _ _ _ ?_
      conv => whnf
      repeat (first
        | (refine ⟨_, by assumption, _, rfl, ?_⟩; conv => whnf)
        | (refine ⟨_, _, by assumption, Nat.le_of_ble_eq_true rfl, ?_⟩; conv => whnf)
        | (refine ⟨_, by assumption, Nat.le_of_ble_eq_true rfl, ⟨rfl, rfl⟩, ?_⟩; conv => whnf)
        | (refine ⟨_, by assumption, ?_⟩; conv => whnf))
      refine ⟨fun q => absurd q (nI_ge (show t < M.length by omega) (show M.length < 2 ^ 31 by omega)), fun _ => ?_⟩
      conv => whnf
      repeat (first
        | (refine ⟨_, by assumption, _, rfl, ?_⟩; conv => whnf)
        | (refine ⟨_, _, by assumption, Nat.le_of_ble_eq_true rfl, ?_⟩; conv => whnf)
        | (refine ⟨_, by assumption, Nat.le_of_ble_eq_true rfl, ⟨rfl, rfl⟩, ?_⟩; conv => whnf)
        | (refine ⟨_, by assumption, ?_⟩; conv => whnf))
      refine S_X0_contentAt hC am (fun j' w hw9 e => ?_) (fun hno => absurd rfl (hno t (by omega)))
      have e2 := nI_inj (show t < 2 ^ 31 by omega) (show j' < 2 ^ 31 by have := (List.getElem?_eq_some_iff.mp hw9).1; omega) e
      rw [← e2, hv] at hw9
      cases hw9
      conv => whnf
      repeat (first
        | (refine ⟨_, by assumption, _, rfl, ?_⟩; conv => whnf)
        | (refine ⟨_, _, by assumption, Nat.le_of_ble_eq_true rfl, ?_⟩; conv => whnf)
        | (refine ⟨_, by assumption, Nat.le_of_ble_eq_true rfl, ⟨rfl, rfl⟩, ?_⟩; conv => whnf)
        | (refine ⟨_, by assumption, ?_⟩; conv => whnf))
      refine S_X0_putLast hC hB (by omega) ⟨by omega, hvb.2⟩ fun h3' B3 ho3 => ?_
      conv => whnf
      have e8 : (zre M).take t ++ [(t, v.2)] = (zre M).take (t + 1) := by
        rw [List.take_add_one, zre_get, hv]; rfl
      rw [e8] at B3
      have k9 := ih (t + 1) h3' (by omega) B3 (ho.tr (ho3.wd (by omega) (by omega)))
      rw [← zinc] at k9
      exact k9
  obtain ⟨b2, -⟩ := id r2
  refine hgo [9] 60 _ _ _ _ _ _ _ ?_
  conv => whnf
  repeat (first
    | (refine ⟨_, by assumption, _, rfl, ?_⟩; conv => whnf)
    | (refine ⟨_, _, by assumption, Nat.le_of_ble_eq_true rfl, ?_⟩; conv => whnf)
    | (refine ⟨_, by assumption, Nat.le_of_ble_eq_true rfl, ⟨rfl, rfl⟩, ?_⟩; conv => whnf)
    | (refine ⟨_, by assumption, ?_⟩; conv => whnf))
  refine S_X0_clear hC r2 (by decide) fun h2' B2 ho2 => ?_
  conv => whnf
  exact loop M.length 0 h2' (by omega) B2 ho2
set_option maxRecDepth 100000 in
theorem S_X5_copyFrom {C : zK} (hC : zCld 215 zTT C) {h : zH} {n : Nat} {K : zQ} {s t : Nat} {σ : zS} (Hs : zShp h s) (H : zSta h t σ) (hl : (zba σ).length ≤ 10 ∧ (zd0 σ).length ≤ 15 ∧ (zd1 σ).length ≤ 15) (hd : s + 11 ≤ t ∨ t + 11 ≤ s) (H1 : ∀ h', zSta h' s σ → zOff s (s + 11) h h' → K 0 none h' n) : C 73 [.ref s, .ref t] h n K := by
  obtain ⟨⟨u, p, a, h1⟩, ⟨c2, f2, g2, r2⟩, ⟨c3, f3, g3, r3⟩, ⟨c4, f4, g4, r4⟩, ⟨cf, h5⟩⟩ := id Hs
  obtain ⟨k1, k2, k3, k4, ⟨ct, k5, k6⟩, k7⟩ := id H
  refine zd_X5_copyFrom hC rfl fun P hgo hF => ?_
  have loop : ∀ d j h2 cf2, j + d = 30 → h2 (s + 10) = .inl (0, 30, .inl cf2) → (∀ i, i < j → cf2 i = zch σ i) → zBl h2 (s + 1) 10 (zba σ) → zBl h2 (s + 4) 15 (zd0 σ) → zBl h2 (s + 7) 15 (zd1 σ) → zOff (s + 1) (s + 11) h h2 → P 35 [some (.ref s), some (.ref t), some (.int (nI j))] [] h2 n 0 0 := by
    intro d
    induction d with
    | zero =>
      intro j h2 cf2 hj a5 hcf B2 B3 B4 ho
      have a1 := (ho s (by omega)).trans h1
      have d1 := (ho t (by omega)).trans k1
      refine hgo [35] 60 _ _ _ _ _ _ _ ?_
      conv => whnf
      repeat (first
        | (refine ⟨_, by assumption, _, rfl, ?_⟩; conv => whnf)
        | (refine ⟨_, _, by assumption, Nat.le_of_ble_eq_true rfl, ?_⟩; conv => whnf)
        | (refine ⟨_, by assumption, Nat.le_of_ble_eq_true rfl, ⟨rfl, rfl⟩, ?_⟩; conv => whnf)
        | (refine ⟨_, by assumption, ?_⟩; conv => whnf))
      refine ⟨fun _ => ?_, fun q => absurd (show nI 30 ≤ nI j from nI_le (show 30 ≤ j by omega) (show j < 2 ^ 31 by omega)) q⟩
      conv => whnf
      refine ⟨_, d1, _, rfl, ?_⟩
      conv => whnf
      refine ⟨_, a1, Nat.le_of_ble_eq_true rfl, ⟨rfl, rfl⟩, ?_⟩
      conv => whnf
      refine ⟨_, (zupd_n (by omega)).trans d1, _, rfl, ?_⟩
      conv => whnf
      refine ⟨_, zupd_s, Nat.le_of_ble_eq_true rfl, ⟨rfl, rfl⟩, ?_⟩
      conv => whnf
      refine ⟨_, (zupd_n (by omega)).trans ((zupd_n (by omega)).trans d1), _, rfl, ?_⟩
      conv => whnf
      refine ⟨_, zupd_s, Nat.le_of_ble_eq_true rfl, ⟨rfl, rfl⟩, ?_⟩
      conv => whnf
      have o9 : ∀ c1 c2 c3 : zC, zOff s (s + 1) h2 (zupd (zupd (zupd h2 s c1) s c2) s c3) := fun c1 c2 c3 => ((zOff.up (Nat.le_refl s) (by omega)).tr (zOff.up (Nat.le_refl s) (by omega))).tr (zOff.up (Nat.le_refl s) (by omega))
      refine H1 _ ⟨zupd_s, B2.off (o9 _ _ _) (by omega), B3.off (o9 _ _ _) (by omega), B4.off (o9 _ _ _) (by omega), ⟨cf2, (o9 _ _ _ _ (by omega)).trans a5, fun i hi => hcf i (by omega)⟩, k7⟩ ((ho.wd (by omega) (by omega)).tr ((o9 _ _ _).wd (by omega) (by omega)))
    | succ d ih =>
      intro j h2 cf2 hj a5 hcf B2 B3 B4 ho
      have a1 := (ho s (by omega)).trans h1
      have d1 := (ho t (by omega)).trans k1
      have d5 := (ho (t + 10) (by omega)).trans k5
      refine hgo [35] 60 _ _ _ _ _ _ _ ?_
      conv => whnf
      repeat (first
        | (refine ⟨_, by assumption, _, rfl, ?_⟩; conv => whnf)
        | (refine ⟨_, _, by assumption, Nat.le_of_ble_eq_true rfl, ?_⟩; conv => whnf)
        | (refine ⟨_, by assumption, Nat.le_of_ble_eq_true rfl, ⟨rfl, rfl⟩, ?_⟩; conv => whnf)
        | (refine ⟨_, by assumption, ?_⟩; conv => whnf))
      refine ⟨fun q => absurd q (show ¬ nI 30 ≤ nI j from nI_ge (show j < 30 by omega) (by decide)), fun _ => ?_⟩
      conv => whnf
      repeat (first
        | (refine ⟨_, by assumption, _, rfl, ?_⟩; conv => whnf)
        | (refine ⟨_, _, by assumption, Nat.le_of_ble_eq_true rfl, ?_⟩; conv => whnf)
        | (refine ⟨_, by assumption, Nat.le_of_ble_eq_true rfl, ⟨rfl, rfl⟩, ?_⟩; conv => whnf)
        | (refine ⟨_, by assumption, ?_⟩; conv => whnf))
      refine S_getC hC d5 (by decide) (show j < 30 by omega) ?_
      conv => whnf
      refine S_X6_setCell hC a5 (by decide) (fun j' hj' e => ?_) (fun hno => absurd rfl (hno j (by omega)))
      rw [← nI_inj (show j < 2 ^ 31 by omega) (show j' < 2 ^ 31 by omega) e]
      conv => whnf
      have o9 : zOff (s + 10) (s + 11) h2 (zupd h2 (s + 10) (.inl (0, 30, .inl (upd cf2 j (ct j))))) := zOff.up (Nat.le_refl _) (by omega)
      have k9 := ih (j + 1) _ _ (by omega) zupd_s (fun i hi => by
        by_cases c1 : i = j
        · rw [c1, upd_s]; exact k6 j (by omega)
        · rw [upd_n c1]; exact hcf i (by omega)) (B2.off o9 (by omega)) (B3.off o9 (by omega)) (B4.off o9 (by omega)) (ho.tr (o9.wd (by omega) (by omega)))
      rw [← zinc] at k9
      exact k9
  obtain ⟨b2, -⟩ := id r2
  obtain ⟨b3, -⟩ := id r3
  obtain ⟨b4, -⟩ := id r4
  refine hgo [35] 60 _ _ _ _ _ _ _ ?_
  conv => whnf
  repeat (first
    | (refine ⟨_, by assumption, _, rfl, ?_⟩; conv => whnf)
    | (refine ⟨_, _, by assumption, Nat.le_of_ble_eq_true rfl, ?_⟩; conv => whnf)
    | (refine ⟨_, by assumption, Nat.le_of_ble_eq_true rfl, ⟨rfl, rfl⟩, ?_⟩; conv => whnf)
    | (refine ⟨_, by assumption, ?_⟩; conv => whnf))
  refine S_X0_copyFrom hC r2 (by decide) k2 hl.1 (by omega) fun h2' B2 ho2 => ?_
  have a1 := (ho2 s (by omega)).trans h1
  have d1 := (ho2 t (by omega)).trans k1
  have b3 := (ho2 _ (by omega)).trans b3
  conv => whnf
  repeat (first
    | (refine ⟨_, by assumption, _, rfl, ?_⟩; conv => whnf)
    | (refine ⟨_, _, by assumption, Nat.le_of_ble_eq_true rfl, ?_⟩; conv => whnf)
    | (refine ⟨_, by assumption, Nat.le_of_ble_eq_true rfl, ⟨rfl, rfl⟩, ?_⟩; conv => whnf)
    | (refine ⟨_, by assumption, ?_⟩; conv => whnf))
  refine S_X0_copyFrom hC (r3.off ho2 (by omega)) (by decide) (k3.off ho2 (by omega)) hl.2.1 (by omega) fun h3' B3 ho3 => ?_
  have a1 := (ho3 s (by omega)).trans a1
  have d1 := (ho3 t (by omega)).trans d1
  have b4 := (ho3 _ (by omega)).trans ((ho2 _ (by omega)).trans b4)
  conv => whnf
  repeat (first
    | (refine ⟨_, by assumption, _, rfl, ?_⟩; conv => whnf)
    | (refine ⟨_, _, by assumption, Nat.le_of_ble_eq_true rfl, ?_⟩; conv => whnf)
    | (refine ⟨_, by assumption, Nat.le_of_ble_eq_true rfl, ⟨rfl, rfl⟩, ?_⟩; conv => whnf)
    | (refine ⟨_, by assumption, ?_⟩; conv => whnf))
  refine S_X0_copyFrom hC ((r4.off ho2 (by omega)).off ho3 (by omega)) (by decide) ((k4.off ho2 (by omega)).off ho3 (by omega)) hl.2.2 (by omega) fun h4' B4 ho4 => ?_
  conv => whnf
  exact loop 30 0 h4' cf rfl (by rw [ho4 _ (by omega), ho3 _ (by omega), ho2 _ (by omega)]; exact h5) (fun i hi => absurd hi (Nat.not_lt_zero i)) ((B2.off ho3 (by omega)).off ho4 (by omega)) (B3.off ho4 (by omega)) B4 ((ho2.wd (by omega) (by omega)).tr ((ho3.wd (by omega) (by omega)).tr (ho4.wd (by omega) (by omega))))

