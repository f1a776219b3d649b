/-! DraftMerge.cell, setCell; Blocks -/
set_option maxRecDepth 100000 in
theorem S_X6_cell {C : zK} (hC : zCld 215 zTT C) {h : zH} {n : Nat} {K : zQ} {a k : Nat} {f : Nat → Int32} (ha : h a = .inl (0, k, .inl f)) (hk : k < 2 ^ 31) {i : Int32} (H1 : ∀ j, j < k → i = nI j → K 0 (some (.int (f j))) h n) (H0 : (∀ j, j < k → i ≠ nI j) → K 0 (some (.int (-1))) h n) : C 116 [.ref a, .int i] h n K := by
  refine zd_X6_cell hC rfl fun P hgo hF => ?_
  refine hgo [] 20 _ _ _ _ _ _ _ ?_
  conv => whnf
  refine ⟨fun h1 => ?_, fun h1 => ?_⟩
  · conv => whnf
    exact H0 fun j hj e => nI_pos (show j < 2 ^ 31 by omega) (e ▸ h1)
  · conv => whnf
    repeat (first
      | (refine ⟨_, by assumption, _, rfl, ?_⟩; conv => whnf)
      | (refine ⟨_, _, by assumption, Nat.le_of_ble_eq_true rfl, ?_⟩; conv => whnf)
      | (refine ⟨_, by assumption, Nat.le_of_ble_eq_true rfl, ⟨rfl, rfl⟩, ?_⟩; conv => whnf)
      | (refine ⟨_, by assumption, ?_⟩; conv => whnf))
    refine ⟨fun h2 => ?_, fun h2 => ?_⟩
    · conv => whnf
      exact H0 fun j hj e => nI_ge hj hk (e ▸ h2)
    · conv => whnf
      obtain ⟨j, hj, rfl⟩ : ∃ j, j < k ∧ i = nI j := by
        rcases pk_ix i hk with q | q | q
        · exact absurd q h1
        · exact absurd q h2
        · exact q
      refine ⟨_, _, ha, vp_in_nI hj hk, ?_⟩
      conv => whnf
      rw [nI_clamp (show j < 2 ^ 31 by omega)]
      exact H1 j hj rfl
set_option maxRecDepth 100000 in
theorem S_X6_setCell {C : zK} (hC : zCld 215 zTT C) {h : zH} {n : Nat} {K : zQ} {a k : Nat} {f : Nat → Int32} (ha : h a = .inl (0, k, .inl f)) (hk : k < 2 ^ 31) {i x : Int32} (H1 : ∀ j, j < k → i = nI j → K 0 none (zupd h a (.inl (0, k, .inl (upd f j x)))) n) (H0 : (∀ j, j < k → i ≠ nI j) → K 0 none h n) : C 117 [.ref a, .int i, .int x] h n K := by
  refine zd_X6_setCell hC rfl fun P hgo hF => ?_
  refine hgo [] 20 _ _ _ _ _ _ _ ?_
  conv => whnf
  refine ⟨fun h1 => ?_, fun h1 => ?_⟩
  · conv => whnf
    exact H0 fun j hj e => nI_pos (show j < 2 ^ 31 by omega) (e ▸ h1)
  · conv => whnf
    repeat (first
      | (refine ⟨_, by assumption, _, rfl, ?_⟩; conv => whnf)
      | (refine ⟨_, _, by assumption, Nat.le_of_ble_eq_true rfl, ?_⟩; conv => whnf)
      | (refine ⟨_, by assumption, Nat.le_of_ble_eq_true rfl, ⟨rfl, rfl⟩, ?_⟩; conv => whnf)
      | (refine ⟨_, by assumption, ?_⟩; conv => whnf))
    refine ⟨fun h2 => ?_, fun h2 => ?_⟩
    · conv => whnf
      exact H0 fun j hj e => nI_ge hj hk (e ▸ h2)
    · conv => whnf
      obtain ⟨j, hj, rfl⟩ : ∃ j, j < k ∧ i = nI j := by
        rcases pk_ix i hk with q | q | q
        · exact absurd q h1
        · exact absurd q h2
        · exact q
      refine ⟨_, _, ha, vp_in_nI hj hk, ?_⟩
      rw [nI_clamp (show j < 2 ^ 31 by omega)]
      conv => whnf
      exact H1 j hj rfl
set_option maxRecDepth 100000 in
theorem S_X0_holds {C : zK} (hC : zCld 215 zTT C) {h : zH} {n : Nat} {K : zQ} {b N : Nat} {L : zB} (hB : zBl h b N L) {p : Int32} (H1 : ∀ j, j < L.length → p = nI j → K 0 (some (.int 1)) h n) (H0 : (∀ j, j < L.length → p ≠ nI j) → K 0 (some (.int 0)) h n) : C 1 [.ref b, .int p] h n K := by
  obtain ⟨f, g, hb, hn, hc, hlen, hN, hv, hw⟩ := hB
  refine zd_X0_holds hC rfl fun P hgo hF => ?_
  refine hgo [] 20 _ _ _ _ _ _ _ ?_
  conv => whnf
  refine ⟨fun h1 => ?_, fun h1 => ?_⟩
  · conv => whnf
    exact ⟨Or.inl rfl, H0 fun j hj e => nI_pos (show j < 2 ^ 31 by omega) (e ▸ h1)⟩
  · conv => whnf
    repeat (first
      | (refine ⟨_, by assumption, _, rfl, ?_⟩; conv => whnf)
      | (refine ⟨_, _, by assumption, Nat.le_of_ble_eq_true rfl, ?_⟩; conv => whnf)
      | (refine ⟨_, by assumption, Nat.le_of_ble_eq_true rfl, ⟨rfl, rfl⟩, ?_⟩; conv => whnf)
      | (refine ⟨_, by assumption, ?_⟩; conv => whnf))
    refine ⟨fun h2 => ?_, fun h2 => ?_⟩
    · conv => whnf
      exact ⟨Or.inl rfl, H0 fun j hj e => nI_ge hj (show L.length < 2 ^ 31 by omega) (e ▸ h2)⟩
    · conv => whnf
      obtain ⟨j, hj, rfl⟩ : ∃ j, j < L.length ∧ p = nI j := by
        rcases pk_ix p (show L.length < 2 ^ 31 by omega) with q | q | q
        · exact absurd q h1
        · exact absurd q h2
        · exact q
      exact ⟨Or.inr rfl, H1 j hj rfl⟩
set_option maxRecDepth 100000 in
theorem S_X0_isFull {C : zK} (hC : zCld 215 zTT C) {h : zH} {n : Nat} {K : zQ} {b N : Nat} {L : zB} (hB : zBl h b N L) (H1 : L.length = N → K 0 (some (.int 1)) h n) (H0 : L.length < N → K 0 (some (.int 0)) h n) : C 2 [.ref b] h n K := by
  obtain ⟨f, g, hb, hn, hc, hlen, hN, hv, hw⟩ := hB
  refine zd_X0_isFull hC rfl fun P hgo hF => ?_
  refine hgo [] 20 _ _ _ _ _ _ _ ?_
  conv => whnf
  repeat (first
    | (refine ⟨_, by assumption, _, rfl, ?_⟩; conv => whnf)
    | (refine ⟨_, _, by assumption, Nat.le_of_ble_eq_true rfl, ?_⟩; conv => whnf)
    | (refine ⟨_, by assumption, Nat.le_of_ble_eq_true rfl, ⟨rfl, rfl⟩, ?_⟩; conv => whnf)
    | (refine ⟨_, by assumption, ?_⟩; conv => whnf))
  refine ⟨fun h2 => ?_, fun h2 => ?_⟩
  · conv => whnf
    refine ⟨Or.inl rfl, H0 ?_⟩
    rcases Nat.lt_or_ge L.length N with q | q
    · exact q
    · exact absurd (nI_le q (show L.length < 2 ^ 31 by omega)) (Int32.not_le.mpr h2)
  · conv => whnf
    refine ⟨Or.inr rfl, H1 ?_⟩
    rcases Nat.lt_or_ge L.length N with q | q
    · exact absurd (nI_lt q (show N < 2 ^ 31 by omega)) h2
    · omega
set_option maxRecDepth 100000 in
theorem S_X0_numberAt {C : zK} (hC : zCld 215 zTT C) {h : zH} {n : Nat} {K : zQ} {b N : Nat} {L : zB} (hB : zBl h b N L) {p : Int32} (H1 : ∀ j v, L[j]? = some v → p = nI j → K 0 (some (.int (nI v.1))) h n) (H0 : (∀ j, j < L.length → p ≠ nI j) → K 0 (some (.int (-1))) h n) : C 3 [.ref b, .int p] h n K := by
  have hB0 := hB
  obtain ⟨f, g, hb, hn, hc, hlen, hN, hv, hw⟩ := hB
  refine zd_X0_numberAt hC rfl fun P hgo hF => ?_
  refine hgo [] 20 _ _ _ _ _ _ _ ?_
  conv => whnf
  repeat (first
    | (refine ⟨_, by assumption, _, rfl, ?_⟩; conv => whnf)
    | (refine ⟨_, _, by assumption, Nat.le_of_ble_eq_true rfl, ?_⟩; conv => whnf)
    | (refine ⟨_, by assumption, Nat.le_of_ble_eq_true rfl, ⟨rfl, rfl⟩, ?_⟩; conv => whnf)
    | (refine ⟨_, by assumption, ?_⟩; conv => whnf))
  refine S_X0_holds hC hB0 (fun j hj e => ?_) (fun hno => ?_)
  · conv => whnf
    refine ⟨fun q => absurd q (by decide), fun _ => ?_⟩
    conv => whnf
    repeat (first
      | (refine ⟨_, by assumption, _, rfl, ?_⟩; conv => whnf)
      | (refine ⟨_, _, by assumption, Nat.le_of_ble_eq_true rfl, ?_⟩; conv => whnf)
      | (refine ⟨_, by assumption, Nat.le_of_ble_eq_true rfl, ⟨rfl, rfl⟩, ?_⟩; conv => whnf)
      | (refine ⟨_, by assumption, ?_⟩; conv => whnf))
    subst e
    refine S_X6_cell hC hn (show N < 2 ^ 31 by omega) (fun j' hj' e' => ?_) (fun hno => absurd rfl (hno j (by omega)))
    have e2 := nI_inj (show j < 2 ^ 31 by omega) (show j' < 2 ^ 31 by omega) e'
    subst e2
    obtain ⟨v, hv9⟩ : ∃ v, L[j]? = some v := ⟨L[j], List.getElem?_eq_getElem hj⟩
    conv => whnf
    rw [(hv j v hv9).1]
    exact H1 j v hv9 rfl
  · conv => whnf
    refine ⟨fun _ => ?_, fun q => absurd rfl q⟩
    conv => whnf
    exact H0 hno

