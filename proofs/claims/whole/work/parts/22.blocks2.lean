/-! Blocks: reads -/
set_option maxRecDepth 100000 in
theorem S_X0_contentAt {C : zK} (hC : zCld 215 zTT C) {h : zH} {n : Nat} {K : zQ} {b N : Nat} {L : zB} (hB : zBl h b N L) {p : Int32} (H1 : ∀ j v, L[j]? = some v → p = nI j → K 0 (some (.int (nI v.2))) h n) (H0 : (∀ j, j < L.length → p ≠ nI j) → K 0 (some (.int (-1))) h n) : C 4 [.ref b, .int p] h n K := by
  have hB0 := hB
  obtain ⟨f, g, hb, hn, hc, hlen, hN, hv, hw⟩ := hB
  refine zd_X0_contentAt hC rfl fun P hgo hF => ?_
  refine hgo [] 20 _ _ _ _ _ _ _ ?_
  conv => whnf
  repeat (first
    | (refine ⟨_, by assumption, _, rfl, ?_⟩; conv => whnf)
    | (refine ⟨_, _, by assumption, Nat.le_of_ble_eq_true rfl, ?_⟩; conv => whnf)
    | (refine ⟨_, by assumption, Nat.le_of_ble_eq_true rfl, ⟨rfl, rfl⟩, ?_⟩; conv => whnf)
    | (refine ⟨_, by assumption, ?_⟩; conv => whnf))
  refine S_X0_holds hC hB0 (fun j hj e => ?_) (fun hno => ?_)
  · conv => whnf
    refine ⟨fun q => absurd q (by decide), fun _ => ?_⟩
    conv => whnf
    repeat (first
      | (refine ⟨_, by assumption, _, rfl, ?_⟩; conv => whnf)
      | (refine ⟨_, _, by assumption, Nat.le_of_ble_eq_true rfl, ?_⟩; conv => whnf)
      | (refine ⟨_, by assumption, Nat.le_of_ble_eq_true rfl, ⟨rfl, rfl⟩, ?_⟩; conv => whnf)
      | (refine ⟨_, by assumption, ?_⟩; conv => whnf))
    subst e
    refine S_X6_cell hC hc (show N < 2 ^ 31 by omega) (fun j' hj' e' => ?_) (fun hno => absurd rfl (hno j (by omega)))
    have e2 := nI_inj (show j < 2 ^ 31 by omega) (show j' < 2 ^ 31 by omega) e'
    subst e2
    obtain ⟨v, hv9⟩ : ∃ v, L[j]? = some v := ⟨L[j], List.getElem?_eq_getElem hj⟩
    conv => whnf
    rw [(hv j v hv9).2]
    exact H1 j v hv9 rfl
  · conv => whnf
    refine ⟨fun _ => ?_, fun q => absurd rfl q⟩
    conv => whnf
    exact H0 hno
set_option maxRecDepth 100000 in
theorem S_X0_find {C : zK} (hC : zCld 215 zTT C) {h : zH} {n : Nat} {K : zQ} {b N : Nat} {L : zB} (hB : zBl h b N L) {x : Nat} (hx : x < 1000) (H1 : ∀ j, zfd L x j → K 0 (some (.int (nI j))) h n) (H0 : (∀ v ∈ L, v.1 ≠ x) → K 0 (some (.int (-1))) h n) : C 5 [.ref b, .int (nI x)] h n K := by
  have hB0 := hB
  obtain ⟨f, g, hb, hn, hc, hlen, hN, hv, hw⟩ := hB
  refine zd_X0_find hC rfl fun P hgo hF => ?_
  have loop : ∀ d j, j + d = L.length → (∀ i v, i < j → L[i]? = some v → v.1 ≠ x) → P 2 [some (.ref b), some (.int (nI x)), some (.int (nI j))] [] h n 0 0 := by
    intro d
    induction d with
    | zero =>
      intro j hj hbef
      refine hgo [2] 30 _ _ _ _ _ _ _ ?_
      conv => whnf
      repeat (first
        | (refine ⟨_, by assumption, _, rfl, ?_⟩; conv => whnf)
        | (refine ⟨_, _, by assumption, Nat.le_of_ble_eq_true rfl, ?_⟩; conv => whnf)
        | (refine ⟨_, by assumption, Nat.le_of_ble_eq_true rfl, ⟨rfl, rfl⟩, ?_⟩; conv => whnf)
        | (refine ⟨_, by assumption, ?_⟩; conv => whnf))
      refine ⟨fun _ => ?_, fun q => absurd (nI_le (show L.length ≤ j by omega) (show j < 2 ^ 31 by omega)) q⟩
      conv => whnf
      refine H0 fun v hv9 => ?_
      obtain ⟨i, hi⟩ := List.getElem?_of_mem hv9
      exact hbef i v (by have := (List.getElem?_eq_some_iff.mp hi).1; omega) hi
    | succ d ih =>
      intro j hj hbef
      refine hgo [2] 30 _ _ _ _ _ _ _ ?_
      conv => whnf
      repeat (first
        | (refine ⟨_, by assumption, _, rfl, ?_⟩; conv => whnf)
        | (refine ⟨_, _, by assumption, Nat.le_of_ble_eq_true rfl, ?_⟩; conv => whnf)
        | (refine ⟨_, by assumption, Nat.le_of_ble_eq_true rfl, ⟨rfl, rfl⟩, ?_⟩; conv => whnf)
        | (refine ⟨_, by assumption, ?_⟩; conv => whnf))
      refine ⟨fun q => absurd q (nI_ge (show j < L.length by omega) (show L.length < 2 ^ 31 by omega)), fun _ => ?_⟩
      conv => whnf
      repeat (first
        | (refine ⟨_, by assumption, _, rfl, ?_⟩; conv => whnf)
        | (refine ⟨_, _, by assumption, Nat.le_of_ble_eq_true rfl, ?_⟩; conv => whnf)
        | (refine ⟨_, by assumption, Nat.le_of_ble_eq_true rfl, ⟨rfl, rfl⟩, ?_⟩; conv => whnf)
        | (refine ⟨_, by assumption, ?_⟩; conv => whnf))
      refine S_X0_numberAt hC hB0 (fun j' v hv9 e => ?_) (fun hno => absurd rfl (hno j (by omega)))
      have e2 := nI_inj (show j < 2 ^ 31 by omega) (show j' < 2 ^ 31 by have := (List.getElem?_eq_some_iff.mp hv9).1; omega) e
      subst e2
      have hvx := hw v (List.mem_of_getElem? hv9)
      conv => whnf
      refine ⟨fun q => ?_, fun q => ?_⟩
      · conv => whnf
        have k9 := ih (j + 1) (by omega) (fun i w hi hw9 => by
          rcases Nat.lt_or_ge i j with z | z
          · exact hbef i w z hw9
          · have : i = j := by omega
            subst this
            rw [hv9] at hw9
            cases hw9
            exact fun e => q (by rw [e]))
        rw [← zinc] at k9
        exact k9
      · conv => whnf
        exact H1 j ⟨⟨v, hv9, nI_inj (by omega) (by omega) q⟩, hbef⟩
  refine hgo [2] 20 _ _ _ _ _ _ _ ?_
  conv => whnf
  exact loop L.length 0 (by omega) (fun i v hi => absurd hi (Nat.not_lt_zero i))
set_option maxRecDepth 100000 in
theorem S_X0_contentOf {C : zK} (hC : zCld 215 zTT C) {h : zH} {n : Nat} {K : zQ} {b N : Nat} {L : zB} (hB : zBl h b N L) {x : Nat} (hx : x < 1000) (H1 : ∀ j v, zfd L x j → L[j]? = some v → K 0 (some (.int (nI v.2))) h n) (H0 : (∀ v ∈ L, v.1 ≠ x) → K 0 (some (.int (-1))) h n) : C 6 [.ref b, .int (nI x)] h n K := by
  have hB0 := hB
  obtain ⟨f, g, hb, hn, hc, hlen, hN, hv, hw⟩ := hB
  refine zd_X0_contentOf hC rfl fun P hgo hF => ?_
  refine hgo [] 20 _ _ _ _ _ _ _ ?_
  conv => whnf
  repeat (first
    | (refine ⟨_, by assumption, _, rfl, ?_⟩; conv => whnf)
    | (refine ⟨_, _, by assumption, Nat.le_of_ble_eq_true rfl, ?_⟩; conv => whnf)
    | (refine ⟨_, by assumption, Nat.le_of_ble_eq_true rfl, ⟨rfl, rfl⟩, ?_⟩; conv => whnf)
    | (refine ⟨_, by assumption, ?_⟩; conv => whnf))
  refine S_X0_find hC hB0 hx (fun j hj => ?_) (fun hno => ?_)
  · conv => whnf
    repeat (first
      | (refine ⟨_, by assumption, _, rfl, ?_⟩; conv => whnf)
      | (refine ⟨_, _, by assumption, Nat.le_of_ble_eq_true rfl, ?_⟩; conv => whnf)
      | (refine ⟨_, by assumption, Nat.le_of_ble_eq_true rfl, ⟨rfl, rfl⟩, ?_⟩; conv => whnf)
      | (refine ⟨_, by assumption, ?_⟩; conv => whnf))
    obtain ⟨v, hv9, -⟩ := hj.1
    have hjl := (List.getElem?_eq_some_iff.mp hv9).1
    refine S_X0_contentAt hC hB0 (fun j' v' hv' e => ?_) (fun hno => absurd rfl (hno j hjl))
    have e2 := nI_inj (show j < 2 ^ 31 by omega) (show j' < 2 ^ 31 by have := (List.getElem?_eq_some_iff.mp hv').1; omega) e
    subst e2
    conv => whnf
    exact H1 j v' hj hv'
  · conv => whnf
    repeat (first
      | (refine ⟨_, by assumption, _, rfl, ?_⟩; conv => whnf)
      | (refine ⟨_, _, by assumption, Nat.le_of_ble_eq_true rfl, ?_⟩; conv => whnf)
      | (refine ⟨_, by assumption, Nat.le_of_ble_eq_true rfl, ⟨rfl, rfl⟩, ?_⟩; conv => whnf)
      | (refine ⟨_, by assumption, ?_⟩; conv => whnf))
    refine S_X0_contentAt hC hB0 (fun j' v' hv' e => absurd e.symm (nI_ne_m1 (show j' < 2 ^ 31 by have := (List.getElem?_eq_some_iff.mp hv').1; omega))) (fun _ => ?_)
    conv => whnf
    exact H0 hno
set_option maxRecDepth 100000 in
theorem S_X0_replaceContent {C : zK} (hC : zCld 215 zTT C) {h : zH} {n : Nat} {K : zQ} {b N : Nat} {L : zB} (hB : zBl h b N L) {p y : Nat} {v : Nat × Nat} (hv : L[p]? = some v) (hy : y < 1000) (H1 : ∀ h', zBl h' b N (L.set p (v.1, y)) → zOff b (b + 3) h h' → K 0 (some (.int (nI v.2))) h' n) : C 7 [.ref b, .int (nI p), .int (nI y)] h n K := by
  have hB0 := hB
  obtain ⟨f, g, hb, hn, hc, hlen, hN, hval, hw⟩ := hB
  have hpl := (List.getElem?_eq_some_iff.mp hv).1
  refine zd_X0_replaceContent hC rfl fun P hgo hF => ?_
  refine hgo [] 20 _ _ _ _ _ _ _ ?_
  conv => whnf
  repeat (first
    | (refine ⟨_, by assumption, _, rfl, ?_⟩; conv => whnf)
    | (refine ⟨_, _, by assumption, Nat.le_of_ble_eq_true rfl, ?_⟩; conv => whnf)
    | (refine ⟨_, by assumption, Nat.le_of_ble_eq_true rfl, ⟨rfl, rfl⟩, ?_⟩; conv => whnf)
    | (refine ⟨_, by assumption, ?_⟩; conv => whnf))
  refine S_X0_contentAt hC hB0 (fun j' v' hv' e => ?_) (fun hno => absurd rfl (hno p hpl))
  have e2 := nI_inj (show p < 2 ^ 31 by omega) (show j' < 2 ^ 31 by have := (List.getElem?_eq_some_iff.mp hv').1; omega) e
  subst e2
  rw [hv] at hv'
  cases hv'
  conv => whnf
  repeat (first
    | (refine ⟨_, by assumption, _, rfl, ?_⟩; conv => whnf)
    | (refine ⟨_, _, by assumption, Nat.le_of_ble_eq_true rfl, ?_⟩; conv => whnf)
    | (refine ⟨_, by assumption, Nat.le_of_ble_eq_true rfl, ⟨rfl, rfl⟩, ?_⟩; conv => whnf)
    | (refine ⟨_, by assumption, ?_⟩; conv => whnf))
  refine S_X6_setCell hC hc (show N < 2 ^ 31 by omega) (fun j' hj' e' => ?_) (fun hno => absurd rfl (hno p (by omega)))
  have e2 := nI_inj (show p < 2 ^ 31 by omega) (show j' < 2 ^ 31 by omega) e'
  subst e2
  conv => whnf
  refine H1 _ (zBl.of (zRaw.s2 ⟨hb, hn, hc⟩) (by rw [List.length_set]) (by rw [List.length_set]; exact hlen) hN (fun j w hj => ?_) (fun w hw9 => ?_)) (zOff.up (by omega) (by omega))
  · rcases Nat.decEq j p with q | q
    · rw [List.getElem?_set_ne (Ne.symm q)] at hj
      rw [upd_n q]
      exact hval j w hj
    · subst q
      rw [List.getElem?_set_self hpl] at hj
      cases hj
      rw [upd_s]
      exact ⟨(hval j v hv).1, rfl⟩
  · rcases List.mem_or_eq_of_mem_set hw9 with q | q
    · exact hw w q
    · rw [q]; exact ⟨(hw v (List.mem_of_getElem? hv)).1, hy⟩

