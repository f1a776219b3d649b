/-! Blocks: writes -/
set_option maxRecDepth 100000 in
theorem S_setN {C : zK} (hC : zCld 215 zTT C) {h : zH} {n : Nat} {K : zQ} {b N : Nat} {c : Int32} {f g : Nat → Int32} (r : zRaw h b N c f g) (hN : N ≤ 1000) {j : Nat} (hj : j < N) {x : Int32} (H : ∀ h', zRaw h' b N c (upd f j x) g → zOff b (b + 3) h h' → K 0 none h' n) : C 117 [.ref (b + 1), .int (nI j), .int x] h n K := by
  refine S_X6_setCell hC r.2.1 (show N < 2 ^ 31 by omega) (fun j' hj' e => ?_) (fun hno => absurd rfl (hno j hj))
  have e2 := nI_inj (show j < 2 ^ 31 by omega) (show j' < 2 ^ 31 by omega) e
  subst e2
  exact H _ r.s1 (zOff.up (by omega) (by omega))
set_option maxRecDepth 100000 in
theorem S_setC {C : zK} (hC : zCld 215 zTT C) {h : zH} {n : Nat} {K : zQ} {b N : Nat} {c : Int32} {f g : Nat → Int32} (r : zRaw h b N c f g) (hN : N ≤ 1000) {j : Nat} (hj : j < N) {x : Int32} (H : ∀ h', zRaw h' b N c f (upd g j x) → zOff b (b + 3) h h' → K 0 none h' n) : C 117 [.ref (b + 2), .int (nI j), .int x] h n K := by
  refine S_X6_setCell hC r.2.2 (show N < 2 ^ 31 by omega) (fun j' hj' e => ?_) (fun hno => absurd rfl (hno j hj))
  have e2 := nI_inj (show j < 2 ^ 31 by omega) (show j' < 2 ^ 31 by omega) e
  subst e2
  exact H _ r.s2 (zOff.up (by omega) (by omega))
set_option maxRecDepth 100000 in
theorem S_getC {C : zK} (hC : zCld 215 zTT C) {h : zH} {n : Nat} {K : zQ} {a k : Nat} {f : Nat → Int32} (ha : h a = .inl (0, k, .inl f)) (hk : k ≤ 1000) {j : Nat} (hj : j < k) (H : K 0 (some (.int (f j))) h n) : C 116 [.ref a, .int (nI j)] h n K := by
  refine S_X6_cell hC ha (show k < 2 ^ 31 by omega) (fun j' hj' e => ?_) (fun hno => absurd rfl (hno j hj))
  have e2 := nI_inj (show j < 2 ^ 31 by omega) (show j' < 2 ^ 31 by omega) e
  subst e2
  exact H
set_option maxRecDepth 100000 in
theorem S_X0_putIn {C : zK} (hC : zCld 215 zTT C) {h : zH} {n : Nat} {K : zQ} {b N : Nat} {L : zB} (hB : zBl h b N L) {p x y : Nat} (hp : p ≤ L.length) (hL : L.length < N) (hx : x < 1000 ∧ y < 1000) (H1 : ∀ h', zBl h' b N (L.insertIdx p (x, y)) → zOff b (b + 3) h h' → K 0 none h' n) : C 8 [.ref b, .int (nI p), .int (nI x), .int (nI y)] h n K := by
  have hB0 := hB
  obtain ⟨f, g, r, hlen, hN, hval, hw⟩ := hB.raw
  refine zd_X0_putIn hC rfl fun P hgo hF => ?_
  have loop : ∀ d h1 f1 g1, p + d ≤ L.length → zRaw h1 b N (nI L.length) f1 g1 → zOff b (b + 3) h h1 → (∀ i, i ≤ L.length → f1 i = if i ≤ p + d then f i else f (i - 1)) → (∀ i, i ≤ L.length → g1 i = if i ≤ p + d then g i else g (i - 1)) → P 26 [some (.ref b), some (.int (nI p)), some (.int (nI x)), some (.int (nI y)), some (.int (nI (p + d)))] [] h1 n 0 0 := by
    intro d
    induction d with
    | zero =>
      intro h1 f1 g1 hd r1 ho1 hf hg
      obtain ⟨q1, q2, q3⟩ := id r1
      refine hgo [26] 30 _ _ _ _ _ _ _ ?_
      conv => whnf
      refine ⟨fun _ => ?_, fun q => absurd (nI_le (Nat.le_refl p) (show p < 2 ^ 31 by omega)) q⟩
      conv => whnf
      repeat (first
        | (refine ⟨_, by assumption, _, rfl, ?_⟩; conv => whnf)
        | (refine ⟨_, _, by assumption, Nat.le_of_ble_eq_true rfl, ?_⟩; conv => whnf)
        | (refine ⟨_, by assumption, Nat.le_of_ble_eq_true rfl, ⟨rfl, rfl⟩, ?_⟩; conv => whnf)
        | (refine ⟨_, by assumption, ?_⟩; conv => whnf))
      refine S_setN hC r1 hN (show p < N by omega) fun h2 r2 ho2 => ?_
      obtain ⟨s1, s2, s3⟩ := id r2
      conv => whnf
      repeat (first
        | (refine ⟨_, by assumption, _, rfl, ?_⟩; conv => whnf)
        | (refine ⟨_, _, by assumption, Nat.le_of_ble_eq_true rfl, ?_⟩; conv => whnf)
        | (refine ⟨_, by assumption, Nat.le_of_ble_eq_true rfl, ⟨rfl, rfl⟩, ?_⟩; conv => whnf)
        | (refine ⟨_, by assumption, ?_⟩; conv => whnf))
      refine S_setC hC r2 hN (show p < N by omega) fun h3 r3 ho3 => ?_
      obtain ⟨t1, t2, t3⟩ := id r3
      conv => whnf
      repeat (first
        | (refine ⟨_, by assumption, _, rfl, ?_⟩; conv => whnf)
        | (refine ⟨_, _, by assumption, Nat.le_of_ble_eq_true rfl, ?_⟩; conv => whnf)
        | (refine ⟨_, by assumption, Nat.le_of_ble_eq_true rfl, ⟨rfl, rfl⟩, ?_⟩; conv => whnf)
        | (refine ⟨_, by assumption, ?_⟩; conv => whnf))
      have hl9 : (L.insertIdx p (x, y)).length = L.length + 1 := List.length_insertIdx_of_le_length hp _
      refine H1 _ (zBl.of r3.sc (by rw [hl9]; exact nI_1 _) (by omega) hN (fun j v hj => ?_) (fun v hv => ?_)) ((ho1.tr (ho2.tr ho3)).tr (zOff.up (by omega) (by omega)))
      · have hjl := (List.getElem?_eq_some_iff.mp hj).1
        rw [List.getElem?_insertIdx] at hj
        by_cases c1 : j < p
        · rw [if_pos c1] at hj
          rw [upd_n (by omega), upd_n (by omega), hf j (by omega), hg j (by omega), if_pos (by omega), if_pos (by omega)]
          exact hval j v hj
        · rw [if_neg c1] at hj
          by_cases c2 : j = p
          · rw [if_pos c2, if_pos (by omega)] at hj
            cases hj
            rw [c2, upd_s, upd_s]
            exact ⟨rfl, rfl⟩
          · rw [if_neg c2] at hj
            rw [upd_n c2, upd_n c2, hf j (by omega), hg j (by omega), if_neg (by omega), if_neg (by omega)]
            exact hval (j - 1) v hj
      · rcases List.mem_insertIdx hp |>.mp hv with q | q
        · rw [q]; exact hx
        · exact hw v q
    | succ d ih =>
      intro h1 f1 g1 hd r1 ho1 hf hg
      obtain ⟨q1, q2, q3⟩ := id r1
      refine hgo [26] 30 _ _ _ _ _ _ _ ?_
      conv => whnf
      refine ⟨fun q => absurd q (nI_ge (show p < p + (d + 1) by omega) (show p + (d + 1) < 2 ^ 31 by omega)), fun _ => ?_⟩
      conv => whnf
      repeat (first
        | (refine ⟨_, by assumption, _, rfl, ?_⟩; conv => whnf)
        | (refine ⟨_, _, by assumption, Nat.le_of_ble_eq_true rfl, ?_⟩; conv => whnf)
        | (refine ⟨_, by assumption, Nat.le_of_ble_eq_true rfl, ⟨rfl, rfl⟩, ?_⟩; conv => whnf)
        | (refine ⟨_, by assumption, ?_⟩; conv => whnf))
      rw [show nI (p + (d + 1)) - 1 = nI (p + d) from nI_pred (p + d)]
      refine S_getC hC q2 hN (show p + d < N by omega) ?_
      conv => whnf
      refine S_setN hC r1 hN (show p + (d + 1) < N by omega) fun h2 r2 ho2 => ?_
      obtain ⟨s1, s2, s3⟩ := id r2
      conv => whnf
      repeat (first
        | (refine ⟨_, by assumption, _, rfl, ?_⟩; conv => whnf)
        | (refine ⟨_, _, by assumption, Nat.le_of_ble_eq_true rfl, ?_⟩; conv => whnf)
        | (refine ⟨_, by assumption, Nat.le_of_ble_eq_true rfl, ⟨rfl, rfl⟩, ?_⟩; conv => whnf)
        | (refine ⟨_, by assumption, ?_⟩; conv => whnf))
      rw [show nI (p + (d + 1)) - 1 = nI (p + d) from nI_pred (p + d)]
      refine S_getC hC s3 hN (show p + d < N by omega) ?_
      conv => whnf
      refine S_setC hC r2 hN (show p + (d + 1) < N by omega) fun h3 r3 ho3 => ?_
      conv => whnf
      have k9 := ih h3 _ _ (by omega) r3 (ho1.tr (ho2.tr ho3)) (fun i hi => by
        by_cases c1 : i = p + (d + 1)
        · rw [c1, upd_s, hf (p + d) (by omega), if_pos (by omega), if_neg (by omega)]
          rfl
        · rw [upd_n c1, hf i hi]
          by_cases c2 : i ≤ p + d
          · rw [if_pos c2, if_pos (by omega)]
          · rw [if_neg c2, if_neg (by omega)]) (fun i hi => by
        by_cases c1 : i = p + (d + 1)
        · rw [c1, upd_s, hg (p + d) (by omega), if_pos (by omega), if_neg (by omega)]
          rfl
        · rw [upd_n c1, hg i hi]
          by_cases c2 : i ≤ p + d
          · rw [if_pos c2, if_pos (by omega)]
          · rw [if_neg c2, if_neg (by omega)])
      rw [← zdec (j := p + d)] at k9
      exact k9
  obtain ⟨q1, q2, q3⟩ := id r
  refine hgo [26] 30 _ _ _ _ _ _ _ ?_
  conv => whnf
  repeat (first
    | (refine ⟨_, by assumption, _, rfl, ?_⟩; conv => whnf)
    | (refine ⟨_, _, by assumption, Nat.le_of_ble_eq_true rfl, ?_⟩; conv => whnf)
    | (refine ⟨_, by assumption, Nat.le_of_ble_eq_true rfl, ⟨rfl, rfl⟩, ?_⟩; conv => whnf)
    | (refine ⟨_, by assumption, ?_⟩; conv => whnf))
  refine S_X0_isFull hC hB0 (fun e => absurd e (by omega)) (fun _ => ?_)
  conv => whnf
  refine ⟨fun q => absurd rfl q, fun _ => ?_⟩
  conv => whnf
  refine ⟨fun q => absurd q (nI_pos (show p < 2 ^ 31 by omega)), fun _ => ?_⟩
  conv => whnf
  repeat (first
    | (refine ⟨_, by assumption, _, rfl, ?_⟩; conv => whnf)
    | (refine ⟨_, _, by assumption, Nat.le_of_ble_eq_true rfl, ?_⟩; conv => whnf)
    | (refine ⟨_, by assumption, Nat.le_of_ble_eq_true rfl, ⟨rfl, rfl⟩, ?_⟩; conv => whnf)
    | (refine ⟨_, by assumption, ?_⟩; conv => whnf))
  refine ⟨fun _ => ?_, fun q => absurd (nI_le hp (show L.length < 2 ^ 31 by omega)) q⟩
  conv => whnf
  repeat (first
    | (refine ⟨_, by assumption, _, rfl, ?_⟩; conv => whnf)
    | (refine ⟨_, _, by assumption, Nat.le_of_ble_eq_true rfl, ?_⟩; conv => whnf)
    | (refine ⟨_, by assumption, Nat.le_of_ble_eq_true rfl, ⟨rfl, rfl⟩, ?_⟩; conv => whnf)
    | (refine ⟨_, by assumption, ?_⟩; conv => whnf))
  have k9 := loop (L.length - p) h f g (by omega) r zOff.rf (fun i hi => by rw [if_pos (by omega)]) (fun i hi => by rw [if_pos (by omega)])
  rw [show p + (L.length - p) = L.length by omega] at k9
  exact k9
set_option maxRecDepth 100000 in
theorem S_X0_putLast {C : zK} (hC : zCld 215 zTT C) {h : zH} {n : Nat} {K : zQ} {b N : Nat} {L : zB} (hB : zBl h b N L) {x y : Nat} (hL : L.length < N) (hx : x < 1000 ∧ y < 1000) (H1 : ∀ h', zBl h' b N (L ++ [(x, y)]) → zOff b (b + 3) h h' → K 0 none h' n) : C 9 [.ref b, .int (nI x), .int (nI y)] h n K := by
  have hB0 := hB
  obtain ⟨f, g, ⟨q1, q2, q3⟩, hlen, hN, hval, hw⟩ := hB.raw
  refine zd_X0_putLast hC rfl fun P hgo hF => ?_
  refine hgo [] 30 _ _ _ _ _ _ _ ?_
  conv => whnf
  repeat (first
    | (refine ⟨_, by assumption, _, rfl, ?_⟩; conv => whnf)
    | (refine ⟨_, _, by assumption, Nat.le_of_ble_eq_true rfl, ?_⟩; conv => whnf)
    | (refine ⟨_, by assumption, Nat.le_of_ble_eq_true rfl, ⟨rfl, rfl⟩, ?_⟩; conv => whnf)
    | (refine ⟨_, by assumption, ?_⟩; conv => whnf))
  refine S_X0_putIn hC hB0 (Nat.le_refl _) hL hx fun h' hB' ho' => ?_
  conv => whnf
  rw [List.insertIdx_length_self] at hB'
  exact H1 h' hB' ho'

