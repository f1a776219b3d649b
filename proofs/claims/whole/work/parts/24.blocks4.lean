/-! Blocks: takeOut, shift, clear, copyFrom, isLike, countShared, the constructor; Arrays.fill -/
theorem zfd_find {L : zB} {x j : Nat} {w : Nat × Nat} (hf : zfd L x j) (hw : L[j]? = some w) : L.find? (fun v => v.1 == x) = some w := by
  obtain ⟨⟨v, hv, hx⟩, hb⟩ := hf
  rw [hw] at hv
  cases hv
  rw [List.find?_eq_some_iff_getElem]
  have hl := (List.getElem?_eq_some_iff.mp hw).1
  refine ⟨by simp [hx], j, hl, (List.getElem?_eq_some_iff.mp hw).2, fun i hi => ?_⟩
  have := hb i L[i] hi (List.getElem?_eq_getElem (by omega))
  simp [this]
theorem zfd_none {L : zB} {x : Nat} (h : ∀ v ∈ L, v.1 ≠ x) : L.find? (fun v => v.1 == x) = none := by
  rw [List.find?_eq_none]
  intro v hv
  simp [h v hv]
/-- a block is in the other sequence too, with the same content where that is asked -/
def zsh (L' : zB) (flag : Bool) (v : Nat × Nat) : Bool := match L'.find? (fun w => w.1 == v.1) with
  | some w => !flag || w.2 == v.2
  | none => false
set_option maxRecDepth 100000 in
theorem S_X0_takeOut {C : zK} (hC : zCld 215 zTT C) {h : zH} {n : Nat} {K : zQ} {b N : Nat} {L : zB} (hB : zBl h b N L) {p : Nat} {v : Nat × Nat} (hp : L[p]? = some v) (H1 : ∀ h', zBl h' b N (L.eraseIdx p) → zOff b (b + 3) h h' → K 0 (some (.int (nI v.1))) h' n) : C 10 [.ref b, .int (nI p)] h n K := by
  have hB0 := hB
  obtain ⟨f, g, r, hlen, hN, hval, hw⟩ := hB.raw
  obtain ⟨q1, q2, q3⟩ := id r
  have hpl := (List.getElem?_eq_some_iff.mp hp).1
  obtain ⟨m, hm⟩ : ∃ m, L.length = m + 1 := ⟨L.length - 1, by omega⟩
  refine zd_X0_takeOut hC rfl fun P hgo hF => ?_
  have loop : ∀ d t h1 f1 g1, t + d = m → p ≤ t → zRaw h1 b N (nI m) f1 g1 → zOff b (b + 3) h h1 → (∀ i, f1 i = if p ≤ i ∧ i < t then f (i + 1) else f i) → (∀ i, g1 i = if p ≤ i ∧ i < t then g (i + 1) else g i) → P 28 [some (.ref b), some (.int (nI p)), some (.int (nI v.1)), some (.int (nI t))] [] h1 n 0 0 := by
    intro d
    induction d with
    | zero =>
      intro t h1 f1 g1 ht hpt r1 ho1 hf hg
      obtain ⟨s1, s2, s3⟩ := id r1
      refine hgo [28] 30 _ _ _ _ _ _ _ ?_
      conv => whnf
      repeat (first
        | (refine ⟨_, by assumption, _, rfl, ?_⟩; conv => whnf)
        | (refine ⟨_, _, by assumption, Nat.le_of_ble_eq_true rfl, ?_⟩; conv => whnf)
        | (refine ⟨_, by assumption, Nat.le_of_ble_eq_true rfl, ⟨rfl, rfl⟩, ?_⟩; conv => whnf)
        | (refine ⟨_, by assumption, ?_⟩; conv => whnf))
      refine ⟨fun _ => ?_, fun q => absurd (nI_le (show m ≤ t by omega) (show t < 2 ^ 31 by omega)) q⟩
      conv => whnf
      have hl9 : (L.eraseIdx p).length = m := by rw [List.length_eraseIdx_of_lt hpl]; omega
      refine H1 _ (zBl.of r1 (by rw [hl9]) (by omega) hN (fun j w hj => ?_) (fun w hw9 => hw w (List.mem_of_mem_eraseIdx hw9))) ho1
      have hjl := (List.getElem?_eq_some_iff.mp hj).1
      rw [List.getElem?_eraseIdx] at hj
      by_cases c1 : j < p
      · rw [if_pos c1] at hj
        rw [hf j, hg j, if_neg (by omega), if_neg (by omega)]
        exact hval j w hj
      · rw [if_neg c1] at hj
        rw [hf j, hg j, if_pos (by omega), if_pos (by omega)]
        exact hval (j + 1) w hj
    | succ d ih =>
      intro t h1 f1 g1 ht hpt r1 ho1 hf hg
      obtain ⟨s1, s2, s3⟩ := id r1
      refine hgo [28] 30 _ _ _ _ _ _ _ ?_
      conv => whnf
      repeat (first
        | (refine ⟨_, by assumption, _, rfl, ?_⟩; conv => whnf)
        | (refine ⟨_, _, by assumption, Nat.le_of_ble_eq_true rfl, ?_⟩; conv => whnf)
        | (refine ⟨_, by assumption, Nat.le_of_ble_eq_true rfl, ⟨rfl, rfl⟩, ?_⟩; conv => whnf)
        | (refine ⟨_, by assumption, ?_⟩; conv => whnf))
      refine ⟨fun q => absurd q (nI_ge (show t < m by omega) (show m < 2 ^ 31 by omega)), fun _ => ?_⟩
      conv => whnf
      repeat (first
        | (refine ⟨_, by assumption, _, rfl, ?_⟩; conv => whnf)
        | (refine ⟨_, _, by assumption, Nat.le_of_ble_eq_true rfl, ?_⟩; conv => whnf)
        | (refine ⟨_, by assumption, Nat.le_of_ble_eq_true rfl, ⟨rfl, rfl⟩, ?_⟩; conv => whnf)
        | (refine ⟨_, by assumption, ?_⟩; conv => whnf))
      rw [show nI t + 1 = nI (t + 1) from nI_1 t]
      refine S_getC hC s2 hN (show t + 1 < N by omega) ?_
      conv => whnf
      refine S_setN hC r1 hN (show t < N by omega) fun h2 r2 ho2 => ?_
      obtain ⟨u1, u2, u3⟩ := id r2
      conv => whnf
      repeat (first
        | (refine ⟨_, by assumption, _, rfl, ?_⟩; conv => whnf)
        | (refine ⟨_, _, by assumption, Nat.le_of_ble_eq_true rfl, ?_⟩; conv => whnf)
        | (refine ⟨_, by assumption, Nat.le_of_ble_eq_true rfl, ⟨rfl, rfl⟩, ?_⟩; conv => whnf)
        | (refine ⟨_, by assumption, ?_⟩; conv => whnf))
      rw [show nI t + 1 = nI (t + 1) from nI_1 t]
      refine S_getC hC u3 hN (show t + 1 < N by omega) ?_
      conv => whnf
      refine S_setC hC r2 hN (show t < N by omega) fun h3 r3 ho3 => ?_
      conv => whnf
      have k9 := ih (t + 1) h3 _ _ (by omega) (by omega) r3 (ho1.tr (ho2.tr ho3)) (fun i => by
        by_cases c1 : i = t
        · rw [c1, upd_s, hf (t + 1), if_neg (by omega), if_pos (by omega)]
        · rw [upd_n c1, hf i]
          by_cases c2 : p ≤ i ∧ i < t
          · rw [if_pos c2, if_pos (by omega)]
          · rw [if_neg c2, if_neg (by omega)]) (fun i => by
        by_cases c1 : i = t
        · rw [c1, upd_s, hg (t + 1), if_neg (by omega), if_pos (by omega)]
        · rw [upd_n c1, hg i]
          by_cases c2 : p ≤ i ∧ i < t
          · rw [if_pos c2, if_pos (by omega)]
          · rw [if_neg c2, if_neg (by omega)])
      rw [← zinc] at k9
      exact k9
  refine hgo [28] 30 _ _ _ _ _ _ _ ?_
  conv => whnf
  refine ⟨_, q1, ?_⟩
  conv => whnf
  refine S_X0_numberAt hC hB0 (fun j' w hw9 e => ?_) (fun hno => absurd rfl (hno p hpl))
  have e2 := nI_inj (show p < 2 ^ 31 by omega) (show j' < 2 ^ 31 by have := (List.getElem?_eq_some_iff.mp hw9).1; omega) e
  subst e2
  rw [hp] at hw9
  cases hw9
  conv => whnf
  refine ⟨_, q1, ?_⟩
  conv => whnf
  refine S_X0_holds hC hB0 (fun j' hj' e' => ?_) (fun hno => absurd rfl (hno p hpl))
  conv => whnf
  refine ⟨fun _ => ?_, fun q => absurd q (by decide)⟩
  conv => whnf
  repeat (first
    | (refine ⟨_, by assumption, _, rfl, ?_⟩; conv => whnf)
    | (refine ⟨_, _, by assumption, Nat.le_of_ble_eq_true rfl, ?_⟩; conv => whnf)
    | (refine ⟨_, by assumption, Nat.le_of_ble_eq_true rfl, ⟨rfl, rfl⟩, ?_⟩; conv => whnf)
    | (refine ⟨_, by assumption, ?_⟩; conv => whnf))
  rw [hm, nI_pred m]
  exact loop (m - p) p _ f g (by omega) (Nat.le_refl _) r.sc (zOff.up (by omega) (by omega)) (fun i => by rw [if_neg (by omega)]) (fun i => by rw [if_neg (by omega)])
set_option maxRecDepth 100000 in
theorem S_X0_shift {C : zK} (hC : zCld 215 zTT C) {h : zH} {n : Nat} {K : zQ} {b N : Nat} {L : zB} (hB : zBl h b N L) {p t : Nat} {v : Nat × Nat} (hp : L[p]? = some v) (ht : t < L.length) (H1 : ∀ h', zBl h' b N ((L.eraseIdx p).insertIdx t v) → zOff b (b + 3) h h' → K 0 (some (.int (nI v.1))) h' n) : C 11 [.ref b, .int (nI p), .int (nI t)] h n K := by
  have hB0 := hB
  obtain ⟨f, g, r, hlen, hN, hval, hw⟩ := hB.raw
  obtain ⟨q1, q2, q3⟩ := id r
  have hpl := (List.getElem?_eq_some_iff.mp hp).1
  have hl9 : (L.eraseIdx p).length = L.length - 1 := List.length_eraseIdx_of_lt hpl
  refine zd_X0_shift hC rfl fun P hgo hF => ?_
  refine hgo [] 30 _ _ _ _ _ _ _ ?_
  conv => whnf
  refine ⟨_, q1, ?_⟩
  conv => whnf
  refine S_X0_contentAt hC hB0 (fun j' w hw9 e => ?_) (fun hno => absurd rfl (hno p hpl))
  have e2 := nI_inj (show p < 2 ^ 31 by omega) (show j' < 2 ^ 31 by have := (List.getElem?_eq_some_iff.mp hw9).1; omega) e
  subst e2
  rw [hp] at hw9
  cases hw9
  conv => whnf
  refine ⟨_, q1, ?_⟩
  conv => whnf
  refine S_X0_takeOut hC hB0 hp fun h1 hB1 ho1 => ?_
  obtain ⟨f1, g1, ⟨s1, s2, s3⟩, -⟩ := hB1.raw
  conv => whnf
  refine ⟨_, s1, ?_⟩
  conv => whnf
  refine S_X0_putIn hC hB1 (show t ≤ (L.eraseIdx p).length by omega) (by omega) (hw v (List.mem_of_getElem? hp)) fun h2 hB2 ho2 => ?_
  conv => whnf
  exact H1 h2 hB2 (ho1.tr ho2)
set_option maxRecDepth 100000 in
theorem S_X0_clear {C : zK} (hC : zCld 215 zTT C) {h : zH} {n : Nat} {K : zQ} {b N : Nat} {c : Int32} {f g : Nat → Int32} (r : zRaw h b N c f g) (hN : N ≤ 1000) (H1 : ∀ h', zBl h' b N [] → zOff b (b + 3) h h' → K 0 none h' n) : C 12 [.ref b] h n K := by
  obtain ⟨q1, q2, q3⟩ := id r
  refine zd_X0_clear hC rfl fun P hgo hF => ?_
  refine hgo [] 30 _ _ _ _ _ _ _ ?_
  conv => whnf
  repeat (first
    | (refine ⟨_, by assumption, _, rfl, ?_⟩; conv => whnf)
    | (refine ⟨_, _, by assumption, Nat.le_of_ble_eq_true rfl, ?_⟩; conv => whnf)
    | (refine ⟨_, by assumption, Nat.le_of_ble_eq_true rfl, ⟨rfl, rfl⟩, ?_⟩; conv => whnf)
    | (refine ⟨_, by assumption, ?_⟩; conv => whnf))
  exact H1 _ (zBl.of r.sc rfl (Nat.zero_le _) hN (fun j v hj => nomatch hj) (fun v hv => nomatch hv)) (zOff.up (by omega) (by omega))
set_option maxRecDepth 100000 in
theorem S_X0_copyFrom {C : zK} (hC : zCld 215 zTT C) {h : zH} {n : Nat} {K : zQ} {b N b' N' : Nat} {L : zB} {c : Int32} {f g : Nat → Int32} (r : zRaw h b N c f g) (hN : N ≤ 1000) (hB : zBl h b' N' L) (hL : L.length ≤ N) (hd : b' + 3 ≤ b ∨ b + 3 ≤ b') (H1 : ∀ h', zBl h' b N L → zOff b (b + 3) h h' → K 0 none h' n) : C 13 [.ref b, .ref b'] h n K := by
  have hB0 := hB
  obtain ⟨f', g', r', hlen, hN', hval, hw⟩ := hB.raw
  obtain ⟨q1, q2, q3⟩ := id r
  obtain ⟨q1', q2', q3'⟩ := id r'
  refine zd_X0_copyFrom hC rfl fun P hgo hF => ?_
  have loop : ∀ d t h1 f1 g1, t + d = L.length → zRaw h1 b N (nI L.length) f1 g1 → zOff b (b + 3) h h1 → (∀ i v, i < t → L[i]? = some v → f1 i = nI v.1 ∧ g1 i = nI v.2) → P 18 [some (.ref b), some (.ref b'), some (.int (nI t))] [] h1 n 0 0 := by
    intro d
    induction d with
    | zero =>
      intro t h1 f1 g1 ht r1 ho1 hf
      obtain ⟨s1, s2, s3⟩ := id r1
      refine hgo [18] 30 _ _ _ _ _ _ _ ?_
      conv => whnf
      repeat (first
        | (refine ⟨_, by assumption, _, rfl, ?_⟩; conv => whnf)
        | (refine ⟨_, _, by assumption, Nat.le_of_ble_eq_true rfl, ?_⟩; conv => whnf)
        | (refine ⟨_, by assumption, Nat.le_of_ble_eq_true rfl, ⟨rfl, rfl⟩, ?_⟩; conv => whnf)
        | (refine ⟨_, by assumption, ?_⟩; conv => whnf))
      refine ⟨fun _ => ?_, fun q => absurd (nI_le (show L.length ≤ t by omega) (show t < 2 ^ 31 by omega)) q⟩
      conv => whnf
      exact H1 _ (zBl.of r1 rfl hL hN (fun j v hj => hf j v (by have := (List.getElem?_eq_some_iff.mp hj).1; omega) hj) hw) ho1
    | succ d ih =>
      intro t h1 f1 g1 ht r1 ho1 hf
      obtain ⟨s1, s2, s3⟩ := id r1
      have hB1 := hB0.off ho1 hd
      obtain ⟨f2, g2, ⟨u1, u2, u3⟩, -⟩ := hB1.raw
      obtain ⟨v, hv⟩ : ∃ v, L[t]? = some v := ⟨L[t], List.getElem?_eq_getElem (by omega)⟩
      refine hgo [18] 30 _ _ _ _ _ _ _ ?_
      conv => whnf
      repeat (first
        | (refine ⟨_, by assumption, _, rfl, ?_⟩; conv => whnf)
        | (refine ⟨_, _, by assumption, Nat.le_of_ble_eq_true rfl, ?_⟩; conv => whnf)
        | (refine ⟨_, by assumption, Nat.le_of_ble_eq_true rfl, ⟨rfl, rfl⟩, ?_⟩; conv => whnf)
        | (refine ⟨_, by assumption, ?_⟩; conv => whnf))
      refine ⟨fun q => absurd q (nI_ge (show t < L.length by omega) (show L.length < 2 ^ 31 by omega)), fun _ => ?_⟩
      conv => whnf
      repeat (first
        | (refine ⟨_, by assumption, _, rfl, ?_⟩; conv => whnf)
        | (refine ⟨_, _, by assumption, Nat.le_of_ble_eq_true rfl, ?_⟩; conv => whnf)
        | (refine ⟨_, by assumption, Nat.le_of_ble_eq_true rfl, ⟨rfl, rfl⟩, ?_⟩; conv => whnf)
        | (refine ⟨_, by assumption, ?_⟩; conv => whnf))
      refine S_X0_numberAt hC hB1 (fun j' w hw9 e => ?_) (fun hno => absurd rfl (hno t (by omega)))
      have e2 := nI_inj (show t < 2 ^ 31 by omega) (show j' < 2 ^ 31 by have := (List.getElem?_eq_some_iff.mp hw9).1; omega) e
      subst e2
      rw [hv] at hw9
      cases hw9
      conv => whnf
      refine S_setN hC r1 hN (show t < N by omega) fun h2 r2 ho2 => ?_
      obtain ⟨s1, s2, s3⟩ := id r2
      have hB2 := hB1.off ho2 hd
      obtain ⟨f3, g3, ⟨u1, u2, u3⟩, -⟩ := hB2.raw
      conv => whnf
      repeat (first
        | (refine ⟨_, by assumption, _, rfl, ?_⟩; conv => whnf)
        | (refine ⟨_, _, by assumption, Nat.le_of_ble_eq_true rfl, ?_⟩; conv => whnf)
        | (refine ⟨_, by assumption, Nat.le_of_ble_eq_true rfl, ⟨rfl, rfl⟩, ?_⟩; conv => whnf)
        | (refine ⟨_, by assumption, ?_⟩; conv => whnf))
      refine S_X0_contentAt hC hB2 (fun j' w hw9 e => ?_) (fun hno => absurd rfl (hno t (by omega)))
      have e2 := nI_inj (show t < 2 ^ 31 by omega) (show j' < 2 ^ 31 by have := (List.getElem?_eq_some_iff.mp hw9).1; omega) e
      subst e2
      rw [hv] at hw9
      cases hw9
      conv => whnf
      refine S_setC hC r2 hN (show t < N by omega) fun h3 r3 ho3 => ?_
      conv => whnf
      have k9 := ih (t + 1) h3 _ _ (by omega) r3 (ho1.tr (ho2.tr ho3)) (fun i w hi hw9 => by
        by_cases c1 : i = t
        · subst c1
          rw [hv] at hw9
          cases hw9
          rw [upd_s, upd_s]
          exact ⟨rfl, rfl⟩
        · rw [upd_n c1, upd_n c1]
          exact hf i w (by omega) hw9)
      rw [← zinc] at k9
      exact k9
  refine hgo [18] 30 _ _ _ _ _ _ _ ?_
  conv => whnf
  repeat (first
    | (refine ⟨_, by assumption, _, rfl, ?_⟩; conv => whnf)
    | (refine ⟨_, _, by assumption, Nat.le_of_ble_eq_true rfl, ?_⟩; conv => whnf)
    | (refine ⟨_, by assumption, Nat.le_of_ble_eq_true rfl, ⟨rfl, rfl⟩, ?_⟩; conv => whnf)
    | (refine ⟨_, by assumption, ?_⟩; conv => whnf))
  dsimp only
  rw [if_neg (show ¬ Int32.ofNat N < nI L.length from nI_nlt hL (by omega))]
  exact loop L.length 0 _ f g (by omega) r.sc (zOff.up (by omega) (by omega)) (fun i v hi => absurd hi (Nat.not_lt_zero i))
set_option maxRecDepth 100000 in
theorem S_X0_isLike {C : zK} (hC : zCld 215 zTT C) {h : zH} {n : Nat} {K : zQ} {b N b' N' : Nat} {L L' : zB} (hB : zBl h b N L) (hB' : zBl h b' N' L') (H1 : L = L' → K 0 (some (.int 1)) h n) (H0 : L ≠ L' → K 0 (some (.int 0)) h n) : C 14 [.ref b, .ref b'] h n K := by
  obtain ⟨f, g, ⟨q1, q2, q3⟩, hlen, hN, hval, hw⟩ := hB.raw
  obtain ⟨f', g', ⟨q1', q2', q3'⟩, hlen', hN', hval', hw'⟩ := hB'.raw
  refine zd_X0_isLike hC rfl fun P hgo hF => ?_
  have loop : L.length = L'.length → ∀ d t, t + d = L.length → (∀ i, i < t → L[i]? = L'[i]?) → P 15 [some (.ref b), some (.ref b'), some (.int (nI t))] [] h n 0 0 := by
    intro hll d
    induction d with
    | zero =>
      intro t ht hsame
      refine hgo [15] 40 _ _ _ _ _ _ _ ?_
      conv => whnf
      repeat (first
        | (refine ⟨_, by assumption, _, rfl, ?_⟩; conv => whnf)
        | (refine ⟨_, _, by assumption, Nat.le_of_ble_eq_true rfl, ?_⟩; conv => whnf)
        | (refine ⟨_, by assumption, Nat.le_of_ble_eq_true rfl, ⟨rfl, rfl⟩, ?_⟩; conv => whnf)
        | (refine ⟨_, by assumption, ?_⟩; conv => whnf))
      refine ⟨fun _ => ?_, fun q => absurd (nI_le (show L.length ≤ t by omega) (show t < 2 ^ 31 by omega)) q⟩
      conv => whnf
      refine ⟨Or.inr rfl, H1 (List.ext_getElem? fun i => ?_)⟩
      rcases Nat.lt_or_ge i t with z | z
      · exact hsame i z
      · rw [List.getElem?_eq_none (by omega), List.getElem?_eq_none (by omega)]
    | succ d ih =>
      intro t ht hsame
      obtain ⟨v, hv⟩ : ∃ v, L[t]? = some v := ⟨L[t], List.getElem?_eq_getElem (by omega)⟩
      obtain ⟨v', hv'⟩ : ∃ v, L'[t]? = some v := ⟨L'[t], List.getElem?_eq_getElem (by omega)⟩
      have b1 := hw v (List.mem_of_getElem? hv)
      have b2 := hw' v' (List.mem_of_getElem? hv')
      have key : ∀ {M : zB} {w w' : Nat × Nat} {j' : Nat}, M.length ≤ 1000 → M[t]? = some w → M[j']? = some w' → nI t = nI j' → w' = w := by
        intro M w w' j' hM a1 a2 e
        have e2 := nI_inj (show t < 2 ^ 31 by omega) (show j' < 2 ^ 31 by have := (List.getElem?_eq_some_iff.mp a2).1; omega) e
        subst e2
        rw [a1] at a2
        cases a2
        rfl
      refine hgo [15] 40 _ _ _ _ _ _ _ ?_
      conv => whnf
      repeat (first
        | (refine ⟨_, by assumption, _, rfl, ?_⟩; conv => whnf)
        | (refine ⟨_, _, by assumption, Nat.le_of_ble_eq_true rfl, ?_⟩; conv => whnf)
        | (refine ⟨_, by assumption, Nat.le_of_ble_eq_true rfl, ⟨rfl, rfl⟩, ?_⟩; conv => whnf)
        | (refine ⟨_, by assumption, ?_⟩; conv => whnf))
      refine ⟨fun q => absurd q (nI_ge (show t < L.length by omega) (show L.length < 2 ^ 31 by omega)), fun _ => ?_⟩
      conv => whnf
      repeat (first
        | (refine ⟨_, by assumption, _, rfl, ?_⟩; conv => whnf)
        | (refine ⟨_, _, by assumption, Nat.le_of_ble_eq_true rfl, ?_⟩; conv => whnf)
        | (refine ⟨_, by assumption, Nat.le_of_ble_eq_true rfl, ⟨rfl, rfl⟩, ?_⟩; conv => whnf)
        | (refine ⟨_, by assumption, ?_⟩; conv => whnf))
      refine S_X0_numberAt hC hB (fun j' w hw9 e => ?_) (fun hno => absurd rfl (hno t (by omega)))
      have := key (by omega) hv hw9 e
      subst this
      conv => whnf
      repeat (first
        | (refine ⟨_, by assumption, _, rfl, ?_⟩; conv => whnf)
        | (refine ⟨_, _, by assumption, Nat.le_of_ble_eq_true rfl, ?_⟩; conv => whnf)
        | (refine ⟨_, by assumption, Nat.le_of_ble_eq_true rfl, ⟨rfl, rfl⟩, ?_⟩; conv => whnf)
        | (refine ⟨_, by assumption, ?_⟩; conv => whnf))
      refine S_X0_numberAt hC hB' (fun j' w hw9 e => ?_) (fun hno => absurd rfl (hno t (by omega)))
      have := key (by omega) hv' hw9 e
      subst this
      conv => whnf
      refine ⟨fun q => ?_, fun q => ?_⟩
      · conv => whnf
        refine ⟨Or.inl rfl, H0 fun e => q ?_⟩
        subst e
        rw [hv] at hv'
        cases hv'
        rfl
      · conv => whnf
        repeat (first
          | (refine ⟨_, by assumption, _, rfl, ?_⟩; conv => whnf)
          | (refine ⟨_, _, by assumption, Nat.le_of_ble_eq_true rfl, ?_⟩; conv => whnf)
          | (refine ⟨_, by assumption, Nat.le_of_ble_eq_true rfl, ⟨rfl, rfl⟩, ?_⟩; conv => whnf)
          | (refine ⟨_, by assumption, ?_⟩; conv => whnf))
        refine S_X0_contentAt hC hB (fun j' w hw9 e => ?_) (fun hno => absurd rfl (hno t (by omega)))
        have := key (by omega) hv hw9 e
        subst this
        conv => whnf
        repeat (first
          | (refine ⟨_, by assumption, _, rfl, ?_⟩; conv => whnf)
          | (refine ⟨_, _, by assumption, Nat.le_of_ble_eq_true rfl, ?_⟩; conv => whnf)
          | (refine ⟨_, by assumption, Nat.le_of_ble_eq_true rfl, ⟨rfl, rfl⟩, ?_⟩; conv => whnf)
          | (refine ⟨_, by assumption, ?_⟩; conv => whnf))
        refine S_X0_contentAt hC hB' (fun j' w hw9 e => ?_) (fun hno => absurd rfl (hno t (by omega)))
        have := key (by omega) hv' hw9 e
        subst this
        conv => whnf
        refine ⟨fun q2 => ?_, fun q2 => ?_⟩
        · conv => whnf
          have k9 := ih (t + 1) (by omega) (fun i hi => by
            by_cases c1 : i = t
            · subst c1
              rw [hv, hv']
              exact congrArg some (Prod.ext (nI_inj (by omega) (by omega) q) (nI_inj (by omega) (by omega) q2))
            · exact hsame i (by omega))
          rw [← zinc] at k9
          exact k9
        · conv => whnf
          refine ⟨Or.inl rfl, H0 fun e => q2 ?_⟩
          subst e
          rw [hv] at hv'
          cases hv'
          rfl
  refine hgo [15] 40 _ _ _ _ _ _ _ ?_
  conv => whnf
  repeat (first
    | (refine ⟨_, by assumption, _, rfl, ?_⟩; conv => whnf)
    | (refine ⟨_, _, by assumption, Nat.le_of_ble_eq_true rfl, ?_⟩; conv => whnf)
    | (refine ⟨_, by assumption, Nat.le_of_ble_eq_true rfl, ⟨rfl, rfl⟩, ?_⟩; conv => whnf)
    | (refine ⟨_, by assumption, ?_⟩; conv => whnf))
  refine ⟨fun q => ?_, fun q => ?_⟩
  · conv => whnf
    exact loop (nI_inj (by omega) (by omega) q) L.length 0 (by omega) (fun i hi => absurd hi (Nat.not_lt_zero i))
  · conv => whnf
    exact ⟨Or.inl rfl, H0 fun e => q (by rw [e])⟩
set_option maxRecDepth 100000 in
theorem S_X0_countShared {C : zK} (hC : zCld 215 zTT C) {h : zH} {n : Nat} {K : zQ} {b N b' N' : Nat} {L L' : zB} (hB : zBl h b N L) (hB' : zBl h b' N' L') {flag : Bool} (H1 : K 0 (some (.int (nI (L.filter (zsh L' flag)).length))) h n) : C 15 [.ref b, .ref b', .int (if flag then 1 else 0)] h n K := by
  obtain ⟨f, g, ⟨q1, q2, q3⟩, hlen, hN, hval, hw⟩ := hB.raw
  obtain ⟨f', g', ⟨q1', q2', q3'⟩, hlen', hN', hval', hw'⟩ := hB'.raw
  obtain ⟨fl, hfl⟩ : ∃ z : Int32, z = if flag then 1 else 0 := ⟨_, rfl⟩
  rw [← hfl]
  refine zd_X0_countShared hC rfl fun P hgo hF => ?_
  have loop : ∀ d t, t + d = L.length → ∀ o : Option Value, P 5 [some (.ref b), some (.ref b'), some (.int fl), some (.int (nI ((L.take t).filter (zsh L' flag)).length)), some (.int (nI t)), none] [] h n 0 0 := by
    intro d
    induction d with
    | zero =>
      intro t ht o
      refine hgo [5] 40 _ _ _ _ _ _ _ ?_
      conv => whnf
      repeat (first
        | (refine ⟨_, by assumption, _, rfl, ?_⟩; conv => whnf)
        | (refine ⟨_, _, by assumption, Nat.le_of_ble_eq_true rfl, ?_⟩; conv => whnf)
        | (refine ⟨_, by assumption, Nat.le_of_ble_eq_true rfl, ⟨rfl, rfl⟩, ?_⟩; conv => whnf)
        | (refine ⟨_, by assumption, ?_⟩; conv => whnf))
      refine ⟨fun _ => ?_, fun q => absurd (nI_le (show L.length ≤ t by omega) (show t < 2 ^ 31 by omega)) q⟩
      conv => whnf
      rw [List.take_of_length_le (by omega)]
      exact H1
    | succ d ih =>
      intro t ht o
      obtain ⟨v, hv⟩ : ∃ v, L[t]? = some v := ⟨L[t], List.getElem?_eq_getElem (by omega)⟩
      have b1 := hw v (List.mem_of_getElem? hv)
      have key : ∀ {M : zB} {w w' : Nat × Nat} {i j' : Nat}, M.length ≤ 1000 → M[i]? = some w → M[j']? = some w' → nI i = nI j' → w' = w := by
        intro M w w' i j' hM a1 a2 e
        have e2 := nI_inj (show i < 2 ^ 31 by have := (List.getElem?_eq_some_iff.mp a1).1; omega) (show j' < 2 ^ 31 by have := (List.getElem?_eq_some_iff.mp a2).1; omega) e
        subst e2
        rw [a1] at a2
        cases a2
        rfl
      have htk : L.take (t + 1) = L.take t ++ [v] := by rw [List.take_add_one, hv]; rfl
      have hcnt : ((L.take (t + 1)).filter (zsh L' flag)).length = ((L.take t).filter (zsh L' flag)).length + if zsh L' flag v then 1 else 0 := by
        rw [htk, List.filter_append, List.length_append]
        congr 1
        by_cases c1 : zsh L' flag v = true
        · simp [c1]
        · simp [c1]
      have no : zsh L' flag v = false → ∀ o2 : Option Value, P 54 [some (.ref b), some (.ref b'), some (.int fl), some (.int (nI ((L.take t).filter (zsh L' flag)).length)), some (.int (nI t)), o2] [] h n 0 0 := by
        intro hz o2
        refine hgo [5] 10 _ _ _ _ _ _ _ ?_
        conv => whnf
        have k9 := ih (t + 1) (by omega) none
        rw [hcnt, hz, ← zinc (j := t)] at k9
        refine hF _ _ _ _ _ _ _ _ ?_ k9
        intro i w hi
        match i, hi with
        | 0, hi => exact hi
        | 1, hi => exact hi
        | 2, hi => exact hi
        | 3, hi => exact hi
        | 4, hi => exact hi
        | 5, hi => exact nomatch hi
        | i + 6, hi => exact nomatch hi
      have yes : zsh L' flag v = true → ∀ o2 : Option Value, P 51 [some (.ref b), some (.ref b'), some (.int fl), some (.int (nI ((L.take t).filter (zsh L' flag)).length)), some (.int (nI t)), o2] [] h n 0 0 := by
        intro hz o2
        refine hgo [5] 10 _ _ _ _ _ _ _ ?_
        conv => whnf
        have k9 := ih (t + 1) (by omega) none
        rw [hcnt, hz, if_pos rfl, ← zinc (j := t), ← zinc] at k9
        refine hF _ _ _ _ _ _ _ _ ?_ k9
        intro i w hi
        match i, hi with
        | 0, hi => exact hi
        | 1, hi => exact hi
        | 2, hi => exact hi
        | 3, hi => exact hi
        | 4, hi => exact hi
        | 5, hi => exact nomatch hi
        | i + 6, hi => exact nomatch hi
      refine hgo [5, 51, 54] 40 _ _ _ _ _ _ _ ?_
      conv => whnf
      repeat (first
        | (refine ⟨_, by assumption, _, rfl, ?_⟩; conv => whnf)
        | (refine ⟨_, _, by assumption, Nat.le_of_ble_eq_true rfl, ?_⟩; conv => whnf)
        | (refine ⟨_, by assumption, Nat.le_of_ble_eq_true rfl, ⟨rfl, rfl⟩, ?_⟩; conv => whnf)
        | (refine ⟨_, by assumption, ?_⟩; conv => whnf))
      refine ⟨fun q => absurd q (nI_ge (show t < L.length by omega) (show L.length < 2 ^ 31 by omega)), fun _ => ?_⟩
      conv => whnf
      repeat (first
        | (refine ⟨_, by assumption, _, rfl, ?_⟩; conv => whnf)
        | (refine ⟨_, _, by assumption, Nat.le_of_ble_eq_true rfl, ?_⟩; conv => whnf)
        | (refine ⟨_, by assumption, Nat.le_of_ble_eq_true rfl, ⟨rfl, rfl⟩, ?_⟩; conv => whnf)
        | (refine ⟨_, by assumption, ?_⟩; conv => whnf))
      refine S_X0_numberAt hC hB (fun j' w hw9 e => ?_) (fun hno => absurd rfl (hno t (by omega)))
      rw [key (by omega) hv hw9 e]
      conv => whnf
      repeat (first
        | (refine ⟨_, by assumption, _, rfl, ?_⟩; conv => whnf)
        | (refine ⟨_, _, by assumption, Nat.le_of_ble_eq_true rfl, ?_⟩; conv => whnf)
        | (refine ⟨_, by assumption, Nat.le_of_ble_eq_true rfl, ⟨rfl, rfl⟩, ?_⟩; conv => whnf)
        | (refine ⟨_, by assumption, ?_⟩; conv => whnf))
      refine S_X0_find hC hB' b1.1 (fun j hj => ?_) (fun hno => ?_)
      · conv => whnf
        obtain ⟨w9, hw9, -⟩ := hj.1
        have hjl := (List.getElem?_eq_some_iff.mp hw9).1
        have hfd := zfd_find hj hw9
        have b2 := hw' w9 (List.mem_of_getElem? hw9)
        refine ⟨fun q => absurd q (nI_ne_m1 (show j < 2 ^ 31 by omega)), fun _ => ?_⟩
        conv => whnf
        refine ⟨fun q => ?_, fun q => ?_⟩
        · conv => whnf
          have hfl0 : flag = false := by
            cases flag with
            | false => rfl
            | true => rw [hfl] at q; exact absurd q (by decide)
          exact yes (by unfold zsh; rw [hfd, hfl0]; rfl) _
        · conv => whnf
          have hfl1 : flag = true := by
            cases flag with
            | false => rw [hfl] at q; exact absurd rfl q
            | true => rfl
          repeat (first
            | (refine ⟨_, by assumption, _, rfl, ?_⟩; conv => whnf)
            | (refine ⟨_, _, by assumption, Nat.le_of_ble_eq_true rfl, ?_⟩; conv => whnf)
            | (refine ⟨_, by assumption, Nat.le_of_ble_eq_true rfl, ⟨rfl, rfl⟩, ?_⟩; conv => whnf)
            | (refine ⟨_, by assumption, ?_⟩; conv => whnf))
          refine S_X0_contentAt hC hB' (fun j' w hw8 e => ?_) (fun hno => absurd rfl (hno j hjl))
          rw [key (by omega) hw9 hw8 e]
          conv => whnf
          repeat (first
            | (refine ⟨_, by assumption, _, rfl, ?_⟩; conv => whnf)
            | (refine ⟨_, _, by assumption, Nat.le_of_ble_eq_true rfl, ?_⟩; conv => whnf)
            | (refine ⟨_, by assumption, Nat.le_of_ble_eq_true rfl, ⟨rfl, rfl⟩, ?_⟩; conv => whnf)
            | (refine ⟨_, by assumption, ?_⟩; conv => whnf))
          refine S_X0_contentAt hC hB (fun j' w hw8 e => ?_) (fun hno => absurd rfl (hno t (by omega)))
          rw [key (by omega) hv hw8 e]
          conv => whnf
          refine ⟨fun q2 => ?_, fun q2 => ?_⟩
          · conv => whnf
            refine no ?_ _
            unfold zsh
            rw [hfd, hfl1]
            have : w9.2 ≠ v.2 := fun e => q2 (by rw [e])
            simp [this]
          · conv => whnf
            refine yes ?_ _
            unfold zsh
            rw [hfd, hfl1]
            have : w9.2 = v.2 := nI_inj (by omega) (by omega) q2
            simp [this]
      · conv => whnf
        refine ⟨fun _ => ?_, fun q => absurd rfl q⟩
        conv => whnf
        exact no (by unfold zsh; rw [zfd_none hno]) _
  refine hgo [5] 40 _ _ _ _ _ _ _ ?_
  conv => whnf
  exact loop L.length 0 (by omega) none
set_option maxRecDepth 100000 in
theorem S_X0_init {C : zK} (hC : zCld 215 zTT C) {h : zH} {n : Nat} {K : zQ} {b N N' : Nat} {c : Value} {f g : Nat → Int32} {d e : Value} {a1 a2 : Nat} (hb : h b = .inr (0, [d, e, c])) (H1 : K 0 none (zupd (zupd (zupd h b (.inr (0, [d, e, .int 0]))) b (.inr (0, [.ref a1, e, .int 0]))) b (.inr (0, [.ref a1, .ref a2, .int 0]))) n) : C 0 [.ref b, .ref a1, .ref a2] h n K := by
  refine zd_X0_init hC rfl fun P hgo hF => ?_
  refine hgo [] 30 _ _ _ _ _ _ _ ?_
  conv => whnf
  refine ⟨_, hb, Nat.le_of_ble_eq_true rfl, ⟨rfl, rfl⟩, ?_⟩
  conv => whnf
  refine ⟨_, zupd_s, Nat.le_of_ble_eq_true rfl, ⟨rfl, rfl⟩, ?_⟩
  conv => whnf
  refine ⟨_, zupd_s, Nat.le_of_ble_eq_true rfl, ⟨rfl, rfl⟩, ?_⟩
  conv => whnf
  exact H1
set_option maxRecDepth 100000 in
theorem S_JA_fill {C : zK} (hC : zCld 215 zTT C) {h : zH} {n : Nat} {K : zQ} {a k : Nat} {f : Nat → Int32} (ha : h a = .inl (0, k, .inl f)) (hk : k ≤ 1000) {x : Int32} (H1 : ∀ h' f', h' a = .inl (0, k, .inl f') → (∀ i, i < k → f' i = x) → zOff a (a + 1) h h' → K 0 none h' n) : C 193 [.ref a, .int x] h n K := by
  refine zd_JA_fill hC rfl fun P hgo hF => ?_
  have loop : ∀ d t h1 f1, t + d = k → h1 a = .inl (0, k, .inl f1) → zOff a (a + 1) h h1 → (∀ i, i < t → f1 i = x) → P 5 [some (.ref a), some (.int x), some (.int (nI t)), some (.int (nI k))] [] h1 n 0 0 := by
    intro d
    induction d with
    | zero =>
      intro t h1 f1 ht ha1 ho hf
      refine hgo [5] 30 _ _ _ _ _ _ _ ?_
      conv => whnf
      refine ⟨fun _ => ?_, fun q => absurd (nI_le (show k ≤ t by omega) (show t < 2 ^ 31 by omega)) q⟩
      conv => whnf
      exact H1 h1 f1 ha1 (fun i hi => hf i (by omega)) ho
    | succ d ih =>
      intro t h1 f1 ht ha1 ho hf
      refine hgo [5] 30 _ _ _ _ _ _ _ ?_
      conv => whnf
      refine ⟨fun q => absurd q (nI_ge (show t < k by omega) (show k < 2 ^ 31 by omega)), fun _ => ?_⟩
      conv => whnf
      refine ⟨_, _, ha1, vp_in_nI (show t < k by omega) (by omega), ?_⟩
      rw [nI_clamp (show t < 2 ^ 31 by omega)]
      conv => whnf
      have k9 := ih (t + 1) (zupd h1 a (.inl (0, k, .inl (upd f1 t x)))) (upd f1 t x) (by omega) zupd_s (ho.tr (zOff.up (Nat.le_refl a) (by omega))) (fun i hi => by
        by_cases c1 : i = t
        · rw [c1, upd_s]
        · rw [upd_n c1]; exact hf i (by omega))
      rw [← zinc] at k9
      exact k9
  refine hgo [5] 30 _ _ _ _ _ _ _ ?_
  conv => whnf
  repeat (first
    | (refine ⟨_, by assumption, _, rfl, ?_⟩; conv => whnf)
    | (refine ⟨_, _, by assumption, Nat.le_of_ble_eq_true rfl, ?_⟩; conv => whnf)
    | (refine ⟨_, by assumption, Nat.le_of_ble_eq_true rfl, ⟨rfl, rfl⟩, ?_⟩; conv => whnf)
    | (refine ⟨_, by assumption, ?_⟩; conv => whnf))
  exact loop k 0 h f (by omega) ha zOff.rf (fun i hi => absurd hi (Nat.not_lt_zero i))

