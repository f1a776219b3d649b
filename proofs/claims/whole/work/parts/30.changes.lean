/-! DraftChanges: the kept sequence -/
theorem zimax {a b : Nat} (ha : a < 2 ^ 31) (hb : b < 2 ^ 31) : (if nI a < nI b then nI b else nI a) = nI (max a b) := by
  by_cases c1 : a < b
  · rw [if_pos (nI_lt c1 hb), Nat.max_eq_right (by omega)]
  · rw [if_neg (nI_nlt (by omega) (by omega)), Nat.max_eq_left (by omega)]
/-- the longest of those that begin later with a greater number -/
def zbm (x : Nat) : zB → List Nat → Nat
  | v :: L, a :: A => max (if x < v.1 then a else 0) (zbm x L A)
  | _, _ => 0
/-- for each place the length of the longest ascending sequence of blocks of the base that begins there -/
def zas (nb : Nat) : zB → List Nat
  | [] => []
  | v :: L => (if v.1 < nb then zbm v.1 L (zas nb L) + 1 else 0) :: zas nb L
def zal (nb : Nat) (L : zB) (p : Nat) : Nat := (zas nb (L.drop p)).headD 0
def zlx : List Nat → Nat
  | [] => 0
  | a :: A => max a (zlx A)
theorem zdrop {L : zB} {p : Nat} {v : Nat × Nat} (h : L[p]? = some v) : L.drop p = v :: L.drop (p + 1) := by
  obtain ⟨hl, e⟩ := List.getElem?_eq_some_iff.mp h
  rw [List.drop_eq_getElem_cons hl, e]
theorem zas_drop {nb : Nat} {L : zB} {p : Nat} {v : Nat × Nat} (h : L[p]? = some v) : zas nb (L.drop p) = zal nb L p :: zas nb (L.drop (p + 1)) := by
  unfold zal
  rw [zdrop h]
  rfl
theorem zal_at {nb : Nat} {L : zB} {p : Nat} {v : Nat × Nat} (h : L[p]? = some v) : zal nb L p = if v.1 < nb then zbm v.1 (L.drop (p + 1)) (zas nb (L.drop (p + 1))) + 1 else 0 := by
  unfold zal
  rw [zdrop h]
  rfl
theorem zbm_le {nb x : Nat} : ∀ (L : zB), zbm x L (zas nb L) ≤ L.length := by
  intro L
  induction L generalizing x with
  | nil => exact Nat.zero_le _
  | cons v L ih =>
    show max (if x < v.1 then (if v.1 < nb then zbm v.1 L (zas nb L) + 1 else 0) else 0) (zbm x L (zas nb L)) ≤ L.length + 1
    have h1 := ih (x := x)
    have h2 := ih (x := v.1)
    refine Nat.max_le.mpr ⟨?_, by omega⟩
    split
    · split <;> omega
    · omega
theorem zal_le {nb : Nat} {L : zB} {p : Nat} : zal nb L p ≤ L.length := by
  cases h : L[p]? with
  | none =>
    unfold zal
    rw [List.drop_of_length_le (List.getElem?_eq_none_iff.mp h)]
    exact Nat.zero_le _
  | some v =>
    have hl := (List.getElem?_eq_some_iff.mp h).1
    rw [zal_at h]
    have := zbm_le (nb := nb) (x := v.1) (L.drop (p + 1))
    rw [List.length_drop] at this
    split <;> omega
def zDc (h : zH) (d : Nat) (cf af : Nat → Int32) : Prop := h d = .inr (2, [.ref (d + 1), .ref (d + 2)]) ∧ h (d + 1) = .inl (0, 10, .inl cf) ∧ h (d + 2) = .inl (0, 15, .inl af)
theorem zDc.off {lo hi d : Nat} {cf af : Nat → Int32} {h h' : zH} (H : zDc h d cf af) (ho : zOff lo hi h h') (hd : d + 3 ≤ lo ∨ hi ≤ d) : zDc h' d cf af := ⟨(ho _ (by omega)).trans H.1, (ho _ (by omega)).trans H.2.1, (ho _ (by omega)).trans H.2.2⟩
theorem zkeyI {M : zB} {w w' : Nat × Nat} {i j' : Nat} (hM : M.length ≤ 1000) (a1 : M[i]? = some w) (a2 : M[j']? = some w') (e : nI i = nI j') : w' = w := by
  have e2 := nI_inj (show i < 2 ^ 31 by have := (List.getElem?_eq_some_iff.mp a1).1; omega) (show j' < 2 ^ 31 by have := (List.getElem?_eq_some_iff.mp a2).1; omega) e
  rw [← e2, a1] at a2
  cases a2
  rfl
set_option maxRecDepth 100000 in
theorem S_numAt {C : zK} (hC : zCld 215 zTT C) {h : zH} {n : Nat} {K : zQ} {b N : Nat} {L : zB} (hB : zBl h b N L) {j : Nat} {v : Nat × Nat} (hv : L[j]? = some v) (H1 : K 0 (some (.int (nI v.1))) h n) : C 3 [.ref b, .int (nI j)] h n K := by
  have hl := (List.getElem?_eq_some_iff.mp hv).1
  obtain ⟨f, g, -, hlen, hN, -⟩ := hB.raw
  refine S_X0_numberAt hC hB (fun j' w hw e => ?_) (fun hno => absurd rfl (hno j hl))
  rw [zkeyI (by omega) hv hw e]
  exact H1
set_option maxRecDepth 100000 in
theorem S_conAt {C : zK} (hC : zCld 215 zTT C) {h : zH} {n : Nat} {K : zQ} {b N : Nat} {L : zB} (hB : zBl h b N L) {j : Nat} {v : Nat × Nat} (hv : L[j]? = some v) (H1 : K 0 (some (.int (nI v.2))) h n) : C 4 [.ref b, .int (nI j)] h n K := by
  have hl := (List.getElem?_eq_some_iff.mp hv).1
  obtain ⟨f, g, -, hlen, hN, -⟩ := hB.raw
  refine S_X0_contentAt hC hB (fun j' w hw e => ?_) (fun hno => absurd rfl (hno j hl))
  rw [zkeyI (by omega) hv hw e]
  exact H1
set_option maxRecDepth 100000 in
theorem S_X2_lengthFrom {C : zK} (hC : zCld 215 zTT C) {h : zH} {n : Nat} {K : zQ} {d b nb p : Nat} {L : zB} {cf af : Nat → Int32} {v : Nat × Nat} (H : zDc h d cf af) (hB : zBl h b 15 L) (hnb : nb ≤ 1000) (hv : L[p]? = some v) (haf : ∀ j, p < j → j < L.length → af j = nI (zal nb L j)) (H1 : K 0 (some (.int (nI (zal nb L p)))) h n) : C 39 [.ref d, .int (nI p), .int (nI nb), .ref b] h n K := by
  obtain ⟨h1, h2, h3⟩ := id H
  have hB0 := hB
  obtain ⟨f, g, ⟨b1, -, -⟩, hlen, hN, hval, hw⟩ := hB.raw
  have hpl := (List.getElem?_eq_some_iff.mp hv).1
  have hvb := hw v (List.mem_of_getElem? hv)
  refine zd_X2_lengthFrom hC rfl fun P hgo hF => ?_
  have loop : ∀ e j best, j + e = L.length → p < j → best ≤ 1000 → v.1 < nb → max best (zbm v.1 (L.drop j) (zas nb (L.drop j))) = zbm v.1 (L.drop (p + 1)) (zas nb (L.drop (p + 1))) → P 23 [some (.ref d), some (.int (nI p)), some (.int (nI nb)), some (.ref b), some (.int (nI v.1)), some (.int (nI best)), some (.int (nI j))] [] h n 0 0 := by
    intro e
    induction e with
    | zero =>
      intro j best hj hpj hbest hvn hinv
      rw [List.drop_of_length_le (show L.length ≤ j by omega)] at hinv
      refine hgo [23] 40 _ _ _ _ _ _ _ ?_
      conv => whnf
      repeat (first
        | (refine ⟨_, by assumption, _, rfl, ?_⟩; conv => whnf)
        | (refine ⟨_, _, by assumption, Nat.le_of_ble_eq_true rfl, ?_⟩; conv => whnf)
        | (refine ⟨_, by assumption, Nat.le_of_ble_eq_true rfl, ⟨rfl, rfl⟩, ?_⟩; conv => whnf)
        | (refine ⟨_, by assumption, ?_⟩; conv => whnf))
      refine ⟨fun _ => ?_, fun q => absurd (nI_le (show L.length ≤ j by omega) (show j < 2 ^ 31 by omega)) q⟩
      conv => whnf
      rw [zal_at hv, if_pos hvn, ← hinv, show max best (zbm v.1 [] (zas nb [])) = best from Nat.max_eq_left (Nat.zero_le _)] at H1
      rw [show nI best + 1 = nI (best + 1) from nI_1 _]
      exact H1
    | succ e ih =>
      intro j best hj hpj hbest hvn hinv
      obtain ⟨u, hu⟩ : ∃ u, L[j]? = some u := ⟨L[j], List.getElem?_eq_getElem (by omega)⟩
      have hub := hw u (List.mem_of_getElem? hu)
      have hza := zal_le (nb := nb) (L := L) (p := j)
      rw [zas_drop hu, zdrop hu] at hinv
      have hinv' : max best (max (if v.1 < u.1 then zal nb L j else 0) (zbm v.1 (L.drop (j + 1)) (zas nb (L.drop (j + 1))))) = zbm v.1 (L.drop (p + 1)) (zas nb (L.drop (p + 1))) := hinv
      refine hgo [23] 40 _ _ _ _ _ _ _ ?_
      conv => whnf
      repeat (first
        | (refine ⟨_, by assumption, _, rfl, ?_⟩; conv => whnf)
        | (refine ⟨_, _, by assumption, Nat.le_of_ble_eq_true rfl, ?_⟩; conv => whnf)
        | (refine ⟨_, by assumption, Nat.le_of_ble_eq_true rfl, ⟨rfl, rfl⟩, ?_⟩; conv => whnf)
        | (refine ⟨_, by assumption, ?_⟩; conv => whnf))
      refine ⟨fun q => absurd q (nI_ge (show j < L.length by omega) (show L.length < 2 ^ 31 by omega)), fun _ => ?_⟩
      conv => whnf
      repeat (first
        | (refine ⟨_, by assumption, _, rfl, ?_⟩; conv => whnf)
        | (refine ⟨_, _, by assumption, Nat.le_of_ble_eq_true rfl, ?_⟩; conv => whnf)
        | (refine ⟨_, by assumption, Nat.le_of_ble_eq_true rfl, ⟨rfl, rfl⟩, ?_⟩; conv => whnf)
        | (refine ⟨_, by assumption, ?_⟩; conv => whnf))
      refine S_numAt hC hB0 hu ?_
      conv => whnf
      refine ⟨fun q => ?_, fun q => ?_⟩
      · have hle : u.1 ≤ v.1 := (nI_leI (by omega) (by omega)).mp q
        rw [if_neg (by omega)] at hinv'
        conv => whnf
        have k9 := ih (j + 1) best (by omega) (by omega) hbest hvn (by rw [← hinv']; omega)
        rw [← zinc] at k9
        exact k9
      · have hlt : v.1 < u.1 := Nat.lt_of_not_le fun z => q ((nI_leI (by omega) (by omega)).mpr z)
        rw [if_pos hlt] at hinv'
        conv => whnf
        repeat (first
          | (refine ⟨_, by assumption, _, rfl, ?_⟩; conv => whnf)
          | (refine ⟨_, _, by assumption, Nat.le_of_ble_eq_true rfl, ?_⟩; conv => whnf)
          | (refine ⟨_, by assumption, Nat.le_of_ble_eq_true rfl, ⟨rfl, rfl⟩, ?_⟩; conv => whnf)
          | (refine ⟨_, by assumption, ?_⟩; conv => whnf))
        refine S_getC hC h3 (by decide) (show j < 15 by omega) ?_
        rw [haf j hpj (by omega)]
        conv => whnf
        rw [zimax (by omega) (by omega)]
        have k9 := ih (j + 1) (max best (zal nb L j)) (by omega) (by omega) (by omega) hvn (by rw [← hinv']; omega)
        rw [← zinc] at k9
        exact k9
  refine hgo [23] 40 _ _ _ _ _ _ _ ?_
  conv => whnf
  repeat (first
    | (refine ⟨_, by assumption, _, rfl, ?_⟩; conv => whnf)
    | (refine ⟨_, _, by assumption, Nat.le_of_ble_eq_true rfl, ?_⟩; conv => whnf)
    | (refine ⟨_, by assumption, Nat.le_of_ble_eq_true rfl, ⟨rfl, rfl⟩, ?_⟩; conv => whnf)
    | (refine ⟨_, by assumption, ?_⟩; conv => whnf))
  refine S_numAt hC hB0 hv ?_
  conv => whnf
  refine ⟨fun q => ?_, fun q => ?_⟩
  · have hvn : v.1 < nb := (nI_ltI (by omega) (by omega)).mp q
    conv => whnf
    rw [show nI p + 1 = nI (p + 1) from nI_1 p]
    exact loop (L.length - (p + 1)) (p + 1) 0 (by omega) (by omega) (by omega) hvn (Nat.max_eq_right (Nat.zero_le _))
  · have hvn : ¬ v.1 < nb := fun z => q ((nI_ltI (by omega) (by omega)).mpr z)
    rw [zal_at hv, if_neg hvn] at H1
    conv => whnf
    exact H1
set_option maxRecDepth 100000 in
theorem S_X2_measureAscending {C : zK} (hC : zCld 215 zTT C) {h : zH} {n : Nat} {K : zQ} {d b nb : Nat} {L : zB} {cf af : Nat → Int32} (H : zDc h d cf af) (hB : zBl h b 15 L) (hnb : nb ≤ 1000) (hd : b + 3 ≤ d ∨ d + 3 ≤ b) (H1 : ∀ h' af', zDc h' d cf af' → (∀ j, j < L.length → af' j = nI (zal nb L j)) → zOff d (d + 3) h h' → K 0 (some (.int (nI (zlx (zas nb L))))) h' n) : C 38 [.ref d, .int (nI nb), .ref b] h n K := by
  have hB0 := hB
  obtain ⟨f, g, ⟨b1, -, -⟩, hlen, hN, hval, hw⟩ := hB.raw
  refine zd_X2_measureAscending hC rfl fun P hgo hF => ?_
  have zlx_le : ∀ p, zlx (zas nb (L.drop p)) ≤ 1000 := by
    have : ∀ M : zB, zlx (zas nb M) ≤ M.length := by
      intro M
      induction M with
      | nil => exact Nat.zero_le _
      | cons v M ih =>
        show max (if v.1 < nb then zbm v.1 M (zas nb M) + 1 else 0) (zlx (zas nb M)) ≤ M.length + 1
        have := zbm_le (nb := nb) (x := v.1) M
        refine Nat.max_le.mpr ⟨?_, by omega⟩
        split <;> omega
    intro p
    have h9 := this (L.drop p)
    rw [List.length_drop] at h9
    omega
  have loop : ∀ (p : Nat) (h2 : zH) (af2 : Nat → Int32) (o : Option Value), p ≤ L.length → zDc h2 d cf af2 → zOff d (d + 3) h h2 → (∀ j, p ≤ j → j < L.length → af2 j = nI (zal nb L j)) → P 10 [some (.ref d), some (.int (nI nb)), some (.ref b), some (.int (nI (zlx (zas nb (L.drop p))))), some (.int (nI p - 1)), none] [] h2 n 0 0 := by
    intro p
    induction p with
    | zero =>
      intro h2 af2 o hp D2 ho hj
      refine hgo [10] 40 _ _ _ _ _ _ _ ?_
      conv => whnf
      refine ⟨fun _ => ?_, fun q => absurd (by decide) q⟩
      conv => whnf
      exact H1 h2 af2 D2 (fun j hj2 => hj j (Nat.zero_le _) hj2) ho
    | succ p ih =>
      intro h2 af2 o hp D2 ho hj
      obtain ⟨a1, a2, a3⟩ := id D2
      obtain ⟨v, hv⟩ : ∃ v, L[p]? = some v := ⟨L[p], List.getElem?_eq_getElem (by omega)⟩
      have hB2 := hB0.off ho hd
      have hza := zal_le (nb := nb) (L := L) (p := p)
      have hzx := zlx_le (p + 1)
      rw [show nI (p + 1) - 1 = nI p from nI_pred p]
      refine hgo [10] 40 _ _ _ _ _ _ _ ?_
      conv => whnf
      refine ⟨fun q => absurd q (nI_pos (show p < 2 ^ 31 by omega)), fun _ => ?_⟩
      conv => whnf
      repeat (first
        | (refine ⟨_, by assumption, _, rfl, ?_⟩; conv => whnf)
        | (refine ⟨_, _, by assumption, Nat.le_of_ble_eq_true rfl, ?_⟩; conv => whnf)
        | (refine ⟨_, by assumption, Nat.le_of_ble_eq_true rfl, ⟨rfl, rfl⟩, ?_⟩; conv => whnf)
        | (refine ⟨_, by assumption, ?_⟩; conv => whnf))
      refine S_X2_lengthFrom hC D2 hB2 hnb hv (fun j h8 h9 => hj j h8 h9) ?_
      conv => whnf
      repeat (first
        | (refine ⟨_, by assumption, _, rfl, ?_⟩; conv => whnf)
        | (refine ⟨_, _, by assumption, Nat.le_of_ble_eq_true rfl, ?_⟩; conv => whnf)
        | (refine ⟨_, by assumption, Nat.le_of_ble_eq_true rfl, ⟨rfl, rfl⟩, ?_⟩; conv => whnf)
        | (refine ⟨_, by assumption, ?_⟩; conv => whnf))
      refine S_X6_setCell hC a3 (by decide) (fun j' hj' e => ?_) (fun hno => absurd rfl (hno p (by omega)))
      rw [← nI_inj (show p < 2 ^ 31 by omega) (show j' < 2 ^ 31 by omega) e]
      conv => whnf
      rw [zimax (by omega) (by omega)]
      have o9 : zOff (d + 2) (d + 3) h2 (zupd h2 (d + 2) (.inl (0, 15, .inl (upd af2 p (nI (zal nb L p)))))) := zOff.up (Nat.le_refl _) (by omega)
      have k9 := ih _ (upd af2 p (nI (zal nb L p))) none (by omega) ⟨(o9 _ (by omega)).trans a1, (o9 _ (by omega)).trans a2, zupd_s⟩ (ho.tr (o9.wd (by omega) (by omega))) (fun j h8 h9 => by
        by_cases c1 : j = p
        · rw [c1, upd_s]
        · rw [upd_n c1]; exact hj j (by omega) h9)
      rw [zas_drop hv, show zlx (zal nb L p :: zas nb (L.drop (p + 1))) = max (zlx (zas nb (L.drop (p + 1)))) (zal nb L p) from Nat.max_comm _ _] at k9
      rw [show nI p - 1 = nI p + Int32.ofInt (-1) by rw [show Int32.ofInt (-1) = -1 by decide, Int32.sub_eq_add_neg]] at k9
      refine hF _ _ _ _ _ _ _ _ ?_ k9
      intro i w hi
      match i, hi with
      | 0, hi => exact hi
      | 1, hi => exact hi
      | 2, hi => exact hi
      | 3, hi => exact hi
      | 4, hi => exact hi
      | 5, hi => exact nomatch hi
      | i + 6, hi => exact nomatch hi
  refine hgo [10] 40 _ _ _ _ _ _ _ ?_
  conv => whnf
  repeat (first
    | (refine ⟨_, by assumption, _, rfl, ?_⟩; conv => whnf)
    | (refine ⟨_, _, by assumption, Nat.le_of_ble_eq_true rfl, ?_⟩; conv => whnf)
    | (refine ⟨_, by assumption, Nat.le_of_ble_eq_true rfl, ⟨rfl, rfl⟩, ?_⟩; conv => whnf)
    | (refine ⟨_, by assumption, ?_⟩; conv => whnf))
  have k9 := loop L.length h af none (Nat.le_refl _) H zOff.rf (fun j h8 h9 => absurd h9 (by omega))
  rw [List.drop_of_length_le (Nat.le_refl _)] at k9
  exact k9

