/-! THE LAW: its loop, and its start -/
theorem zHis.eq {h h' : zH} {t nx : Nat} {Sv : List zS} (H : zHis h t nx Sv) (o : ∀ a, t ≤ a → a < t + 68 → h' a = h a) : zHis h' t nx Sv := by
  obtain ⟨h1, ⟨rf, h2, h3⟩, h4, h5, h6, h7⟩ := H
  refine ⟨(o _ (by omega) (by omega)).trans h1, ⟨rf, (o _ (by omega) (by omega)).trans h2, h3⟩, h4, h5, fun i hi => (h6 i hi).eq (fun a z1 z2 => o a (by omega) (by omega)), fun j σ hj => (h7 j σ hj).eq (fun a z1 z2 => ?_)⟩
  have := Nat.mod_lt (nx + 5 - j) (show 0 < 6 by decide)
  exact o a (by omega) (by omega)
theorem zTx.eq {h h' : zH} {t : Nat} {T : List Int32} {q : zq} (H : zTx h t T q) (o : ∀ a, t ≤ a → a < t + 2 → h' a = h a) : zTx h' t T q := by
  obtain ⟨h1, ⟨f, h2, h3⟩, h4⟩ := H
  exact ⟨(o _ (by omega) (by omega)).trans h1, ⟨f, (o _ (by omega) (by omega)).trans h2, h3⟩, h4⟩
theorem zX.low {h h' : zH} {A : zA} (H : zX h A) (o : ∀ a, a < 96 → h' a = h a) : zX h' A := by
  obtain ⟨h1, h2, ⟨nx, h3⟩, h4, ⟨q, h5⟩, h6⟩ := H
  exact ⟨(o _ (by omega)).trans h1, h2.eq (fun a z1 z2 => o a (by omega)), ⟨nx, h3.eq (fun a z1 z2 => o a (by omega))⟩, h4.eq (fun a z1 z2 => o a (by omega)), ⟨q, h5.eq (fun a z1 z2 => o a (by omega))⟩, h6⟩
theorem zlw_sub {L j : Nat} (hL : L ≤ 2048) (hj : 4 * j ≤ L) : (Int32.ofNat L - 4 < nI (4 * j) ↔ L < 4 * j + 4) := by
  rcases Nat.lt_or_ge L 4 with h4 | h4
  · have j0 : j = 0 := by omega
    subst j0
    constructor
    · intro _
      omega
    · intro _
      match L, h4 with
      | 0, _ => decide
      | 1, _ => decide
      | 2, _ => decide
      | 3, _ => decide
  · obtain ⟨m, rfl⟩ : ∃ m, L = m + 4 := ⟨L - 4, by omega⟩
    have e : Int32.ofNat (m + 4) - 4 = nI m := by
      rw [show Int32.ofNat (m + 4) = nI m + nI 4 from (nI_add m 4).symm, show (4 : Int32) = nI 4 by decide, Int32.add_sub_cancel]
    rw [e]
    constructor
    · intro h
      exact Nat.lt_of_not_le fun g => nI_nlt (show 4 * j ≤ m by omega) (by omega) h
    · intro h
      exact nI_lt (by omega) (by omega)
theorem zlw_case {C : zK} (hC : zCld 215 zTT C) {K : zQ} {xs : Nat → Int32} {L : Nat} {P : zP} (hgo : zGo (zT_law xs L) C K P) (hF : zfgt P) (hL : L ≤ 2048) {j : Nat} {h : zH} {A : zA} {cu su : Nat} (hj : 4 * j ≤ L) (hcu : cu ≤ 2000) (hsu : su ≤ 20000) (I : zLw h A) (G : ∀ h' A' cu' su', 4 * (j + 1) ≤ L → zLw h' A' → cu' ≤ cu + 1 → su' ≤ su + 6 → P 28 [none, some (.ref 0), some (.ref 96), some (.ref 108), some (.ref 109), some (.int (nI (4 * (j + 1)))), none, none, none] [] h' 110 cu' su') : P 28 [none, some (.ref 0), some (.ref 96), some (.ref 108), some (.ref 109), some (.int (nI (4 * j))), none, none, none] [] h 110 cu su := by
  refine hgo [28,1591,180,236,316,396,476,544,557,613,681,749,817,873,886,942,998,1011,1067,1123,1191,1247,1260,1304,1317,1394,1450,1463,1476,1520,1564,1577] 60 _ _ _ _ _ _ _ ?_
  conv => whnf
  refine ⟨fun q => ?_, fun q => ?_⟩
  · conv => whnf
  · have q1 : 4 * j + 4 ≤ L := Nat.le_of_not_lt fun g => q ((zlw_sub hL hj).mpr g)
    have nx : ∀ h' A' cu' su', zLw h' A' → cu' ≤ cu + 1 → su' ≤ su + 6 → P 1591 [none, some (.ref 0), some (.ref 96), some (.ref 108), some (.ref 109), some (.int (nI (4 * j))), none, none, none] [] h' 110 cu' su' := by
      intro h' A' cu' su' g1 g2 g3
      have k := G h' A' cu' su' (by omega) g1 g2 g3
      rw [show nI (4 * (j + 1)) = nI (4 * j) + Int32.ofInt 4 by rw [show Int32.ofInt 4 = nI 4 by decide, nI_add, Nat.mul_succ]] at k
      refine hgo [28] 10 _ _ _ _ _ _ _ ?_
      conv => whnf
      exact k
    conv => whnf
    refine ⟨?_, ?_⟩
    · rw [nI_add]
      exact vp_in_nI (by omega) (by omega)
    conv => whnf
    refine ⟨fun k t ht e => ?_, fun _ => ?_⟩
    · clear e q G
      match k, ht with
      | 0, ht =>
        obtain rfl := Option.some.inj ht
        conv => whnf
        exact zlw_addBase hC hgo hF q1 hL hcu hsu I nx
      | 1, ht =>
        obtain rfl := Option.some.inj ht
        conv => whnf
        exact zlw_edit hC hgo hF q1 hL hcu hsu I nx
      | 2, ht =>
        obtain rfl := Option.some.inj ht
        conv => whnf
        exact zlw_move hC hgo hF q1 hL hcu hsu I nx
      | 3, ht =>
        obtain rfl := Option.some.inj ht
        conv => whnf
        exact zlw_insert hC hgo hF q1 hL hcu hsu I nx
      | 4, ht =>
        obtain rfl := Option.some.inj ht
        conv => whnf
        exact zlw_remove hC hgo hF q1 hL hcu hsu I nx
      | 5, ht =>
        obtain rfl := Option.some.inj ht
        conv => whnf
        exact zlw_baseSize hC hgo hF q1 hL hcu hsu I nx
      | 6, ht =>
        obtain rfl := Option.some.inj ht
        conv => whnf
        exact zlw_size hC hgo hF q1 hL hcu hsu I nx
      | 7, ht =>
        obtain rfl := Option.some.inj ht
        conv => whnf
        exact zlw_block hC hgo hF q1 hL hcu hsu I nx
      | 8, ht =>
        obtain rfl := Option.some.inj ht
        conv => whnf
        exact zlw_content hC hgo hF q1 hL hcu hsu I nx
      | 9, ht =>
        obtain rfl := Option.some.inj ht
        conv => whnf
        exact zlw_change hC hgo hF q1 hL hcu hsu I nx
      | 10, ht =>
        obtain rfl := Option.some.inj ht
        conv => whnf
        exact zlw_moves hC hgo hF q1 hL hcu hsu I nx
      | 11, ht =>
        obtain rfl := Option.some.inj ht
        conv => whnf
        exact zlw_mergedSize hC hgo hF q1 hL hcu hsu I nx
      | 12, ht =>
        obtain rfl := Option.some.inj ht
        conv => whnf
        exact zlw_mergedBlock hC hgo hF q1 hL hcu hsu I nx
      | 13, ht =>
        obtain rfl := Option.some.inj ht
        conv => whnf
        exact zlw_mergedContent hC hgo hF q1 hL hcu hsu I nx
      | 14, ht =>
        obtain rfl := Option.some.inj ht
        conv => whnf
        exact zlw_conflicts hC hgo hF q1 hL hcu hsu I nx
      | 15, ht =>
        obtain rfl := Option.some.inj ht
        conv => whnf
        exact zlw_conflictBlock hC hgo hF q1 hL hcu hsu I nx
      | 16, ht =>
        obtain rfl := Option.some.inj ht
        conv => whnf
        exact zlw_conflictKind hC hgo hF q1 hL hcu hsu I nx
      | 17, ht =>
        obtain rfl := Option.some.inj ht
        conv => whnf
        exact zlw_choose hC hgo hF q1 hL hcu hsu I nx
      | 18, ht =>
        obtain rfl := Option.some.inj ht
        conv => whnf
        exact zlw_prefer hC hgo hF q1 hL hcu hsu I nx
      | 19, ht =>
        obtain rfl := Option.some.inj ht
        conv => whnf
        exact zlw_open hC hgo hF q1 hL hcu hsu I nx
      | 20, ht =>
        obtain rfl := Option.some.inj ht
        conv => whnf
        exact zlw_accept hC hgo hF q1 hL hcu hsu I nx
      | 21, ht =>
        obtain rfl := Option.some.inj ht
        conv => whnf
        exact zlw_accepted hC hgo hF q1 hL hcu hsu I nx
      | 22, ht =>
        obtain rfl := Option.some.inj ht
        conv => whnf
        exact zlw_similarity hC hgo hF q1 hL hcu hsu I nx
      | 23, ht =>
        obtain rfl := Option.some.inj ht
        conv => whnf
        exact zlw_append hC hgo hF q1 hL hcu hsu I nx
      | 24, ht =>
        obtain rfl := Option.some.inj ht
        conv => whnf
        exact zlw_clearText hC hgo hF q1 hL hcu hsu I nx
      | 25, ht =>
        obtain rfl := Option.some.inj ht
        conv => whnf
        exact zlw_firstError hC hgo hF q1 hL hcu hsu I nx
      | 26, ht =>
        obtain rfl := Option.some.inj ht
        conv => whnf
        exact zlw_run hC hgo hF q1 hL hcu hsu I nx
      | 27, ht =>
        obtain rfl := Option.some.inj ht
        conv => whnf
        exact zlw_undo hC hgo hF q1 hL hcu hsu I nx
      | 28, ht =>
        obtain rfl := Option.some.inj ht
        conv => whnf
        exact zlw_savedStates hC hgo hF q1 hL hcu hsu I nx
      | 29, ht =>
        obtain rfl := Option.some.inj ht
        conv => whnf
        exact zlw_digest hC hgo hF q1 hL hcu hsu I nx
      | k + 30, ht => exact nomatch ht
    · conv => whnf
      exact nx h A cu su I (Nat.le_succ _) (by omega)
theorem zlw_loop {C : zK} (hC : zCld 215 zTT C) {K : zQ} {xs : Nat → Int32} {L : Nat} {P : zP} (hgo : zGo (zT_law xs L) C K P) (hF : zfgt P) (hL : L ≤ 2048) : ∀ (e j : Nat) (h : zH) (A : zA) (cu su : Nat), j + e = 513 → 4 * j ≤ L → cu ≤ 200 + j → su ≤ 3000 + 6 * j → zLw h A → P 28 [none, some (.ref 0), some (.ref 96), some (.ref 108), some (.ref 109), some (.int (nI (4 * j))), none, none, none] [] h 110 cu su
  | 0, j, h, A, cu, su, he, hj, hcu, hsu, I => by omega
  | e + 1, j, h, A, cu, su, he, hj, hcu, hsu, I => zlw_case hC hgo hF hL hj (by omega) (by omega) I (fun h' A' cu' su' g0 g1 g2 g3 => zlw_loop hC hgo hF hL e (j + 1) h' A' cu' su' (by omega) g0 (by omega) (by omega) g1)
set_option maxRecDepth 100000 in
theorem law_pure {C : zK} (hC : zCld 215 zTT C) {K : zQ} {xs : Nat → Int32} {L : Nat} {P : zP} (hgo : zGo (zT_law xs L) C K P) (hF : zfgt P) (hL : L ≤ 2048) {h : zH} : P 0 [none, none, none, none, none, none, none, none, none] [] h 0 0 0 := by
  refine hgo [28] 60 _ _ _ _ _ _ _ ?_
  conv => whnf
  refine ⟨rfl, ?_⟩
  conv => whnf
  refine ⟨rfl, _, zupd_s, ?_⟩
  refine S_X6_init hC (n := 0) zupd_s (fun h1 X1 => ?_)
  conv => whnf
  refine ⟨rfl, ?_⟩
  conv => whnf
  refine ⟨rfl, _, zupd_s, ?_⟩
  refine S_X7_init hC (n := 0) (r := 96) zupd_s (fun h2 Y2 f2 => ?_)
  have X2 : zX h2 zA0 := X1.low (fun a ha => (f2 a ha).trans (zupd_n (by omega)))
  conv => whnf
  refine ⟨by decide, by decide, rfl, ?_⟩
  conv => whnf
  refine ⟨by decide, by decide, rfl, ?_⟩
  have X3 := fun (x y : zC) => (X2.of8 (a := 108) (x := x) (by decide)).of8 (a := 109) (x := y) (by decide)
  have Y3 : ∀ (x y : zC), zY (zupd (zupd h2 108 x) 109 y) 96 zA0 0 := fun x y => Y2.eq (fun a z1 z2 => (zupd_n (by omega)).trans (zupd_n (by omega)))
  conv => whnf
  exact zlw_loop hC hgo hF hL 513 0 _ zA0 _ _ rfl (Nat.zero_le _) (by decide) (by decide) ⟨X3 _ _, ⟨_, Y3 _ _⟩, ⟨_, (zupd_n (by decide)).trans zupd_s⟩, ⟨_, zupd_s⟩⟩

