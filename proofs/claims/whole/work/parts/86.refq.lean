/-! The reference: the questions about the merged text -/
set_option maxRecDepth 100000 in
theorem S_yref2 {C : zK} (hC : zCld 215 zTT C) {h : zH} {n : Nat} {K : zQ} {r : Nat} {c : Nat → Int32} {A : zA} (H : zYc h r c A) {k : Nat} (hk : k < 1000) (H1 : 0 < k → ∀ h' c', zYc h' r c' A → c' 5 = nI k → zOff r (r + 1) h h' → K 0 (some (.int 1)) h' n) (H0 : k = 0 → ∀ h' c', zYc h' r c' A → c' 5 = nI 0 → (∀ j, j ≠ 5 → c' j = c j) → zOff r (r + 1) h h' → K 0 (some (.int 0)) h' n) : C 120 [.ref r, .int (nI k)] h n K := by
  refine S_X7_refused hC H.1.1 (fun q => ?_) (fun q => ?_)
  · have hpos : 0 < k := (nI_ltI (a := 0) (b := k) (by decide) (by omega)).mp q
    exact H1 hpos _ (upd c 5 (nI k)) (H.fld (upd_n (by decide)) (upd_n (by decide))) upd_s (zOff.up (Nat.le_refl _) (by omega))
  · have hz : k = 0 := by
      have : ¬ 0 < k := fun y => q ((nI_ltI (a := 0) (b := k) (by decide) (by omega)).mpr y)
      omega
    rw [hz] at q ⊢
    exact H0 hz _ (upd c 5 (nI 0)) (H.fld (upd_n (by decide)) (upd_n (by decide))) upd_s (fun j hj => upd_n hj) (zOff.up (Nat.le_refl _) (by omega))
set_option maxRecDepth 100000 in
theorem S_X7_mergedSize {C : zK} (hC : zCld 215 zTT C) {h : zH} {n : Nat} {K : zQ} {r th : Nat} {A : zA} (H : zY h r A th) (W : zwA A) (H1 : ∀ h', zY h' r A 0 → zOff r (r + 12) h h' → K 0 (some (.int (nI (zmer A.1).length))) h' n) : C 165 [.ref r] h n K := by
  obtain ⟨c, H, -⟩ := H
  refine zd_X7_mergedSize hC rfl fun P hgo hF => ?_
  refine hgo [] 40 _ _ _ _ _ _ _ ?_
  conv => whnf
  refine ⟨_, H.ob, Nat.le_of_ble_eq_true rfl, ⟨rfl, rfl⟩, ?_⟩
  conv => whnf
  have H2 : zYc (zupd h r (zRO r (upd c 5 0))) r (upd c 5 0) A := H.fld (upd_n (by decide)) (upd_n (by decide))
  have o2 : zOff r (r + 12) h (zupd h r (zRO r (upd c 5 0))) := zOff.up (Nat.le_refl _) (by omega)
  have e2 : upd c 5 0 5 = nI 0 := upd_s
  refine ⟨_, H2.ob, ?_⟩
  refine S_ymerges hC H2 W.1 (fun h3 c3 H3 M3 Q3 g3 o3 => ?_)
  conv => whnf
  refine ⟨_, H3.ob, _, rfl, ?_⟩
  conv => whnf
  rw [M3.2.1]
  exact H1 h3 ⟨c3, H3, (g3 5 (by decide) (by decide)).trans e2⟩ (o2.tr o3)
set_option maxRecDepth 100000 in
theorem S_X7_conflicts {C : zK} (hC : zCld 215 zTT C) {h : zH} {n : Nat} {K : zQ} {r th : Nat} {A : zA} (H : zY h r A th) (W : zwA A) (H1 : ∀ h', zY h' r A 0 → zOff r (r + 12) h h' → K 0 (some (.int (nI (zQ0 A.1).length))) h' n) : C 168 [.ref r] h n K := by
  obtain ⟨c, H, -⟩ := H
  refine zd_X7_conflicts hC rfl fun P hgo hF => ?_
  refine hgo [] 40 _ _ _ _ _ _ _ ?_
  conv => whnf
  refine ⟨_, H.ob, Nat.le_of_ble_eq_true rfl, ⟨rfl, rfl⟩, ?_⟩
  conv => whnf
  have H2 : zYc (zupd h r (zRO r (upd c 5 0))) r (upd c 5 0) A := H.fld (upd_n (by decide)) (upd_n (by decide))
  have o2 : zOff r (r + 12) h (zupd h r (zRO r (upd c 5 0))) := zOff.up (Nat.le_refl _) (by omega)
  have e2 : upd c 5 0 5 = nI 0 := upd_s
  refine ⟨_, H2.ob, ?_⟩
  refine S_ymerges hC H2 W.1 (fun h3 c3 H3 M3 Q3 g3 o3 => ?_)
  conv => whnf
  refine ⟨_, H3.ob, _, rfl, ?_⟩
  conv => whnf
  rw [Q3.1]
  exact H1 h3 ⟨c3, H3, (g3 5 (by decide) (by decide)).trans e2⟩ (o2.tr o3)
set_option maxRecDepth 100000 in
theorem S_X7_open {C : zK} (hC : zCld 215 zTT C) {h : zH} {n : Nat} {K : zQ} {r th : Nat} {A : zA} (H : zY h r A th) (W : zwA A) (H1 : ∀ h', zY h' r A 0 → zOff r (r + 12) h h' → K 0 (some (.int (nI (zopn A.1 (zQ0 A.1))))) h' n) : C 174 [.ref r] h n K := by
  obtain ⟨c, H, -⟩ := H
  refine zd_X7_open hC rfl fun P hgo hF => ?_
  refine hgo [] 40 _ _ _ _ _ _ _ ?_
  conv => whnf
  refine ⟨_, H.ob, Nat.le_of_ble_eq_true rfl, ⟨rfl, rfl⟩, ?_⟩
  conv => whnf
  have H2 : zYc (zupd h r (zRO r (upd c 5 0))) r (upd c 5 0) A := H.fld (upd_n (by decide)) (upd_n (by decide))
  have o2 : zOff r (r + 12) h (zupd h r (zRO r (upd c 5 0))) := zOff.up (Nat.le_refl _) (by omega)
  have e2 : upd c 5 0 5 = nI 0 := upd_s
  refine ⟨_, H2.ob, ?_⟩
  refine S_ymerges hC H2 W.1 (fun h3 c3 H3 M3 Q3 g3 o3 => ?_)
  conv => whnf
  refine ⟨_, H3.ob, ?_⟩
  refine S_X7_openOnes hC H3.1 Q3 ?_
  conv => whnf
  exact H1 h3 ⟨c3, H3, (g3 5 (by decide) (by decide)).trans e2⟩ (o2.tr o3)
set_option maxRecDepth 100000 in
theorem S_X7_mergedBlock {C : zK} (hC : zCld 215 zTT C) {h : zH} {n : Nat} {K : zQ} {r th : Nat} {A : zA} (H : zY h r A th) (W : zwA A) {p : Int32} (H1 : ∀ h', zY h' r A (zgk (zgM p A.1)) → zOff r (r + 12) h h' → K 0 (some (.int (zgv (zgM p A.1)))) h' n) : C 166 [.ref r, .int p] h n K := by
  obtain ⟨c, H, -⟩ := H
  unfold zgM at H1
  refine zd_X7_mergedBlock hC rfl fun P hgo hF => ?_
  refine hgo [] 60 _ _ _ _ _ _ _ ?_
  conv => whnf
  refine ⟨_, H.ob, ?_⟩
  refine S_ymerges hC H W.1 (fun h3 c3 H3 M3 Q3 g3 o3 => ?_)
  have hl : (zmer A.1).length ≤ 30 := M3.2.2.1
  obtain ⟨-, -, -, -, -, mf, nf, m6, m7, m8⟩ := id M3
  conv => whnf
  refine ⟨_, H3.ob, _, rfl, ?_⟩
  conv => whnf
  rw [M3.2.1]
  refine S_inN hC (N := (zmer A.1).length) (by omega) (zlt_pred (by omega)) (fun j e => ?_) (fun e => ?_)
  · obtain ⟨a1, a2⟩ := zps_some e
    obtain ⟨u, u1, u2, u3, u4⟩ := znm_lt a2
    rw [e] at H1
    have G : ∀ h', zY h' r A 0 → zOff r (r + 12) h h' → K 0 (some (.int (nI (znm (zmer A.1) j)))) h' n := H1
    rw [u3, ← (m8 j u u1).1] at G
    conv => whnf
    refine ⟨fun z => absurd z (by decide), fun _ => ?_⟩
    conv => whnf
    refine ⟨_, H3.ob, ?_⟩
    refine S_yref2 hC H3 (k := 0) (by decide) (fun z => absurd z (by decide)) (fun _ h4 c4 H4 e4 g4 o4 => ?_)
    have x1 := (o4 (r + 5) (by omega)).trans m6
    conv => whnf
    refine ⟨fun _ => ?_, fun z => absurd rfl z⟩
    conv => whnf
    refine ⟨_, H4.ob, _, rfl, ?_⟩
    conv => whnf
    rw [a1]
    refine ⟨_, _, x1, vp_in_nI (show j < 30 by omega) (by decide), ?_⟩
    rw [nI_clamp (show j < 2 ^ 31 by omega)]
    conv => whnf
    exact G h4 ⟨c4, H4, e4⟩ (o3.tr (o4.wd (by omega) (by omega)))
  · rw [e] at H1
    conv => whnf
    refine ⟨fun _ => ?_, fun z => absurd rfl z⟩
    conv => whnf
    refine ⟨_, H3.ob, ?_⟩
    refine S_yref2 hC H3 (k := 1) (by decide) (fun _ h4 c4 H4 e4 o4 => ?_) (fun z => absurd z (by decide))
    conv => whnf
    refine ⟨fun z => absurd z (by decide), fun _ => ?_⟩
    conv => whnf
    exact H1 h4 ⟨c4, H4, e4⟩ (o3.tr (o4.wd (by omega) (by omega)))
set_option maxRecDepth 100000 in
theorem S_X7_mergedContent {C : zK} (hC : zCld 215 zTT C) {h : zH} {n : Nat} {K : zQ} {r th : Nat} {A : zA} (H : zY h r A th) (W : zwA A) {p : Int32} (H1 : ∀ h', zY h' r A (zgk (zgN p A.1)) → zOff r (r + 12) h h' → K 0 (some (.int (zgv (zgN p A.1)))) h' n) : C 167 [.ref r, .int p] h n K := by
  obtain ⟨c, H, -⟩ := H
  unfold zgN at H1
  refine zd_X7_mergedContent hC rfl fun P hgo hF => ?_
  refine hgo [] 60 _ _ _ _ _ _ _ ?_
  conv => whnf
  refine ⟨_, H.ob, ?_⟩
  refine S_ymerges hC H W.1 (fun h3 c3 H3 M3 Q3 g3 o3 => ?_)
  have hl : (zmer A.1).length ≤ 30 := M3.2.2.1
  obtain ⟨-, -, -, -, -, mf, nf, m6, m7, m8⟩ := id M3
  conv => whnf
  refine ⟨_, H3.ob, _, rfl, ?_⟩
  conv => whnf
  rw [M3.2.1]
  refine S_inN hC (N := (zmer A.1).length) (by omega) (zlt_pred (by omega)) (fun j e => ?_) (fun e => ?_)
  · obtain ⟨a1, a2⟩ := zps_some e
    obtain ⟨u, u1, u2, u3, u4⟩ := znm_lt a2
    rw [e] at H1
    have G : ∀ h', zY h' r A 0 → zOff r (r + 12) h h' → K 0 (some (.int (nI (zbc (zmer A.1) j)))) h' n := H1
    rw [u4, ← (m8 j u u1).2] at G
    conv => whnf
    refine ⟨fun z => absurd z (by decide), fun _ => ?_⟩
    conv => whnf
    refine ⟨_, H3.ob, ?_⟩
    refine S_yref2 hC H3 (k := 0) (by decide) (fun z => absurd z (by decide)) (fun _ h4 c4 H4 e4 g4 o4 => ?_)
    have x1 := (o4 (r + 6) (by omega)).trans m7
    conv => whnf
    refine ⟨fun _ => ?_, fun z => absurd rfl z⟩
    conv => whnf
    refine ⟨_, H4.ob, _, rfl, ?_⟩
    conv => whnf
    rw [a1]
    refine ⟨_, _, x1, vp_in_nI (show j < 30 by omega) (by decide), ?_⟩
    rw [nI_clamp (show j < 2 ^ 31 by omega)]
    conv => whnf
    exact G h4 ⟨c4, H4, e4⟩ (o3.tr (o4.wd (by omega) (by omega)))
  · rw [e] at H1
    conv => whnf
    refine ⟨fun _ => ?_, fun z => absurd rfl z⟩
    conv => whnf
    refine ⟨_, H3.ob, ?_⟩
    refine S_yref2 hC H3 (k := 1) (by decide) (fun _ h4 c4 H4 e4 o4 => ?_) (fun z => absurd z (by decide))
    conv => whnf
    refine ⟨fun z => absurd z (by decide), fun _ => ?_⟩
    conv => whnf
    exact H1 h4 ⟨c4, H4, e4⟩ (o3.tr (o4.wd (by omega) (by omega)))
set_option maxRecDepth 100000 in
theorem S_X7_conflictBlock {C : zK} (hC : zCld 215 zTT C) {h : zH} {n : Nat} {K : zQ} {r th : Nat} {A : zA} (H : zY h r A th) (W : zwA A) {p : Int32} (H1 : ∀ h', zY h' r A (zgk (zgF p A.1)) → zOff r (r + 12) h h' → K 0 (some (.int (zgv (zgF p A.1)))) h' n) : C 169 [.ref r, .int p] h n K := by
  obtain ⟨c, H, -⟩ := H
  unfold zgF at H1
  refine zd_X7_conflictBlock hC rfl fun P hgo hF => ?_
  refine hgo [] 60 _ _ _ _ _ _ _ ?_
  conv => whnf
  refine ⟨_, H.ob, ?_⟩
  refine S_ymerges hC H W.1 (fun h3 c3 H3 M3 Q3 g3 o3 => ?_)
  have hl : (zQ0 A.1).length ≤ 20 := Q3.2.1
  obtain ⟨-, -, -, mf, nf, m6, m7, m8⟩ := id Q3
  conv => whnf
  refine ⟨_, H3.ob, _, rfl, ?_⟩
  conv => whnf
  rw [Q3.1]
  refine S_inN hC (N := (zQ0 A.1).length) (by omega) (zlt_pred (by omega)) (fun j e => ?_) (fun e => ?_)
  · obtain ⟨a1, a2⟩ := zps_some e
    obtain ⟨u, u1, u2, u3, u4⟩ := znm_lt a2
    rw [e] at H1
    have G : ∀ h', zY h' r A 0 → zOff r (r + 12) h h' → K 0 (some (.int (nI (znm (zQ0 A.1) j)))) h' n := H1
    rw [u3, ← (m8 j u u1).1] at G
    conv => whnf
    refine ⟨fun z => absurd z (by decide), fun _ => ?_⟩
    conv => whnf
    refine ⟨_, H3.ob, ?_⟩
    refine S_yref2 hC H3 (k := 0) (by decide) (fun z => absurd z (by decide)) (fun _ h4 c4 H4 e4 g4 o4 => ?_)
    have x1 := (o4 (r + 7) (by omega)).trans m6
    conv => whnf
    refine ⟨fun _ => ?_, fun z => absurd rfl z⟩
    conv => whnf
    refine ⟨_, H4.ob, _, rfl, ?_⟩
    conv => whnf
    rw [a1]
    refine ⟨_, _, x1, vp_in_nI (show j < 20 by omega) (by decide), ?_⟩
    rw [nI_clamp (show j < 2 ^ 31 by omega)]
    conv => whnf
    exact G h4 ⟨c4, H4, e4⟩ (o3.tr (o4.wd (by omega) (by omega)))
  · rw [e] at H1
    conv => whnf
    refine ⟨fun _ => ?_, fun z => absurd rfl z⟩
    conv => whnf
    refine ⟨_, H3.ob, ?_⟩
    refine S_yref2 hC H3 (k := 1) (by decide) (fun _ h4 c4 H4 e4 o4 => ?_) (fun z => absurd z (by decide))
    conv => whnf
    refine ⟨fun z => absurd z (by decide), fun _ => ?_⟩
    conv => whnf
    exact H1 h4 ⟨c4, H4, e4⟩ (o3.tr (o4.wd (by omega) (by omega)))
set_option maxRecDepth 100000 in
theorem S_X7_conflictKind {C : zK} (hC : zCld 215 zTT C) {h : zH} {n : Nat} {K : zQ} {r th : Nat} {A : zA} (H : zY h r A th) (W : zwA A) {p : Int32} (H1 : ∀ h', zY h' r A (zgk (zgG p A.1)) → zOff r (r + 12) h h' → K 0 (some (.int (zgv (zgG p A.1)))) h' n) : C 170 [.ref r, .int p] h n K := by
  obtain ⟨c, H, -⟩ := H
  unfold zgG at H1
  refine zd_X7_conflictKind hC rfl fun P hgo hF => ?_
  refine hgo [] 60 _ _ _ _ _ _ _ ?_
  conv => whnf
  refine ⟨_, H.ob, ?_⟩
  refine S_ymerges hC H W.1 (fun h3 c3 H3 M3 Q3 g3 o3 => ?_)
  have hl : (zQ0 A.1).length ≤ 20 := Q3.2.1
  obtain ⟨-, -, -, mf, nf, m6, m7, m8⟩ := id Q3
  conv => whnf
  refine ⟨_, H3.ob, _, rfl, ?_⟩
  conv => whnf
  rw [Q3.1]
  refine S_inN hC (N := (zQ0 A.1).length) (by omega) (zlt_pred (by omega)) (fun j e => ?_) (fun e => ?_)
  · obtain ⟨a1, a2⟩ := zps_some e
    obtain ⟨u, u1, u2, u3, u4⟩ := znm_lt a2
    rw [e] at H1
    have G : ∀ h', zY h' r A 0 → zOff r (r + 12) h h' → K 0 (some (.int (nI (zbc (zQ0 A.1) j)))) h' n := H1
    rw [u4, ← (m8 j u u1).2] at G
    conv => whnf
    refine ⟨fun z => absurd z (by decide), fun _ => ?_⟩
    conv => whnf
    refine ⟨_, H3.ob, ?_⟩
    refine S_yref2 hC H3 (k := 0) (by decide) (fun z => absurd z (by decide)) (fun _ h4 c4 H4 e4 g4 o4 => ?_)
    have x1 := (o4 (r + 8) (by omega)).trans m7
    conv => whnf
    refine ⟨fun _ => ?_, fun z => absurd rfl z⟩
    conv => whnf
    refine ⟨_, H4.ob, _, rfl, ?_⟩
    conv => whnf
    rw [a1]
    refine ⟨_, _, x1, vp_in_nI (show j < 20 by omega) (by decide), ?_⟩
    rw [nI_clamp (show j < 2 ^ 31 by omega)]
    conv => whnf
    exact G h4 ⟨c4, H4, e4⟩ (o3.tr (o4.wd (by omega) (by omega)))
  · rw [e] at H1
    conv => whnf
    refine ⟨fun _ => ?_, fun z => absurd rfl z⟩
    conv => whnf
    refine ⟨_, H3.ob, ?_⟩
    refine S_yref2 hC H3 (k := 1) (by decide) (fun _ h4 c4 H4 e4 o4 => ?_) (fun z => absurd z (by decide))
    conv => whnf
    refine ⟨fun z => absurd z (by decide), fun _ => ?_⟩
    conv => whnf
    exact H1 h4 ⟨c4, H4, e4⟩ (o3.tr (o4.wd (by omega) (by omega)))

