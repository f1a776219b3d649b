/-! The reference: questions that do not merge -/
theorem zYc.ob {h : zH} {r : Nat} {c : Nat → Int32} {A : zA} (H : zYc h r c A) : h r = zRO r c := H.1.1
set_option maxRecDepth 100000 in
theorem S_X7_baseSize {C : zK} (hC : zCld 215 zTT C) {h : zH} {n : Nat} {K : zQ} {r th : Nat} {A : zA} (H : zY h r A th) (H1 : ∀ h', zY h' r A 0 → zOff r (r + 12) h h' → K 0 (some (.int (nI (zba A.1).length))) h' n) : C 149 [.ref r] h n K := by
  obtain ⟨c, H, -⟩ := H
  refine zd_X7_baseSize hC rfl fun P hgo hF => ?_
  refine hgo [] 20 _ _ _ _ _ _ _ ?_
  conv => whnf
  refine ⟨_, H.ob, Nat.le_of_ble_eq_true rfl, ⟨rfl, rfl⟩, ?_⟩
  conv => whnf
  have H2 : zYc (zupd h r (zRO r (upd c 5 0))) r (upd c 5 0) A := H.fld (upd_n (by decide)) (upd_n (by decide))
  obtain ⟨b1, f, b2, b3⟩ := id H2.1
  refine ⟨_, b1, _, rfl, ?_⟩
  conv => whnf
  refine ⟨_, _, b2, vp_in_nI (n := 0) (by omega) (by decide), ?_⟩
  conv => whnf
  rw [show (0 : Int32).toNatClampNeg = 0 by decide, b3.1]
  exact H1 _ ⟨_, H2, upd_s⟩ (zOff.up (Nat.le_refl _) (by omega))
set_option maxRecDepth 100000 in
theorem S_X7_accepted {C : zK} (hC : zCld 215 zTT C) {h : zH} {n : Nat} {K : zQ} {r th : Nat} {A : zA} (H : zY h r A th) (H1 : ∀ h', zY h' r A 0 → zOff r (r + 12) h h' → K 0 (some (.int (nI (zac A.1)))) h' n) : C 176 [.ref r] h n K := by
  obtain ⟨c, H, -⟩ := H
  refine zd_X7_accepted hC rfl fun P hgo hF => ?_
  refine hgo [] 20 _ _ _ _ _ _ _ ?_
  conv => whnf
  refine ⟨_, H.ob, Nat.le_of_ble_eq_true rfl, ⟨rfl, rfl⟩, ?_⟩
  conv => whnf
  have H2 : zYc (zupd h r (zRO r (upd c 5 0))) r (upd c 5 0) A := H.fld (upd_n (by decide)) (upd_n (by decide))
  obtain ⟨b1, f, b2, b3⟩ := id H2.1
  refine ⟨_, b1, _, rfl, ?_⟩
  conv => whnf
  refine ⟨_, _, b2, vp_in_nI (n := 105) (by omega) (by decide), ?_⟩
  conv => whnf
  rw [show (105 : Int32).toNatClampNeg = 105 by decide, b3.2.2.2.2.2.2.1]
  exact H1 _ ⟨_, H2, upd_s⟩ (zOff.up (Nat.le_refl _) (by omega))
set_option maxRecDepth 100000 in
theorem S_X7_savedStates {C : zK} (hC : zCld 215 zTT C) {h : zH} {n : Nat} {K : zQ} {r th : Nat} {A : zA} (H : zY h r A th) (H1 : ∀ h', zY h' r A 0 → zOff r (r + 12) h h' → K 0 (some (.int (nI A.2.1.length))) h' n) : C 191 [.ref r] h n K := by
  obtain ⟨c, H, -⟩ := H
  refine zd_X7_savedStates hC rfl fun P hgo hF => ?_
  refine hgo [] 20 _ _ _ _ _ _ _ ?_
  conv => whnf
  refine ⟨_, H.ob, Nat.le_of_ble_eq_true rfl, ⟨rfl, rfl⟩, ?_⟩
  conv => whnf
  have H2 : zYc (zupd h r (zRO r (upd c 5 0))) r (upd c 5 0) A := H.fld (upd_n (by decide)) (upd_n (by decide))
  refine ⟨_, H2.ob, _, rfl, ?_⟩
  conv => whnf
  have e2 : upd c 5 0 2 = nI A.2.1.length := H2.2.2.2.2.1
  rw [← e2] at H1
  exact H1 _ ⟨_, H2, upd_s⟩ (zOff.up (Nat.le_refl _) (by omega))
def zgk (r : Option Int32) : Nat := match r with
  | some _ => 0
  | none => 1
def zgv (r : Option Int32) : Int32 := match r with
  | some v => v
  | none => 0
set_option maxRecDepth 100000 in
theorem S_X7_size {C : zK} (hC : zCld 215 zTT C) {h : zH} {n : Nat} {K : zQ} {r th : Nat} {A : zA} (H : zY h r A th) {d : Int32} (H1 : ∀ h', zY h' r A (zgk (zgS d A.1)) → zOff r (r + 12) h h' → K 0 (some (.int (zgv (zgS d A.1)))) h' n) : C 150 [.ref r, .int d] h n K := by
  obtain ⟨c, H, -⟩ := H
  unfold zgS at H1
  refine zd_X7_size hC rfl fun P hgo hF => ?_
  refine hgo [] 30 _ _ _ _ _ _ _ ?_
  conv => whnf
  refine S_X7_isDraft hC (fun d' e => ?_) (fun e => ?_)
  · obtain ⟨a1, a2⟩ := zps_some e
    rw [e] at H1
    conv => whnf
    refine ⟨fun z => absurd z (by decide), fun _ => ?_⟩
    conv => whnf
    refine ⟨_, H.ob, ?_⟩
    refine S_yref hC H (k := 0) (by decide) (fun z => absurd z (by decide)) (fun _ h2 c2 H2 e2 o2 => ?_)
    conv => whnf
    refine ⟨fun _ => ?_, fun z => absurd rfl z⟩
    conv => whnf
    refine ⟨_, H2.ob, ?_⟩
    rw [a1]
    refine S_X7_sizeOf hC H2.1 a2 ?_
    conv => whnf
    exact H1 h2 ⟨c2, H2, e2⟩ (o2.wd (by omega) (by omega))
  · rw [e] at H1
    conv => whnf
    refine ⟨fun _ => ?_, fun z => absurd rfl z⟩
    conv => whnf
    refine ⟨_, H.ob, ?_⟩
    refine S_yref hC H (k := 1) (by decide) (fun _ h2 c2 H2 e2 o2 => ?_) (fun z => absurd z (by decide))
    conv => whnf
    refine ⟨fun z => absurd z (by decide), fun _ => ?_⟩
    conv => whnf
    exact H1 h2 ⟨c2, H2, e2⟩ (o2.wd (by omega) (by omega))
set_option maxRecDepth 100000 in
theorem S_X7_block {C : zK} (hC : zCld 215 zTT C) {h : zH} {n : Nat} {K : zQ} {r th : Nat} {A : zA} (H : zY h r A th) {d p : Int32} (H1 : ∀ h', zY h' r A (zgk (zgB d p A.1)) → zOff r (r + 12) h h' → K 0 (some (.int (zgv (zgB d p A.1)))) h' n) : C 151 [.ref r, .int d, .int p] h n K := by
  obtain ⟨c, H, -⟩ := H
  unfold zgB at H1
  refine zd_X7_block hC rfl fun P hgo hF => ?_
  refine hgo [] 30 _ _ _ _ _ _ _ ?_
  conv => whnf
  refine ⟨_, H.ob, ?_⟩
  refine S_X7_isThere hC H.1 (fun d' p' e e9 => ?_) (fun e => ?_)
  · obtain ⟨a1, a2⟩ := zps_some e
    obtain ⟨b1, b2⟩ := zps_some e9
    obtain ⟨u, u1, u2, u3, u4⟩ := znm_lt b2
    have e3 : zhp d p A.1 = some (d', p') := by
      unfold zhp
      simp only [e, e9]
    rw [e3] at H1
    have H3 : ∀ h', zY h' r A 0 → zOff r (r + 12) h h' → K 0 (some (.int (nI (znm (zdr A.1 d') p')))) h' n := H1
    rw [u3] at H3
    conv => whnf
    refine ⟨fun z => absurd z (by decide), fun _ => ?_⟩
    conv => whnf
    refine ⟨_, H.ob, ?_⟩
    refine S_yref hC H (k := 0) (by decide) (fun z => absurd z (by decide)) (fun _ h2 c2 H2 e2 o2 => ?_)
    conv => whnf
    refine ⟨fun _ => ?_, fun z => absurd rfl z⟩
    conv => whnf
    refine ⟨_, H2.ob, ?_⟩
    rw [a1, b1]
    refine S_X7_numberAt hC H2.1 a2 u1 ?_
    conv => whnf
    exact H3 h2 ⟨c2, H2, e2⟩ (o2.wd (by omega) (by omega))
  · rw [e] at H1
    conv => whnf
    refine ⟨fun _ => ?_, fun z => absurd rfl z⟩
    conv => whnf
    refine ⟨_, H.ob, ?_⟩
    refine S_yref hC H (k := 1) (by decide) (fun _ h2 c2 H2 e2 o2 => ?_) (fun z => absurd z (by decide))
    conv => whnf
    refine ⟨fun z => absurd z (by decide), fun _ => ?_⟩
    conv => whnf
    exact H1 h2 ⟨c2, H2, e2⟩ (o2.wd (by omega) (by omega))
set_option maxRecDepth 100000 in
theorem S_X7_content {C : zK} (hC : zCld 215 zTT C) {h : zH} {n : Nat} {K : zQ} {r th : Nat} {A : zA} (H : zY h r A th) {d p : Int32} (H1 : ∀ h', zY h' r A (zgk (zgK d p A.1)) → zOff r (r + 12) h h' → K 0 (some (.int (zgv (zgK d p A.1)))) h' n) : C 152 [.ref r, .int d, .int p] h n K := by
  obtain ⟨c, H, -⟩ := H
  unfold zgK at H1
  refine zd_X7_content hC rfl fun P hgo hF => ?_
  refine hgo [] 30 _ _ _ _ _ _ _ ?_
  conv => whnf
  refine ⟨_, H.ob, ?_⟩
  refine S_X7_isThere hC H.1 (fun d' p' e e9 => ?_) (fun e => ?_)
  · obtain ⟨a1, a2⟩ := zps_some e
    obtain ⟨b1, b2⟩ := zps_some e9
    obtain ⟨u, u1, u2, u3, u4⟩ := znm_lt b2
    have e3 : zhp d p A.1 = some (d', p') := by
      unfold zhp
      simp only [e, e9]
    rw [e3] at H1
    have H3 : ∀ h', zY h' r A 0 → zOff r (r + 12) h h' → K 0 (some (.int (nI (zbc (zdr A.1 d') p')))) h' n := H1
    rw [u4] at H3
    conv => whnf
    refine ⟨fun z => absurd z (by decide), fun _ => ?_⟩
    conv => whnf
    refine ⟨_, H.ob, ?_⟩
    refine S_yref hC H (k := 0) (by decide) (fun z => absurd z (by decide)) (fun _ h2 c2 H2 e2 o2 => ?_)
    conv => whnf
    refine ⟨fun _ => ?_, fun z => absurd rfl z⟩
    conv => whnf
    refine ⟨_, H2.ob, ?_⟩
    rw [a1, b1]
    refine S_X7_insideAt hC H2.1 a2 u1 ?_
    conv => whnf
    exact H3 h2 ⟨c2, H2, e2⟩ (o2.wd (by omega) (by omega))
  · rw [e] at H1
    conv => whnf
    refine ⟨fun _ => ?_, fun z => absurd rfl z⟩
    conv => whnf
    refine ⟨_, H.ob, ?_⟩
    refine S_yref hC H (k := 1) (by decide) (fun _ h2 c2 H2 e2 o2 => ?_) (fun z => absurd z (by decide))
    conv => whnf
    refine ⟨fun z => absurd z (by decide), fun _ => ?_⟩
    conv => whnf
    exact H1 h2 ⟨c2, H2, e2⟩ (o2.wd (by omega) (by omega))

