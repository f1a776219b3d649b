/-! The reference: prefer, undo, append, clearText -/
set_option maxRecDepth 100000 in
theorem S_X7_prefer {C : zK} (hC : zCld 215 zTT C) {h : zH} {n : Nat} {K : zQ} {r th : Nat} {A : zA} (H : zY h r A th) (W : zwA A) {d : Int32} (H1 : ∀ h', zY h' r (zoC (zcP d A.1) A).2.1 (zoC (zcP d A.1) A).1 → zOff r (r + 12) h h' → K 0 (some (.int (zoC (zcP d A.1) A).2.2)) h' n) : C 172 [.ref r, .int d] h n K := by
  obtain ⟨c, H, -⟩ := H
  have hsl := W.2.2.1
  refine zd_X7_prefer hC rfl fun P hgo hF => ?_
  refine hgo [] 40 _ _ _ _ _ _ _ ?_
  conv => whnf
  refine S_X7_isDraft hC (fun d' e => ?_) (fun e => ?_)
  · obtain ⟨a1, a2⟩ := zps_some e
    have e1 : zcP d A.1 = (0, (zba A.1, zd0 A.1, zd1 A.1, zus A.1, d', zac A.1, zch A.1), nI (zpf A.1)) := by
      unfold zcP
      rw [e]
    rw [e1] at H1
    conv => whnf
    refine ⟨fun z => absurd z (by decide), fun _ => ?_⟩
    conv => whnf
    refine ⟨_, H.ob, ?_⟩
    refine S_yref hC H (k := 0) (by decide) (fun z => absurd z (by decide)) (fun _ h2 c2 H2 e2 o2 => ?_)
    conv => whnf
    refine ⟨fun _ => ?_, fun z => absurd rfl z⟩
    conv => whnf
    refine ⟨_, H2.ob, ?_⟩
    refine S_ysave hC H2 hsl (fun h3 c3 H3 e3 o3 => ?_)
    obtain ⟨b1, f, b2, b3⟩ := id H3.1
    conv => whnf
    refine ⟨_, b1, _, rfl, ?_⟩
    conv => whnf
    refine ⟨_, _, b2, vp_in_nI (n := 104) (by omega) (by decide), ?_⟩
    conv => whnf
    rw [show (104 : Int32).toNatClampNeg = 104 by decide, b3.2.2.2.2.2.1]
    refine ⟨_, b1, _, rfl, ?_⟩
    conv => whnf
    refine ⟨_, _, b2, vp_in_nI (n := 104) (by omega) (by decide), ?_⟩
    conv => whnf
    have o4 : zOff (r + 1) (r + 2) h3 (zupd h3 (r + 1) (.inl (0, 106, .inl (upd f 104 d)))) := zOff.up (Nat.le_refl _) (by omega)
    have H4 : zRr (zupd h3 (r + 1) (.inl (0, 106, .inl (upd f 104 d)))) r c3 (zba A.1, zd0 A.1, zd1 A.1, zus A.1, d', zac A.1, zch A.1) := by
      obtain ⟨p1, p2, p3, p4, p5, p6, p7, p8, p9, p10, p11, p12⟩ := b3
      refine ⟨(o4 r (by omega)).trans b1, _, zupd_s, (upd_n (by omega)).trans p1, (upd_n (by omega)).trans p2, fun i v hv => ?_, fun d2 hd2 => ?_, fun k hk => (upd_n (by omega)).trans (p5 k hk), ?_, (upd_n (by omega)).trans p7, p8, p9, p10, p11, p12⟩
      · have hi : i < (zba A.1).length := (List.getElem?_eq_some_iff.mp hv).1
        have p8' : (zba A.1).length ≤ 10 := p8
        exact (upd_n (by omega)).trans (p3 i v hv)
      · obtain ⟨q1, q2⟩ := p4 d2 hd2
        refine ⟨(upd_n (by omega)).trans q1, fun j v hv => ?_⟩
        have hj : j < (zdr A.1 d2).length := (List.getElem?_eq_some_iff.mp hv).1
        have p9' : (zdr A.1 d2).length ≤ 15 := p9 d2
        exact ⟨(upd_n (by omega)).trans (q2 j v hv).1, (upd_n (by omega)).trans (q2 j v hv).2⟩
      · rw [upd_s]
        exact a1
    exact H1 _ ⟨c3, H3.put H4 o4, e3.trans e2⟩ (((o2.wd (by omega) (by omega)).tr o3).tr (o4.wd (by omega) (by omega)))
  · have e1 : zcP d A.1 = (1, A.1, 0) := by
      unfold zcP
      rw [e]
    rw [e1] at H1
    conv => whnf
    refine ⟨fun _ => ?_, fun z => absurd rfl z⟩
    conv => whnf
    refine ⟨_, H.ob, ?_⟩
    refine S_yref hC H (k := 1) (by decide) (fun _ h2 c2 H2 e2 o2 => ?_) (fun z => absurd z (by decide))
    conv => whnf
    refine ⟨fun z => absurd z (by decide), fun _ => ?_⟩
    conv => whnf
    exact H1 h2 ⟨c2, H2, e2⟩ (o2.wd (by omega) (by omega))
set_option maxRecDepth 100000 in
theorem S_X7_clearText {C : zK} (hC : zCld 215 zTT C) {h : zH} {n : Nat} {K : zQ} {r th : Nat} {A : zA} (H : zY h r A th) (H1 : ∀ h', zY h' r (A.1, A.2.1, []) 0 → zOff r (r + 12) h h' → K 0 (some (.int (nI A.2.2.length))) h' n) : C 179 [.ref r] h n K := by
  obtain ⟨c, H, -⟩ := H
  refine zd_X7_clearText hC rfl fun P hgo hF => ?_
  refine hgo [] 30 _ _ _ _ _ _ _ ?_
  conv => whnf
  refine ⟨_, H.ob, Nat.le_of_ble_eq_true rfl, ⟨rfl, rfl⟩, ?_⟩
  conv => whnf
  have H2 : zYc (zupd h r (zRO r (upd c 5 0))) r (upd c 5 0) A := H.fld (upd_n (by decide)) (upd_n (by decide))
  refine ⟨_, H2.ob, _, rfl, ?_⟩
  conv => whnf
  have e4 : upd c 5 0 4 = nI A.2.2.length := H2.2.2.2.2.2
  rw [← e4] at H1
  refine ⟨_, H2.ob, Nat.le_of_ble_eq_true rfl, ⟨rfl, rfl⟩, ?_⟩
  conv => whnf
  have o1 : zOff r (r + 12) h (zupd h r (zRO r (upd c 5 0))) := zOff.up (Nat.le_refl _) (by omega)
  obtain ⟨⟨q1, f, q2, q3⟩, ⟨bf, q4, q5⟩, ⟨tf, q6, q7⟩, q8, q9, q10⟩ := H2
  have o2 : zOff r (r + 12) (zupd h r (zRO r (upd c 5 0))) (zupd (zupd h r (zRO r (upd c 5 0))) r (zRO r (upd (upd c 5 0) 4 0))) := zOff.up (Nat.le_refl _) (by omega)
  exact H1 _ ⟨upd (upd c 5 0) 4 0, ⟨⟨zupd_s, f, (zupd_n (by omega)).trans q2, q3⟩, ⟨bf, (zupd_n (by omega)).trans q4, q5⟩, ⟨tf, (zupd_n (by omega)).trans q6, fun j x hx => nomatch hx⟩, q8.eq (fun a h5 h6 => zupd_n (by omega)), (upd_n (by decide)).trans q9, upd_s⟩, (upd_n (by decide)).trans upd_s⟩ (o1.tr o2)
set_option maxRecDepth 100000 in
theorem S_X7_append {C : zK} (hC : zCld 215 zTT C) {h : zH} {n : Nat} {K : zQ} {r th : Nat} {A : zA} (H : zY h r A th) (W : zwA A) {x : Int32} (H1 : ∀ h', zY h' r (zoA x A).2.1 (zoA x A).1 → zOff r (r + 12) h h' → K 0 (some (.int (zoA x A).2.2)) h' n) : C 178 [.ref r, .int x] h n K := by
  obtain ⟨c, H, -⟩ := H
  have hl := W.2.2.2.1
  unfold zoA at H1
  refine zd_X7_append hC rfl fun P hgo hF => ?_
  refine hgo [] 60 _ _ _ _ _ _ _ ?_
  conv => whnf
  refine S_X7_in hC (fun z1 z2 => ?_) (fun z => ?_)
  · rw [if_neg (fun z => z.elim (fun y => absurd y (Int32.not_lt.mpr z1)) (fun y => absurd y (Int32.not_lt.mpr z2)))] at H1
    have e4 : c 4 = nI A.2.2.length := H.2.2.2.2.2
    conv => whnf
    refine ⟨fun _ => ?_, fun z => absurd z (by decide)⟩
    conv => whnf
    refine ⟨_, H.ob, _, rfl, ?_⟩
    conv => whnf
    rw [e4]
    refine ⟨fun q => ?_, fun q => ?_⟩
    · have c2 : ¬ A.2.2.length = 60 := fun z => q (by rw [z]; rfl)
      rw [if_neg c2] at H1
      conv => whnf
      refine ⟨_, H.ob, ?_⟩
      refine S_yref hC H (k := 0) (by decide) (fun z => absurd z (by decide)) (fun _ h2 c2 H2 e2 o2 => ?_)
      obtain ⟨⟨q1, f, q2, q3⟩, ⟨bf, q4, q5⟩, ⟨tf, q6, q7⟩, q8, q9, q10⟩ := id H2
      conv => whnf
      refine ⟨fun _ => ?_, fun z => absurd rfl z⟩
      conv => whnf
      refine ⟨_, q1, _, rfl, ?_⟩
      conv => whnf
      refine ⟨_, q1, _, rfl, ?_⟩
      conv => whnf
      rw [q10]
      refine ⟨_, _, q6, vp_in_nI (show A.2.2.length < 60 by omega) (by decide), ?_⟩
      rw [nI_clamp (by omega)]
      conv => whnf
      have o3 : zOff (r + 3) (r + 4) h2 (zupd h2 (r + 3) (.inl (0, 60, .inl (upd tf A.2.2.length x)))) := zOff.up (Nat.le_refl _) (by omega)
      have t1 := (o3 r (by omega)).trans q1
      have t2 := (o3 (r + 1) (by omega)).trans q2
      have t4 := (o3 (r + 2) (by omega)).trans q4
      have t6 := zupd_s (h := h2) (a := r + 3) (c := .inl (0, 60, .inl (upd tf A.2.2.length x)))
      have t8 := q8.eq (fun a h5 h6 => o3 a (by omega))
      generalize zupd h2 (r + 3) (.inl (0, 60, .inl (upd tf A.2.2.length x))) = h3 at o3 t1 t2 t4 t6 t8 ⊢
      refine ⟨_, t1, _, rfl, ?_⟩
      conv => whnf
      refine ⟨_, t1, Nat.le_of_ble_eq_true rfl, ⟨rfl, rfl⟩, ?_⟩
      conv => whnf
      have o4 : zOff r (r + 12) h3 (zupd h3 r (zRO r (upd c2 4 (c2 4 + 1)))) := zOff.up (Nat.le_refl _) (by omega)
      have u1 : zupd h3 r (zRO r (upd c2 4 (c2 4 + 1))) r = zRO r (upd c2 4 (c2 4 + 1)) := zupd_s
      refine ⟨_, u1, _, rfl, ?_⟩
      conv => whnf
      have e5 : upd c2 4 (c2 4 + 1) 4 = nI (A.2.2.length + 1) := by rw [upd_s, q10, nI_1]
      rw [← e5] at H1
      refine H1 _ ⟨upd c2 4 (c2 4 + 1), ⟨⟨zupd_s, f, (zupd_n (by omega)).trans t2, q3⟩, ⟨bf, (zupd_n (by omega)).trans t4, q5⟩, ⟨upd tf A.2.2.length x, (zupd_n (by omega)).trans t6, fun j y hy => ?_⟩, t8.eq (fun a h5 h6 => zupd_n (by omega)), (upd_n (by decide)).trans q9, ?_⟩, (upd_n (by decide)).trans e2⟩ (((o2.wd (by omega) (by omega)).tr (o3.wd (by omega) (by omega))).tr o4)
      · have hy' : (A.2.2 ++ [x])[j]? = some y := hy
        by_cases c1 : j < A.2.2.length
        · rw [List.getElem?_append_left c1] at hy'
          rw [upd_n (by omega)]
          exact q7 j y hy'
        · have c3 : j = A.2.2.length := by
            have h9 := (List.getElem?_eq_some_iff.mp hy').1
            rw [List.length_append] at h9
            have e1 : [x].length = 1 := rfl
            omega
          rw [c3, List.getElem?_append_right (Nat.le_refl _), Nat.sub_self] at hy'
          have e7 : x = y := Option.some.inj hy'
          rw [c3, upd_s]
          exact e7
      · show upd c2 4 (c2 4 + 1) 4 = nI (A.2.2 ++ [x]).length
        rw [e5, List.length_append]
        rfl
    · have c2 : A.2.2.length = 60 := nI_inj (b := 60) (by omega) (by decide) q
      rw [if_pos c2] at H1
      conv => whnf
      refine ⟨_, H.ob, ?_⟩
      refine S_yref hC H (k := 2) (by decide) (fun _ h2 c2 H2 e2 o2 => ?_) (fun z => absurd z (by decide))
      conv => whnf
      refine ⟨fun z => absurd z (by decide), fun _ => ?_⟩
      conv => whnf
      exact H1 h2 ⟨c2, H2, e2⟩ (o2.wd (by omega) (by omega))
  · rw [if_pos z] at H1
    conv => whnf
    refine ⟨fun z => absurd rfl z, fun _ => ?_⟩
    conv => whnf
    refine ⟨_, H.ob, ?_⟩
    refine S_yref hC H (k := 1) (by decide) (fun _ h2 c2 H2 e2 o2 => ?_) (fun z => absurd z (by decide))
    conv => whnf
    refine ⟨fun z => absurd z (by decide), fun _ => ?_⟩
    conv => whnf
    exact H1 h2 ⟨c2, H2, e2⟩ (o2.wd (by omega) (by omega))

